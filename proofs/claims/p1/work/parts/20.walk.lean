/-! decode rows and regions (by program): X11_feasible X11_score X11_aim X11_broken X11_weigh X11_pin X11_put X11_value X11_change X11_fact X11_rule X11_range X11_shown X11_letter X11_letterOf X11_find X11_count X11_drop X11_fault X11_problem X11_tapeAt X11_spoil X11_cut X11_type X12_init X12_bring X12_numberAt X12_byteOf X12_mixed X12_readRow -/
theorem d_X11_feasible_0 : decode prog_1_method_24_code 0 = .ok (.aload_n 0, 1) := by decide +kernel
theorem d_X11_feasible_1 : decode prog_1_method_24_code 1 = .ok (.iload_n 1, 1) := by decide +kernel
theorem d_X11_feasible_2 : decode prog_1_method_24_code 2 = .ok (.invokevirtual 132, 3) := by decide +kernel
theorem d_X11_feasible_5 : decode prog_1_method_24_code 5 = .ok (.astore_n 2, 1) := by decide +kernel
theorem d_X11_feasible_6 : decode prog_1_method_24_code 6 = .ok (.aload_n 2, 1) := by decide +kernel
theorem d_X11_feasible_7 : decode prog_1_method_24_code 7 = .ok (.ifnonnull 5, 3) := by decide +kernel
theorem d_X11_feasible_10 : decode prog_1_method_24_code 10 = .ok (.iconst 0, 1) := by decide +kernel
theorem d_X11_feasible_11 : decode prog_1_method_24_code 11 = .ok (.ireturn, 1) := by decide +kernel
theorem d_X11_feasible_12 : decode prog_1_method_24_code 12 = .ok (.aload_n 2, 1) := by decide +kernel
theorem d_X11_feasible_13 : decode prog_1_method_24_code 13 = .ok (.getfield 154, 3) := by decide +kernel
theorem d_X11_feasible_16 : decode prog_1_method_24_code 16 = .ok (.aload_n 2, 1) := by decide +kernel
theorem d_X11_feasible_17 : decode prog_1_method_24_code 17 = .ok (.getfield 139, 3) := by decide +kernel
theorem d_X11_feasible_20 : decode prog_1_method_24_code 20 = .ok (.aload_n 2, 1) := by decide +kernel
theorem d_X11_feasible_21 : decode prog_1_method_24_code 21 = .ok (.getfield 254, 3) := by decide +kernel
theorem d_X11_feasible_24 : decode prog_1_method_24_code 24 = .ok (.aload_n 2, 1) := by decide +kernel
theorem d_X11_feasible_25 : decode prog_1_method_24_code 25 = .ok (.getfield 248, 3) := by decide +kernel
theorem d_X11_feasible_28 : decode prog_1_method_24_code 28 = .ok (.aload_n 2, 1) := by decide +kernel
theorem d_X11_feasible_29 : decode prog_1_method_24_code 29 = .ok (.getfield 282, 3) := by decide +kernel
theorem d_X11_feasible_32 : decode prog_1_method_24_code 32 = .ok (.iconst 0, 1) := by decide +kernel
theorem d_X11_feasible_33 : decode prog_1_method_24_code 33 = .ok (.invokevirtual 285, 3) := by decide +kernel
theorem d_X11_feasible_36 : decode prog_1_method_24_code 36 = .ok (.aload_n 2, 1) := by decide +kernel
theorem d_X11_feasible_37 : decode prog_1_method_24_code 37 = .ok (.getfield 154, 3) := by decide +kernel
theorem d_X11_feasible_40 : decode prog_1_method_24_code 40 = .ok (.getfield 158, 3) := by decide +kernel
theorem d_X11_feasible_43 : decode prog_1_method_24_code 43 = .ok (.iand, 1) := by decide +kernel
theorem d_X11_feasible_44 : decode prog_1_method_24_code 44 = .ok (.ifCond .ne 7, 3) := by decide +kernel
theorem d_X11_feasible_47 : decode prog_1_method_24_code 47 = .ok (.iconst 1, 1) := by decide +kernel
theorem d_X11_feasible_48 : decode prog_1_method_24_code 48 = .ok (.goto 4, 3) := by decide +kernel
theorem d_X11_feasible_51 : decode prog_1_method_24_code 51 = .ok (.iconst 0, 1) := by decide +kernel
theorem d_X11_feasible_52 : decode prog_1_method_24_code 52 = .ok (.ireturn, 1) := by decide +kernel
theorem v_X11_feasible_0 {E : EE} {d : Nat} {Q : Option AV → AH → Prop} {x0 : Nat} {x1 : Int32} {G : AH} (h0 : 0 < d) (h : isO E G x0 11 ∧ (wpR E (d - 1) M_X11_known [vr x0, vi x1] G (fun r1 G2 => (¬ r1 = 0 → isO E G2 r1 3 ∧ (isO E G2 (gR G2 r1 5) 2 ∧ (wpI E (d - 1) M_X2_weighAll [vr (gR G2 r1 5), vr (gR G2 r1 4), vi (gI G2 r1 8), vr (gR G2 r1 7), vr (gR G2 r1 14), vi 0] G2 (fun r4 G5 => isO E G5 r1 3 ∧ (isO E G5 (gR G5 r1 5) 2 ∧ ((¬ (r4 &&& (gI G5 (gR G5 r1 5) 0)) = 0 → Q (some (vi 0)) G5) ∧ ((r4 &&& (gI G5 (gR G5 r1 5) 0)) = 0 → Q (some (vi 1)) G5))))))) ∧ (r1 = 0 → Q (some (vi 0)) G2)))) : wp E d M_X11_feasible 0 [some (vr x0), some (vi x1), none] [] G Q := by
  refine wp_aload_n (pc := 0) d_X11_feasible_0 rfl ?_
  refine wp_iload_n (pc := 1) d_X11_feasible_1 rfl ?_
  obtain ⟨ho9, h⟩ := h
  refine wp_invV (pc := 2) (N := M_X11_known) (As := [vi _]) (rest := []) (r := (cn_11, ct_11, 12)) d_X11_feasible_2 ml_X11_132 mk_X11_known mv_X11_known h0 ho9 rfl rfl (Nat.le_of_ble_eq_true rfl) ?_
  refine wpM.mono h (fun rr G2 hr => ?_)
  obtain ⟨r1, rfl, h⟩ := hr
  show wp E d M_X11_feasible 5 [some (vr _), some (vi _), none] [vr _] G2 Q
  refine wp_astore_n (pc := 5) (lv' := [some (vr _), some (vi _), some (vr _)]) d_X11_feasible_5 (by decide) rfl ?_
  refine wp_aload_n (pc := 6) d_X11_feasible_6 rfl ?_
  refine wp_ifnonnull (pc := 7) (tgt := 12) d_X11_feasible_7 (by decide) (fun hc => ?_) (fun hc => ?_)
  · have h := h.1 hc
    refine wp_aload_n (pc := 12) d_X11_feasible_12 rfl ?_
    obtain ⟨ho3, h⟩ := h
    refine wp_getR (pc := 13) d_X11_feasible_13 fl_X11_154 (fun _ _ _ => rfl) ho3 ?_
    refine wp_aload_n (pc := 16) d_X11_feasible_16 rfl ?_
    refine wp_getR (pc := 17) d_X11_feasible_17 fl_X11_139 (fun _ _ _ => rfl) ho3 ?_
    refine wp_aload_n (pc := 20) d_X11_feasible_20 rfl ?_
    refine wp_getI (pc := 21) d_X11_feasible_21 fl_X11_254 (fun _ _ _ => rfl) ho3 ?_
    refine wp_aload_n (pc := 24) d_X11_feasible_24 rfl ?_
    refine wp_getR (pc := 25) d_X11_feasible_25 fl_X11_248 (fun _ _ _ => rfl) ho3 ?_
    refine wp_aload_n (pc := 28) d_X11_feasible_28 rfl ?_
    refine wp_getR (pc := 29) d_X11_feasible_29 fl_X11_282 (fun _ _ _ => rfl) ho3 ?_
    refine wp_iconst (pc := 32) (v := 0) d_X11_feasible_32 rfl ?_
    obtain ⟨ho8, h⟩ := h
    refine wp_invV (pc := 33) (N := M_X2_weighAll) (As := [vr _, vi _, vr _, vr _, vi _]) (rest := []) (r := (cn_2, ct_2, 15)) d_X11_feasible_33 ml_X11_285 mk_X2_weighAll mv_X2_weighAll h0 ho8 rfl rfl (Nat.le_of_ble_eq_true rfl) ?_
    refine wpM.mono h (fun rr G5 hr => ?_)
    obtain ⟨r4, rfl, h⟩ := hr
    show wp E d M_X11_feasible 36 [some (vr _), some (vi _), some (vr _)] [vi _] G5 Q
    refine wp_aload_n (pc := 36) d_X11_feasible_36 rfl ?_
    obtain ⟨ho6, h⟩ := h
    refine wp_getR (pc := 37) d_X11_feasible_37 fl_X11_154 (fun _ _ _ => rfl) ho6 ?_
    obtain ⟨ho7, h⟩ := h
    refine wp_getI (pc := 40) d_X11_feasible_40 fl_X11_158 (fun _ _ _ => rfl) ho7 ?_
    refine wp_iand (pc := 43) d_X11_feasible_43 ?_
    refine wp_if_ne (pc := 44) (tgt := 51) d_X11_feasible_44 (by decide) (fun hc => ?_) (fun hc => ?_)
    · have h := h.1 hc
      refine wp_iconst (pc := 51) (v := 0) d_X11_feasible_51 rfl ?_
      exact wp_zret (pc := 52) d_X11_feasible_52 rfl rfl h
    · have h := h.2 hc
      refine wp_iconst (pc := 47) (v := 1) d_X11_feasible_47 rfl ?_
      refine wp_goto (pc := 48) (tgt := 52) d_X11_feasible_48 (by decide) ?_
      exact wp_zret (pc := 52) d_X11_feasible_52 rfl rfl h
  · have h := h.2 hc
    refine wp_iconst (pc := 10) (v := 0) d_X11_feasible_10 rfl ?_
    exact wp_zret (pc := 11) d_X11_feasible_11 rfl rfl h
theorem d_X11_score_0 : decode prog_1_method_23_code 0 = .ok (.aload_n 0, 1) := by decide +kernel
theorem d_X11_score_1 : decode prog_1_method_23_code 1 = .ok (.iload_n 1, 1) := by decide +kernel
theorem d_X11_score_2 : decode prog_1_method_23_code 2 = .ok (.invokevirtual 132, 3) := by decide +kernel
theorem d_X11_score_5 : decode prog_1_method_23_code 5 = .ok (.astore_n 3, 1) := by decide +kernel
theorem d_X11_score_6 : decode prog_1_method_23_code 6 = .ok (.aload_n 3, 1) := by decide +kernel
theorem d_X11_score_7 : decode prog_1_method_23_code 7 = .ok (.ifnull 10, 3) := by decide +kernel
theorem d_X11_score_10 : decode prog_1_method_23_code 10 = .ok (.iload_n 2, 1) := by decide +kernel
theorem d_X11_score_11 : decode prog_1_method_23_code 11 = .ok (.invokestatic 279, 3) := by decide +kernel
theorem d_X11_score_14 : decode prog_1_method_23_code 14 = .ok (.ifCond .ne 7, 3) := by decide +kernel
theorem d_X11_score_17 : decode prog_1_method_23_code 17 = .ok (.ldc2_w 215, 3) := by decide +kernel
theorem d_X11_score_20 : decode prog_1_method_23_code 20 = .ok (.lreturn, 1) := by decide +kernel
theorem d_X11_score_21 : decode prog_1_method_23_code 21 = .ok (.aload_n 3, 1) := by decide +kernel
theorem d_X11_score_22 : decode prog_1_method_23_code 22 = .ok (.getfield 154, 3) := by decide +kernel
theorem d_X11_score_25 : decode prog_1_method_23_code 25 = .ok (.aload_n 3, 1) := by decide +kernel
theorem d_X11_score_26 : decode prog_1_method_23_code 26 = .ok (.getfield 139, 3) := by decide +kernel
theorem d_X11_score_29 : decode prog_1_method_23_code 29 = .ok (.aload_n 3, 1) := by decide +kernel
theorem d_X11_score_30 : decode prog_1_method_23_code 30 = .ok (.getfield 254, 3) := by decide +kernel
theorem d_X11_score_33 : decode prog_1_method_23_code 33 = .ok (.aload_n 3, 1) := by decide +kernel
theorem d_X11_score_34 : decode prog_1_method_23_code 34 = .ok (.getfield 248, 3) := by decide +kernel
theorem d_X11_score_37 : decode prog_1_method_23_code 37 = .ok (.aload_n 3, 1) := by decide +kernel
theorem d_X11_score_38 : decode prog_1_method_23_code 38 = .ok (.getfield 282, 3) := by decide +kernel
theorem d_X11_score_41 : decode prog_1_method_23_code 41 = .ok (.iconst 0, 1) := by decide +kernel
theorem d_X11_score_42 : decode prog_1_method_23_code 42 = .ok (.invokevirtual 285, 3) := by decide +kernel
theorem d_X11_score_45 : decode prog_1_method_23_code 45 = .ok (.pop, 1) := by decide +kernel
theorem d_X11_score_46 : decode prog_1_method_23_code 46 = .ok (.aload_n 3, 1) := by decide +kernel
theorem d_X11_score_47 : decode prog_1_method_23_code 47 = .ok (.getfield 282, 3) := by decide +kernel
theorem d_X11_score_50 : decode prog_1_method_23_code 50 = .ok (.iload_n 2, 1) := by decide +kernel
theorem d_X11_score_51 : decode prog_1_method_23_code 51 = .ok (.laload, 1) := by decide +kernel
theorem d_X11_score_52 : decode prog_1_method_23_code 52 = .ok (.lreturn, 1) := by decide +kernel
theorem v_X11_score_0 {E : EE} {d : Nat} {Q : Option AV → AH → Prop} {x0 : Nat} {x1 : Int32} {x2 : Int32} {G : AH} (h0 : 0 < d) (h : isO E G x0 11 ∧ (wpR E (d - 1) M_X11_known [vr x0, vi x1] G (fun r1 G2 => (r1 = 0 → Q (some (vj (-9223372036854775808))) G2) ∧ (¬ r1 = 0 → wpI E (d - 1) M_X11_isLevel [vi x2] G2 (fun r3 G4 => (¬ r3 = 0 → isO E G4 r1 3 ∧ (isO E G4 (gR G4 r1 5) 2 ∧ (wpI E (d - 1) M_X2_weighAll [vr (gR G4 r1 5), vr (gR G4 r1 4), vi (gI G4 r1 8), vr (gR G4 r1 7), vr (gR G4 r1 14), vi 0] G4 (fun r6 G7 => isO E G7 r1 3 ∧ (isO E G7 (gR G7 r1 14) 15 ∧ (vp_in x2 (gN G7 (gR G7 r1 14)) ∧ (Q (some (vj (gJ G7 (gR G7 r1 14) (Int32.toNatClampNeg x2)))) G7))))))) ∧ (r3 = 0 → Q (some (vj (-9223372036854775808))) G4)))))) : wp E d M_X11_score 0 [some (vr x0), some (vi x1), some (vi x2), none] [] G Q := by
  refine wp_aload_n (pc := 0) d_X11_score_0 rfl ?_
  refine wp_iload_n (pc := 1) d_X11_score_1 rfl ?_
  obtain ⟨ho12, h⟩ := h
  refine wp_invV (pc := 2) (N := M_X11_known) (As := [vi _]) (rest := []) (r := (cn_11, ct_11, 12)) d_X11_score_2 ml_X11_132 mk_X11_known mv_X11_known h0 ho12 rfl rfl (Nat.le_of_ble_eq_true rfl) ?_
  refine wpM.mono h (fun rr G2 hr => ?_)
  obtain ⟨r1, rfl, h⟩ := hr
  show wp E d M_X11_score 5 [some (vr _), some (vi _), some (vi _), none] [vr _] G2 Q
  refine wp_astore_n (pc := 5) (lv' := [some (vr _), some (vi _), some (vi _), some (vr _)]) d_X11_score_5 (by decide) rfl ?_
  refine wp_aload_n (pc := 6) d_X11_score_6 rfl ?_
  refine wp_ifnull (pc := 7) (tgt := 17) d_X11_score_7 (by decide) (fun hc => ?_) (fun hc => ?_)
  · have h := h.1 hc
    refine wp_ldc2 (pc := 17) (v := (-9223372036854775808)) d_X11_score_17 cj_X11_215 ?_
    exact wp_lret (pc := 20) d_X11_score_20 rfl h
  · have h := h.2 hc
    refine wp_iload_n (pc := 10) d_X11_score_10 rfl ?_
    refine wp_invS (pc := 11) (N := M_X11_isLevel) (As := [vi _]) (rest := []) d_X11_score_11 ml_X11_279 mk_X11_isLevel ms_X11_isLevel h0 (Nat.le_of_ble_eq_true rfl) ?_
    refine wpM.mono h (fun rr G4 hr => ?_)
    obtain ⟨r3, rfl, h⟩ := hr
    show wp E d M_X11_score 14 [some (vr _), some (vi _), some (vi _), some (vr _)] [vi _] G4 Q
    refine wp_if_ne (pc := 14) (tgt := 21) d_X11_score_14 (by decide) (fun hc => ?_) (fun hc => ?_)
    · have h := h.1 hc
      refine wp_aload_n (pc := 21) d_X11_score_21 rfl ?_
      obtain ⟨ho5, h⟩ := h
      refine wp_getR (pc := 22) d_X11_score_22 fl_X11_154 (fun _ _ _ => rfl) ho5 ?_
      refine wp_aload_n (pc := 25) d_X11_score_25 rfl ?_
      refine wp_getR (pc := 26) d_X11_score_26 fl_X11_139 (fun _ _ _ => rfl) ho5 ?_
      refine wp_aload_n (pc := 29) d_X11_score_29 rfl ?_
      refine wp_getI (pc := 30) d_X11_score_30 fl_X11_254 (fun _ _ _ => rfl) ho5 ?_
      refine wp_aload_n (pc := 33) d_X11_score_33 rfl ?_
      refine wp_getR (pc := 34) d_X11_score_34 fl_X11_248 (fun _ _ _ => rfl) ho5 ?_
      refine wp_aload_n (pc := 37) d_X11_score_37 rfl ?_
      refine wp_getR (pc := 38) d_X11_score_38 fl_X11_282 (fun _ _ _ => rfl) ho5 ?_
      refine wp_iconst (pc := 41) (v := 0) d_X11_score_41 rfl ?_
      obtain ⟨ho11, h⟩ := h
      refine wp_invV (pc := 42) (N := M_X2_weighAll) (As := [vr _, vi _, vr _, vr _, vi _]) (rest := []) (r := (cn_2, ct_2, 15)) d_X11_score_42 ml_X11_285 mk_X2_weighAll mv_X2_weighAll h0 ho11 rfl rfl (Nat.le_of_ble_eq_true rfl) ?_
      refine wpM.mono h (fun rr G7 hr => ?_)
      obtain ⟨r6, rfl, h⟩ := hr
      show wp E d M_X11_score 45 [some (vr _), some (vi _), some (vi _), some (vr _)] [vi _] G7 Q
      refine wp_pop (pc := 45) d_X11_score_45 (c1_i _) ?_
      refine wp_aload_n (pc := 46) d_X11_score_46 rfl ?_
      obtain ⟨ho8, h⟩ := h
      refine wp_getR (pc := 47) d_X11_score_47 fl_X11_282 (fun _ _ _ => rfl) ho8 ?_
      refine wp_iload_n (pc := 50) d_X11_score_50 rfl ?_
      obtain ⟨ho9, h⟩ := h
      obtain ⟨hi10, h⟩ := h
      refine wp_lald (pc := 51) d_X11_score_51 ho9 hi10 ?_
      exact wp_lret (pc := 52) d_X11_score_52 rfl h
    · have h := h.2 hc
      refine wp_ldc2 (pc := 17) (v := (-9223372036854775808)) d_X11_score_17 cj_X11_215 ?_
      exact wp_lret (pc := 20) d_X11_score_20 rfl h
theorem d_X11_aim_0 : decode prog_1_method_22_code 0 = .ok (.aload_n 0, 1) := by decide +kernel
theorem d_X11_aim_1 : decode prog_1_method_22_code 1 = .ok (.iload_n 1, 1) := by decide +kernel
theorem d_X11_aim_2 : decode prog_1_method_22_code 2 = .ok (.invokevirtual 132, 3) := by decide +kernel
theorem d_X11_aim_5 : decode prog_1_method_22_code 5 = .ok (.astore_n 3, 1) := by decide +kernel
theorem d_X11_aim_6 : decode prog_1_method_22_code 6 = .ok (.aload_n 3, 1) := by decide +kernel
theorem d_X11_aim_7 : decode prog_1_method_22_code 7 = .ok (.ifnull 17, 3) := by decide +kernel
theorem d_X11_aim_10 : decode prog_1_method_22_code 10 = .ok (.iload_n 2, 1) := by decide +kernel
theorem d_X11_aim_11 : decode prog_1_method_22_code 11 = .ok (.ifCond .lt 13, 3) := by decide +kernel
theorem d_X11_aim_14 : decode prog_1_method_22_code 14 = .ok (.iload_n 2, 1) := by decide +kernel
theorem d_X11_aim_15 : decode prog_1_method_22_code 15 = .ok (.aload_n 3, 1) := by decide +kernel
theorem d_X11_aim_16 : decode prog_1_method_22_code 16 = .ok (.getfield 135, 3) := by decide +kernel
theorem d_X11_aim_19 : decode prog_1_method_22_code 19 = .ok (.iconst 3, 1) := by decide +kernel
theorem d_X11_aim_20 : decode prog_1_method_22_code 20 = .ok (.iaload, 1) := by decide +kernel
theorem d_X11_aim_21 : decode prog_1_method_22_code 21 = .ok (.if_icmp .lt 7, 3) := by decide +kernel
theorem d_X11_aim_24 : decode prog_1_method_22_code 24 = .ok (.ldc2_w 215, 3) := by decide +kernel
theorem d_X11_aim_27 : decode prog_1_method_22_code 27 = .ok (.lreturn, 1) := by decide +kernel
theorem d_X11_aim_28 : decode prog_1_method_22_code 28 = .ok (.aload_n 3, 1) := by decide +kernel
theorem d_X11_aim_29 : decode prog_1_method_22_code 29 = .ok (.getfield 154, 3) := by decide +kernel
theorem d_X11_aim_32 : decode prog_1_method_22_code 32 = .ok (.aload_n 3, 1) := by decide +kernel
theorem d_X11_aim_33 : decode prog_1_method_22_code 33 = .ok (.getfield 139, 3) := by decide +kernel
theorem d_X11_aim_36 : decode prog_1_method_22_code 36 = .ok (.aload_n 3, 1) := by decide +kernel
theorem d_X11_aim_37 : decode prog_1_method_22_code 37 = .ok (.getfield 254, 3) := by decide +kernel
theorem d_X11_aim_40 : decode prog_1_method_22_code 40 = .ok (.invokevirtual 271, 3) := by decide +kernel
theorem d_X11_aim_43 : decode prog_1_method_22_code 43 = .ok (.aload_n 3, 1) := by decide +kernel
theorem d_X11_aim_44 : decode prog_1_method_22_code 44 = .ok (.getfield 154, 3) := by decide +kernel
theorem d_X11_aim_47 : decode prog_1_method_22_code 47 = .ok (.bipush 24, 2) := by decide +kernel
theorem d_X11_aim_49 : decode prog_1_method_22_code 49 = .ok (.iload_n 2, 1) := by decide +kernel
theorem d_X11_aim_50 : decode prog_1_method_22_code 50 = .ok (.iadd, 1) := by decide +kernel
theorem d_X11_aim_51 : decode prog_1_method_22_code 51 = .ok (.aload_n 3, 1) := by decide +kernel
theorem d_X11_aim_52 : decode prog_1_method_22_code 52 = .ok (.getfield 248, 3) := by decide +kernel
theorem d_X11_aim_55 : decode prog_1_method_22_code 55 = .ok (.invokevirtual 275, 3) := by decide +kernel
theorem d_X11_aim_58 : decode prog_1_method_22_code 58 = .ok (.i2l, 1) := by decide +kernel
theorem d_X11_aim_59 : decode prog_1_method_22_code 59 = .ok (.lreturn, 1) := by decide +kernel
theorem v_X11_aim_0 {E : EE} {d : Nat} {Q : Option AV → AH → Prop} {x0 : Nat} {x1 : Int32} {x2 : Int32} {G : AH} (h0 : 0 < d) (h : isO E G x0 11 ∧ (wpR E (d - 1) M_X11_known [vr x0, vi x1] G (fun r1 G2 => (r1 = 0 → Q (some (vj (-9223372036854775808))) G2) ∧ (¬ r1 = 0 → (x2 < 0 → Q (some (vj (-9223372036854775808))) G2) ∧ (¬ (x2 < 0) → isO E G2 r1 3 ∧ (isO E G2 (gR G2 r1 3) 14 ∧ (vp_in 3 (gN G2 (gR G2 r1 3)) ∧ ((x2 < (gI G2 (gR G2 r1 3) (Int32.toNatClampNeg 3)) → isO E G2 (gR G2 r1 5) 2 ∧ (wpV E (d - 1) M_X2_look [vr (gR G2 r1 5), vr (gR G2 r1 4), vi (gI G2 r1 8)] G2 (fun G6 => isO E G6 r1 3 ∧ (isO E G6 (gR G6 r1 5) 2 ∧ (wpI E (d - 1) M_X2_run [vr (gR G6 r1 5), vi (24 + x2), vr (gR G6 r1 7)] G6 (fun r8 G9 => Q (some (vj (Int32.toInt64 r8))) G9)))))) ∧ (¬ (x2 < (gI G2 (gR G2 r1 3) (Int32.toNatClampNeg 3))) → Q (some (vj (-9223372036854775808))) G2))))))))) : wp E d M_X11_aim 0 [some (vr x0), some (vi x1), some (vi x2), none] [] G Q := by
  refine wp_aload_n (pc := 0) d_X11_aim_0 rfl ?_
  refine wp_iload_n (pc := 1) d_X11_aim_1 rfl ?_
  obtain ⟨ho12, h⟩ := h
  refine wp_invV (pc := 2) (N := M_X11_known) (As := [vi _]) (rest := []) (r := (cn_11, ct_11, 12)) d_X11_aim_2 ml_X11_132 mk_X11_known mv_X11_known h0 ho12 rfl rfl (Nat.le_of_ble_eq_true rfl) ?_
  refine wpM.mono h (fun rr G2 hr => ?_)
  obtain ⟨r1, rfl, h⟩ := hr
  show wp E d M_X11_aim 5 [some (vr _), some (vi _), some (vi _), none] [vr _] G2 Q
  refine wp_astore_n (pc := 5) (lv' := [some (vr _), some (vi _), some (vi _), some (vr _)]) d_X11_aim_5 (by decide) rfl ?_
  refine wp_aload_n (pc := 6) d_X11_aim_6 rfl ?_
  refine wp_ifnull (pc := 7) (tgt := 24) d_X11_aim_7 (by decide) (fun hc => ?_) (fun hc => ?_)
  · have h := h.1 hc
    refine wp_ldc2 (pc := 24) (v := (-9223372036854775808)) d_X11_aim_24 cj_X11_215 ?_
    exact wp_lret (pc := 27) d_X11_aim_27 rfl h
  · have h := h.2 hc
    refine wp_iload_n (pc := 10) d_X11_aim_10 rfl ?_
    refine wp_if_lt (pc := 11) (tgt := 24) d_X11_aim_11 (by decide) (fun hc => ?_) (fun hc => ?_)
    · have h := h.1 hc
      refine wp_ldc2 (pc := 24) (v := (-9223372036854775808)) d_X11_aim_24 cj_X11_215 ?_
      exact wp_lret (pc := 27) d_X11_aim_27 rfl h
    · have h := h.2 hc
      refine wp_iload_n (pc := 14) d_X11_aim_14 rfl ?_
      refine wp_aload_n (pc := 15) d_X11_aim_15 rfl ?_
      obtain ⟨ho3, h⟩ := h
      refine wp_getR (pc := 16) d_X11_aim_16 fl_X11_135 (fun _ _ _ => rfl) ho3 ?_
      refine wp_iconst (pc := 19) (v := 3) d_X11_aim_19 rfl ?_
      obtain ⟨ho4, h⟩ := h
      obtain ⟨hi5, h⟩ := h
      refine wp_iald (pc := 20) d_X11_aim_20 ho4 hi5 ?_
      refine wp_icmp_lt (pc := 21) (tgt := 28) d_X11_aim_21 (by decide) (fun hc => ?_) (fun hc => ?_)
      · have h := h.1 hc
        refine wp_aload_n (pc := 28) d_X11_aim_28 rfl ?_
        refine wp_getR (pc := 29) d_X11_aim_29 fl_X11_154 (fun _ _ _ => rfl) ho3 ?_
        refine wp_aload_n (pc := 32) d_X11_aim_32 rfl ?_
        refine wp_getR (pc := 33) d_X11_aim_33 fl_X11_139 (fun _ _ _ => rfl) ho3 ?_
        refine wp_aload_n (pc := 36) d_X11_aim_36 rfl ?_
        refine wp_getI (pc := 37) d_X11_aim_37 fl_X11_254 (fun _ _ _ => rfl) ho3 ?_
        obtain ⟨ho11, h⟩ := h
        refine wp_invV (pc := 40) (N := M_X2_look) (As := [vr _, vi _]) (rest := []) (r := (cn_2, ct_2, 15)) d_X11_aim_40 ml_X11_271 mk_X2_look mv_X2_look h0 ho11 rfl rfl (Nat.le_of_ble_eq_true rfl) ?_
        refine wpM.mono h (fun rr G6 hr => ?_)
        obtain ⟨rfl, h⟩ := hr
        show wp E d M_X11_aim 43 [some (vr _), some (vi _), some (vi _), some (vr _)] [] G6 Q
        refine wp_aload_n (pc := 43) d_X11_aim_43 rfl ?_
        obtain ⟨ho7, h⟩ := h
        refine wp_getR (pc := 44) d_X11_aim_44 fl_X11_154 (fun _ _ _ => rfl) ho7 ?_
        refine wp_bipush (pc := 47) (v := 24) d_X11_aim_47 rfl ?_
        refine wp_iload_n (pc := 49) d_X11_aim_49 rfl ?_
        refine wp_iadd (pc := 50) d_X11_aim_50 ?_
        refine wp_aload_n (pc := 51) d_X11_aim_51 rfl ?_
        refine wp_getR (pc := 52) d_X11_aim_52 fl_X11_248 (fun _ _ _ => rfl) ho7 ?_
        obtain ⟨ho10, h⟩ := h
        refine wp_invV (pc := 55) (N := M_X2_run) (As := [vi _, vr _]) (rest := []) (r := (cn_2, ct_2, 15)) d_X11_aim_55 ml_X11_275 mk_X2_run mv_X2_run h0 ho10 rfl rfl (Nat.le_of_ble_eq_true rfl) ?_
        refine wpM.mono h (fun rr G9 hr => ?_)
        obtain ⟨r8, rfl, h⟩ := hr
        show wp E d M_X11_aim 58 [some (vr _), some (vi _), some (vi _), some (vr _)] [vi _] G9 Q
        refine wp_i2l (pc := 58) d_X11_aim_58 ?_
        exact wp_lret (pc := 59) d_X11_aim_59 rfl h
      · have h := h.2 hc
        refine wp_ldc2 (pc := 24) (v := (-9223372036854775808)) d_X11_aim_24 cj_X11_215 ?_
        exact wp_lret (pc := 27) d_X11_aim_27 rfl h
theorem d_X11_broken_0 : decode prog_1_method_21_code 0 = .ok (.aload_n 0, 1) := by decide +kernel
theorem d_X11_broken_1 : decode prog_1_method_21_code 1 = .ok (.iload_n 1, 1) := by decide +kernel
theorem d_X11_broken_2 : decode prog_1_method_21_code 2 = .ok (.invokevirtual 132, 3) := by decide +kernel
theorem d_X11_broken_5 : decode prog_1_method_21_code 5 = .ok (.astore_n 3, 1) := by decide +kernel
theorem d_X11_broken_6 : decode prog_1_method_21_code 6 = .ok (.aload_n 3, 1) := by decide +kernel
theorem d_X11_broken_7 : decode prog_1_method_21_code 7 = .ok (.ifnull 11, 3) := by decide +kernel
theorem d_X11_broken_10 : decode prog_1_method_21_code 10 = .ok (.aload_n 3, 1) := by decide +kernel
theorem d_X11_broken_11 : decode prog_1_method_21_code 11 = .ok (.iload_n 2, 1) := by decide +kernel
theorem d_X11_broken_12 : decode prog_1_method_21_code 12 = .ok (.invokevirtual 220, 3) := by decide +kernel
theorem d_X11_broken_15 : decode prog_1_method_21_code 15 = .ok (.ifCond .ne 5, 3) := by decide +kernel
theorem d_X11_broken_18 : decode prog_1_method_21_code 18 = .ok (.iconst (-1), 1) := by decide +kernel
theorem d_X11_broken_19 : decode prog_1_method_21_code 19 = .ok (.ireturn, 1) := by decide +kernel
theorem d_X11_broken_20 : decode prog_1_method_21_code 20 = .ok (.aload_n 3, 1) := by decide +kernel
theorem d_X11_broken_21 : decode prog_1_method_21_code 21 = .ok (.getfield 154, 3) := by decide +kernel
theorem d_X11_broken_24 : decode prog_1_method_21_code 24 = .ok (.aload_n 3, 1) := by decide +kernel
theorem d_X11_broken_25 : decode prog_1_method_21_code 25 = .ok (.getfield 139, 3) := by decide +kernel
theorem d_X11_broken_28 : decode prog_1_method_21_code 28 = .ok (.aload_n 3, 1) := by decide +kernel
theorem d_X11_broken_29 : decode prog_1_method_21_code 29 = .ok (.getfield 254, 3) := by decide +kernel
theorem d_X11_broken_32 : decode prog_1_method_21_code 32 = .ok (.invokevirtual 271, 3) := by decide +kernel
theorem d_X11_broken_35 : decode prog_1_method_21_code 35 = .ok (.aload_n 3, 1) := by decide +kernel
theorem d_X11_broken_36 : decode prog_1_method_21_code 36 = .ok (.getfield 154, 3) := by decide +kernel
theorem d_X11_broken_39 : decode prog_1_method_21_code 39 = .ok (.iload_n 2, 1) := by decide +kernel
theorem d_X11_broken_40 : decode prog_1_method_21_code 40 = .ok (.aload_n 3, 1) := by decide +kernel
theorem d_X11_broken_41 : decode prog_1_method_21_code 41 = .ok (.getfield 248, 3) := by decide +kernel
theorem d_X11_broken_44 : decode prog_1_method_21_code 44 = .ok (.invokevirtual 275, 3) := by decide +kernel
theorem d_X11_broken_47 : decode prog_1_method_21_code 47 = .ok (.ireturn, 1) := by decide +kernel
theorem v_X11_broken_0 {E : EE} {d : Nat} {Q : Option AV → AH → Prop} {x0 : Nat} {x1 : Int32} {x2 : Int32} {G : AH} (h0 : 0 < d) (h : isO E G x0 11 ∧ (wpR E (d - 1) M_X11_known [vr x0, vi x1] G (fun r1 G2 => (r1 = 0 → Q (some (vi (-1))) G2) ∧ (¬ r1 = 0 → isO E G2 r1 3 ∧ (wpI E (d - 1) M_X3_isRule [vr r1, vi x2] G2 (fun r3 G4 => (¬ r3 = 0 → isO E G4 r1 3 ∧ (isO E G4 (gR G4 r1 5) 2 ∧ (wpV E (d - 1) M_X2_look [vr (gR G4 r1 5), vr (gR G4 r1 4), vi (gI G4 r1 8)] G4 (fun G6 => isO E G6 r1 3 ∧ (isO E G6 (gR G6 r1 5) 2 ∧ (wpI E (d - 1) M_X2_run [vr (gR G6 r1 5), vi x2, vr (gR G6 r1 7)] G6 (fun r8 G9 => Q (some (vi r8)) G9))))))) ∧ (r3 = 0 → Q (some (vi (-1))) G4))))))) : wp E d M_X11_broken 0 [some (vr x0), some (vi x1), some (vi x2), none] [] G Q := by
  refine wp_aload_n (pc := 0) d_X11_broken_0 rfl ?_
  refine wp_iload_n (pc := 1) d_X11_broken_1 rfl ?_
  obtain ⟨ho13, h⟩ := h
  refine wp_invV (pc := 2) (N := M_X11_known) (As := [vi _]) (rest := []) (r := (cn_11, ct_11, 12)) d_X11_broken_2 ml_X11_132 mk_X11_known mv_X11_known h0 ho13 rfl rfl (Nat.le_of_ble_eq_true rfl) ?_
  refine wpM.mono h (fun rr G2 hr => ?_)
  obtain ⟨r1, rfl, h⟩ := hr
  show wp E d M_X11_broken 5 [some (vr _), some (vi _), some (vi _), none] [vr _] G2 Q
  refine wp_astore_n (pc := 5) (lv' := [some (vr _), some (vi _), some (vi _), some (vr _)]) d_X11_broken_5 (by decide) rfl ?_
  refine wp_aload_n (pc := 6) d_X11_broken_6 rfl ?_
  refine wp_ifnull (pc := 7) (tgt := 18) d_X11_broken_7 (by decide) (fun hc => ?_) (fun hc => ?_)
  · have h := h.1 hc
    refine wp_iconst (pc := 18) (v := (-1)) d_X11_broken_18 rfl ?_
    exact wp_iret (pc := 19) d_X11_broken_19 rfl h
  · have h := h.2 hc
    refine wp_aload_n (pc := 10) d_X11_broken_10 rfl ?_
    refine wp_iload_n (pc := 11) d_X11_broken_11 rfl ?_
    obtain ⟨ho12, h⟩ := h
    refine wp_invV (pc := 12) (N := M_X3_isRule) (As := [vi _]) (rest := []) (r := (cn_3, ct_3, 19)) d_X11_broken_12 ml_X11_220 mk_X3_isRule mv_X3_isRule h0 ho12 rfl rfl (Nat.le_of_ble_eq_true rfl) ?_
    refine wpM.mono h (fun rr G4 hr => ?_)
    obtain ⟨r3, rfl, h⟩ := hr
    show wp E d M_X11_broken 15 [some (vr _), some (vi _), some (vi _), some (vr _)] [vi _] G4 Q
    refine wp_if_ne (pc := 15) (tgt := 20) d_X11_broken_15 (by decide) (fun hc => ?_) (fun hc => ?_)
    · have h := h.1 hc
      refine wp_aload_n (pc := 20) d_X11_broken_20 rfl ?_
      obtain ⟨ho5, h⟩ := h
      refine wp_getR (pc := 21) d_X11_broken_21 fl_X11_154 (fun _ _ _ => rfl) ho5 ?_
      refine wp_aload_n (pc := 24) d_X11_broken_24 rfl ?_
      refine wp_getR (pc := 25) d_X11_broken_25 fl_X11_139 (fun _ _ _ => rfl) ho5 ?_
      refine wp_aload_n (pc := 28) d_X11_broken_28 rfl ?_
      refine wp_getI (pc := 29) d_X11_broken_29 fl_X11_254 (fun _ _ _ => rfl) ho5 ?_
      obtain ⟨ho11, h⟩ := h
      refine wp_invV (pc := 32) (N := M_X2_look) (As := [vr _, vi _]) (rest := []) (r := (cn_2, ct_2, 15)) d_X11_broken_32 ml_X11_271 mk_X2_look mv_X2_look h0 ho11 rfl rfl (Nat.le_of_ble_eq_true rfl) ?_
      refine wpM.mono h (fun rr G6 hr => ?_)
      obtain ⟨rfl, h⟩ := hr
      show wp E d M_X11_broken 35 [some (vr _), some (vi _), some (vi _), some (vr _)] [] G6 Q
      refine wp_aload_n (pc := 35) d_X11_broken_35 rfl ?_
      obtain ⟨ho7, h⟩ := h
      refine wp_getR (pc := 36) d_X11_broken_36 fl_X11_154 (fun _ _ _ => rfl) ho7 ?_
      refine wp_iload_n (pc := 39) d_X11_broken_39 rfl ?_
      refine wp_aload_n (pc := 40) d_X11_broken_40 rfl ?_
      refine wp_getR (pc := 41) d_X11_broken_41 fl_X11_248 (fun _ _ _ => rfl) ho7 ?_
      obtain ⟨ho10, h⟩ := h
      refine wp_invV (pc := 44) (N := M_X2_run) (As := [vi _, vr _]) (rest := []) (r := (cn_2, ct_2, 15)) d_X11_broken_44 ml_X11_275 mk_X2_run mv_X2_run h0 ho10 rfl rfl (Nat.le_of_ble_eq_true rfl) ?_
      refine wpM.mono h (fun rr G9 hr => ?_)
      obtain ⟨r8, rfl, h⟩ := hr
      show wp E d M_X11_broken 47 [some (vr _), some (vi _), some (vi _), some (vr _)] [vi _] G9 Q
      exact wp_iret (pc := 47) d_X11_broken_47 rfl h
    · have h := h.2 hc
      refine wp_iconst (pc := 18) (v := (-1)) d_X11_broken_18 rfl ?_
      exact wp_iret (pc := 19) d_X11_broken_19 rfl h
theorem d_X11_weigh_0 : decode prog_1_method_20_code 0 = .ok (.aload_n 0, 1) := by decide +kernel
theorem d_X11_weigh_1 : decode prog_1_method_20_code 1 = .ok (.iload_n 1, 1) := by decide +kernel
theorem d_X11_weigh_2 : decode prog_1_method_20_code 2 = .ok (.invokevirtual 132, 3) := by decide +kernel
theorem d_X11_weigh_5 : decode prog_1_method_20_code 5 = .ok (.astore 4, 2) := by decide +kernel
theorem d_X11_weigh_7 : decode prog_1_method_20_code 7 = .ok (.aload 4, 2) := by decide +kernel
theorem d_X11_weigh_9 : decode prog_1_method_20_code 9 = .ok (.ifnull 26, 3) := by decide +kernel
theorem d_X11_weigh_12 : decode prog_1_method_20_code 12 = .ok (.aload 4, 2) := by decide +kernel
theorem d_X11_weigh_14 : decode prog_1_method_20_code 14 = .ok (.getfield 139, 3) := by decide +kernel
theorem d_X11_weigh_17 : decode prog_1_method_20_code 17 = .ok (.iload_n 2, 1) := by decide +kernel
theorem d_X11_weigh_18 : decode prog_1_method_20_code 18 = .ok (.invokevirtual 209, 3) := by decide +kernel
theorem d_X11_weigh_21 : decode prog_1_method_20_code 21 = .ok (.ifCond .eq 14, 3) := by decide +kernel
theorem d_X11_weigh_24 : decode prog_1_method_20_code 24 = .ok (.iload_n 3, 1) := by decide +kernel
theorem d_X11_weigh_25 : decode prog_1_method_20_code 25 = .ok (.ifCond .lt 10, 3) := by decide +kernel
theorem d_X11_weigh_28 : decode prog_1_method_20_code 28 = .ok (.iload_n 3, 1) := by decide +kernel
theorem d_X11_weigh_29 : decode prog_1_method_20_code 29 = .ok (.sipush 1000, 3) := by decide +kernel
theorem d_X11_weigh_32 : decode prog_1_method_20_code 32 = .ok (.if_icmp .le 5, 3) := by decide +kernel
theorem d_X11_weigh_35 : decode prog_1_method_20_code 35 = .ok (.iconst (-1), 1) := by decide +kernel
theorem d_X11_weigh_36 : decode prog_1_method_20_code 36 = .ok (.ireturn, 1) := by decide +kernel
theorem d_X11_weigh_37 : decode prog_1_method_20_code 37 = .ok (.aload 4, 2) := by decide +kernel
theorem d_X11_weigh_39 : decode prog_1_method_20_code 39 = .ok (.getfield 268, 3) := by decide +kernel
theorem d_X11_weigh_42 : decode prog_1_method_20_code 42 = .ok (.iload_n 2, 1) := by decide +kernel
theorem d_X11_weigh_43 : decode prog_1_method_20_code 43 = .ok (.iaload, 1) := by decide +kernel
theorem d_X11_weigh_44 : decode prog_1_method_20_code 44 = .ok (.istore 5, 2) := by decide +kernel
theorem d_X11_weigh_46 : decode prog_1_method_20_code 46 = .ok (.aload 4, 2) := by decide +kernel
theorem d_X11_weigh_48 : decode prog_1_method_20_code 48 = .ok (.getfield 268, 3) := by decide +kernel
theorem d_X11_weigh_51 : decode prog_1_method_20_code 51 = .ok (.iload_n 2, 1) := by decide +kernel
theorem d_X11_weigh_52 : decode prog_1_method_20_code 52 = .ok (.iload_n 3, 1) := by decide +kernel
theorem d_X11_weigh_53 : decode prog_1_method_20_code 53 = .ok (.iastore, 1) := by decide +kernel
theorem d_X11_weigh_54 : decode prog_1_method_20_code 54 = .ok (.iload 5, 2) := by decide +kernel
theorem d_X11_weigh_56 : decode prog_1_method_20_code 56 = .ok (.ireturn, 1) := by decide +kernel
theorem v_X11_weigh_0 {E : EE} {d : Nat} {Q : Option AV → AH → Prop} {x0 : Nat} {x1 : Int32} {x2 : Int32} {x3 : Int32} {G : AH} (h0 : 0 < d) (h : isO E G x0 11 ∧ (wpR E (d - 1) M_X11_known [vr x0, vi x1] G (fun r1 G2 => (r1 = 0 → Q (some (vi (-1))) G2) ∧ (¬ r1 = 0 → isO E G2 r1 3 ∧ (isO E G2 (gR G2 r1 4) 7 ∧ (wpI E (d - 1) M_X7_isVar [vr (gR G2 r1 4), vi x2] G2 (fun r4 G5 => (r4 = 0 → Q (some (vi (-1))) G5) ∧ (¬ (r4 = 0) → (x3 < 0 → Q (some (vi (-1))) G5) ∧ (¬ (x3 < 0) → (x3 ≤ 1000 → isO E G5 r1 3 ∧ (isO E G5 (gR G5 r1 10) 14 ∧ (vp_in x2 (gN G5 (gR G5 r1 10)) ∧ (vp_in x2 (gN G5 (gR G5 r1 10)) ∧ (Q (some (vi (gI G5 (gR G5 r1 10) (Int32.toNatClampNeg x2)))) (sI G5 (gR G5 r1 10) (Int32.toNatClampNeg x2) x3)))))) ∧ (¬ (x3 ≤ 1000) → Q (some (vi (-1))) G5)))))))))) : wp E d M_X11_weigh 0 [some (vr x0), some (vi x1), some (vi x2), some (vi x3), none, none] [] G Q := by
  refine wp_aload_n (pc := 0) d_X11_weigh_0 rfl ?_
  refine wp_iload_n (pc := 1) d_X11_weigh_1 rfl ?_
  obtain ⟨ho11, h⟩ := h
  refine wp_invV (pc := 2) (N := M_X11_known) (As := [vi _]) (rest := []) (r := (cn_11, ct_11, 12)) d_X11_weigh_2 ml_X11_132 mk_X11_known mv_X11_known h0 ho11 rfl rfl (Nat.le_of_ble_eq_true rfl) ?_
  refine wpM.mono h (fun rr G2 hr => ?_)
  obtain ⟨r1, rfl, h⟩ := hr
  show wp E d M_X11_weigh 5 [some (vr _), some (vi _), some (vi _), some (vi _), none, none] [vr _] G2 Q
  refine wp_astore (pc := 5) (lv' := [some (vr _), some (vi _), some (vi _), some (vi _), some (vr _), none]) d_X11_weigh_5 (by decide) rfl ?_
  refine wp_aload (pc := 7) d_X11_weigh_7 rfl ?_
  refine wp_ifnull (pc := 9) (tgt := 35) d_X11_weigh_9 (by decide) (fun hc => ?_) (fun hc => ?_)
  · have h := h.1 hc
    refine wp_iconst (pc := 35) (v := (-1)) d_X11_weigh_35 rfl ?_
    exact wp_iret (pc := 36) d_X11_weigh_36 rfl h
  · have h := h.2 hc
    refine wp_aload (pc := 12) d_X11_weigh_12 rfl ?_
    obtain ⟨ho3, h⟩ := h
    refine wp_getR (pc := 14) d_X11_weigh_14 fl_X11_139 (fun _ _ _ => rfl) ho3 ?_
    refine wp_iload_n (pc := 17) d_X11_weigh_17 rfl ?_
    obtain ⟨ho10, h⟩ := h
    refine wp_invV (pc := 18) (N := M_X7_isVar) (As := [vi _]) (rest := []) (r := (cn_7, ct_7, 5)) d_X11_weigh_18 ml_X11_209 mk_X7_isVar mv_X7_isVar h0 ho10 rfl rfl (Nat.le_of_ble_eq_true rfl) ?_
    refine wpM.mono h (fun rr G5 hr => ?_)
    obtain ⟨r4, rfl, h⟩ := hr
    show wp E d M_X11_weigh 21 [some (vr _), some (vi _), some (vi _), some (vi _), some (vr _), none] [vi _] G5 Q
    refine wp_if_eq (pc := 21) (tgt := 35) d_X11_weigh_21 (by decide) (fun hc => ?_) (fun hc => ?_)
    · have h := h.1 hc
      refine wp_iconst (pc := 35) (v := (-1)) d_X11_weigh_35 rfl ?_
      exact wp_iret (pc := 36) d_X11_weigh_36 rfl h
    · have h := h.2 hc
      refine wp_iload_n (pc := 24) d_X11_weigh_24 rfl ?_
      refine wp_if_lt (pc := 25) (tgt := 35) d_X11_weigh_25 (by decide) (fun hc => ?_) (fun hc => ?_)
      · have h := h.1 hc
        refine wp_iconst (pc := 35) (v := (-1)) d_X11_weigh_35 rfl ?_
        exact wp_iret (pc := 36) d_X11_weigh_36 rfl h
      · have h := h.2 hc
        refine wp_iload_n (pc := 28) d_X11_weigh_28 rfl ?_
        refine wp_sipush (pc := 29) (v := 1000) d_X11_weigh_29 rfl ?_
        refine wp_icmp_le (pc := 32) (tgt := 37) d_X11_weigh_32 (by decide) (fun hc => ?_) (fun hc => ?_)
        · have h := h.1 hc
          refine wp_aload (pc := 37) d_X11_weigh_37 rfl ?_
          obtain ⟨ho6, h⟩ := h
          refine wp_getR (pc := 39) d_X11_weigh_39 fl_X11_268 (fun _ _ _ => rfl) ho6 ?_
          refine wp_iload_n (pc := 42) d_X11_weigh_42 rfl ?_
          obtain ⟨ho7, h⟩ := h
          obtain ⟨hi8, h⟩ := h
          refine wp_iald (pc := 43) d_X11_weigh_43 ho7 hi8 ?_
          refine wp_istore (pc := 44) (lv' := [some (vr _), some (vi _), some (vi _), some (vi _), some (vr _), some (vi _)]) d_X11_weigh_44 (by decide) rfl ?_
          refine wp_aload (pc := 46) d_X11_weigh_46 rfl ?_
          refine wp_getR (pc := 48) d_X11_weigh_48 fl_X11_268 (fun _ _ _ => rfl) ho6 ?_
          refine wp_iload_n (pc := 51) d_X11_weigh_51 rfl ?_
          refine wp_iload_n (pc := 52) d_X11_weigh_52 rfl ?_
          obtain ⟨hi9, h⟩ := h
          refine wp_iast (pc := 53) d_X11_weigh_53 ho7 hi9 ?_
          refine wp_iload (pc := 54) d_X11_weigh_54 rfl ?_
          exact wp_iret (pc := 56) d_X11_weigh_56 rfl h
        · have h := h.2 hc
          refine wp_iconst (pc := 35) (v := (-1)) d_X11_weigh_35 rfl ?_
          exact wp_iret (pc := 36) d_X11_weigh_36 rfl h
theorem d_X11_pin_0 : decode prog_1_method_19_code 0 = .ok (.aload_n 0, 1) := by decide +kernel
theorem d_X11_pin_1 : decode prog_1_method_19_code 1 = .ok (.iload_n 1, 1) := by decide +kernel
theorem d_X11_pin_2 : decode prog_1_method_19_code 2 = .ok (.invokevirtual 132, 3) := by decide +kernel
theorem d_X11_pin_5 : decode prog_1_method_19_code 5 = .ok (.astore 4, 2) := by decide +kernel
theorem d_X11_pin_7 : decode prog_1_method_19_code 7 = .ok (.aload 4, 2) := by decide +kernel
theorem d_X11_pin_9 : decode prog_1_method_19_code 9 = .ok (.ifnull 15, 3) := by decide +kernel
theorem d_X11_pin_12 : decode prog_1_method_19_code 12 = .ok (.aload 4, 2) := by decide +kernel
theorem d_X11_pin_14 : decode prog_1_method_19_code 14 = .ok (.getfield 139, 3) := by decide +kernel
theorem d_X11_pin_17 : decode prog_1_method_19_code 17 = .ok (.iload_n 2, 1) := by decide +kernel
theorem d_X11_pin_18 : decode prog_1_method_19_code 18 = .ok (.invokevirtual 209, 3) := by decide +kernel
theorem d_X11_pin_21 : decode prog_1_method_19_code 21 = .ok (.ifCond .ne 5, 3) := by decide +kernel
theorem d_X11_pin_24 : decode prog_1_method_19_code 24 = .ok (.iconst 0, 1) := by decide +kernel
theorem d_X11_pin_25 : decode prog_1_method_19_code 25 = .ok (.ireturn, 1) := by decide +kernel
theorem d_X11_pin_26 : decode prog_1_method_19_code 26 = .ok (.aload 4, 2) := by decide +kernel
theorem d_X11_pin_28 : decode prog_1_method_19_code 28 = .ok (.getfield 148, 3) := by decide +kernel
theorem d_X11_pin_31 : decode prog_1_method_19_code 31 = .ok (.iload_n 2, 1) := by decide +kernel
theorem d_X11_pin_32 : decode prog_1_method_19_code 32 = .ok (.ishr, 1) := by decide +kernel
theorem d_X11_pin_33 : decode prog_1_method_19_code 33 = .ok (.iconst 1, 1) := by decide +kernel
theorem d_X11_pin_34 : decode prog_1_method_19_code 34 = .ok (.iand, 1) := by decide +kernel
theorem d_X11_pin_35 : decode prog_1_method_19_code 35 = .ok (.ifCond .eq 7, 3) := by decide +kernel
theorem d_X11_pin_38 : decode prog_1_method_19_code 38 = .ok (.iconst 1, 1) := by decide +kernel
theorem d_X11_pin_39 : decode prog_1_method_19_code 39 = .ok (.goto 4, 3) := by decide +kernel
theorem d_X11_pin_42 : decode prog_1_method_19_code 42 = .ok (.iconst 0, 1) := by decide +kernel
theorem v_X11_pin_0 {E : EE} {d : Nat} {Q : Option AV → AH → Prop} {x0 : Nat} {x1 : Int32} {x2 : Int32} {x3 : Int32} {G : AH} (h0 : 0 < d) (h : isO E G x0 11 ∧ (wpR E (d - 1) M_X11_known [vr x0, vi x1] G (fun r1 G2 => (r1 = 0 → Q (some (vi 0)) G2) ∧ (¬ r1 = 0 → isO E G2 r1 3 ∧ (isO E G2 (gR G2 r1 4) 7 ∧ (wpI E (d - 1) M_X7_isVar [vr (gR G2 r1 4), vi x2] G2 (fun r4 G5 => (¬ r4 = 0 → isO E G5 r1 3 ∧ (((((gI G5 r1 9) >>> (x2 &&& 31)) &&& 1) = 0 → wp E d M_X11_pin 43 [some (vr x0), some (vi x1), some (vi x2), some (vi x3), some (vr r1), none] [vi 0] G5 Q) ∧ (¬ ((((gI G5 r1 9) >>> (x2 &&& 31)) &&& 1) = 0) → wp E d M_X11_pin 43 [some (vr x0), some (vi x1), some (vi x2), some (vi x3), some (vr r1), none] [vi 1] G5 Q))) ∧ (r4 = 0 → Q (some (vi 0)) G5)))))))) : wp E d M_X11_pin 0 [some (vr x0), some (vi x1), some (vi x2), some (vi x3), none, none] [] G Q := by
  refine wp_aload_n (pc := 0) d_X11_pin_0 rfl ?_
  refine wp_iload_n (pc := 1) d_X11_pin_1 rfl ?_
  obtain ⟨ho8, h⟩ := h
  refine wp_invV (pc := 2) (N := M_X11_known) (As := [vi _]) (rest := []) (r := (cn_11, ct_11, 12)) d_X11_pin_2 ml_X11_132 mk_X11_known mv_X11_known h0 ho8 rfl rfl (Nat.le_of_ble_eq_true rfl) ?_
  refine wpM.mono h (fun rr G2 hr => ?_)
  obtain ⟨r1, rfl, h⟩ := hr
  show wp E d M_X11_pin 5 [some (vr _), some (vi _), some (vi _), some (vi _), none, none] [vr _] G2 Q
  refine wp_astore (pc := 5) (lv' := [some (vr _), some (vi _), some (vi _), some (vi _), some (vr _), none]) d_X11_pin_5 (by decide) rfl ?_
  refine wp_aload (pc := 7) d_X11_pin_7 rfl ?_
  refine wp_ifnull (pc := 9) (tgt := 24) d_X11_pin_9 (by decide) (fun hc => ?_) (fun hc => ?_)
  · have h := h.1 hc
    refine wp_iconst (pc := 24) (v := 0) d_X11_pin_24 rfl ?_
    exact wp_zret (pc := 25) d_X11_pin_25 rfl rfl h
  · have h := h.2 hc
    refine wp_aload (pc := 12) d_X11_pin_12 rfl ?_
    obtain ⟨ho3, h⟩ := h
    refine wp_getR (pc := 14) d_X11_pin_14 fl_X11_139 (fun _ _ _ => rfl) ho3 ?_
    refine wp_iload_n (pc := 17) d_X11_pin_17 rfl ?_
    obtain ⟨ho7, h⟩ := h
    refine wp_invV (pc := 18) (N := M_X7_isVar) (As := [vi _]) (rest := []) (r := (cn_7, ct_7, 5)) d_X11_pin_18 ml_X11_209 mk_X7_isVar mv_X7_isVar h0 ho7 rfl rfl (Nat.le_of_ble_eq_true rfl) ?_
    refine wpM.mono h (fun rr G5 hr => ?_)
    obtain ⟨r4, rfl, h⟩ := hr
    show wp E d M_X11_pin 21 [some (vr _), some (vi _), some (vi _), some (vi _), some (vr _), none] [vi _] G5 Q
    refine wp_if_ne (pc := 21) (tgt := 26) d_X11_pin_21 (by decide) (fun hc => ?_) (fun hc => ?_)
    · have h := h.1 hc
      refine wp_aload (pc := 26) d_X11_pin_26 rfl ?_
      obtain ⟨ho6, h⟩ := h
      refine wp_getI (pc := 28) d_X11_pin_28 fl_X11_148 (fun _ _ _ => rfl) ho6 ?_
      refine wp_iload_n (pc := 31) d_X11_pin_31 rfl ?_
      refine wp_ishr (pc := 32) d_X11_pin_32 ?_
      refine wp_iconst (pc := 33) (v := 1) d_X11_pin_33 rfl ?_
      refine wp_iand (pc := 34) d_X11_pin_34 ?_
      refine wp_if_eq (pc := 35) (tgt := 42) d_X11_pin_35 (by decide) (fun hc => ?_) (fun hc => ?_)
      · have h := h.1 hc
        refine wp_iconst (pc := 42) (v := 0) d_X11_pin_42 rfl ?_
        refine wp_sub ?_ h
        exact ⟨rfl, ⟨rfl, ⟨rfl, ⟨rfl, ⟨rfl, trivial⟩⟩⟩⟩⟩
      · have h := h.2 hc
        refine wp_iconst (pc := 38) (v := 1) d_X11_pin_38 rfl ?_
        refine wp_goto (pc := 39) (tgt := 43) d_X11_pin_39 (by decide) ?_
        refine wp_sub ?_ h
        exact ⟨rfl, ⟨rfl, ⟨rfl, ⟨rfl, ⟨rfl, trivial⟩⟩⟩⟩⟩
    · have h := h.2 hc
      refine wp_iconst (pc := 24) (v := 0) d_X11_pin_24 rfl ?_
      exact wp_zret (pc := 25) d_X11_pin_25 rfl rfl h
theorem d_X11_put_0 : decode prog_1_method_18_code 0 = .ok (.aload_n 0, 1) := by decide +kernel
theorem d_X11_put_1 : decode prog_1_method_18_code 1 = .ok (.iload_n 1, 1) := by decide +kernel
theorem d_X11_put_2 : decode prog_1_method_18_code 2 = .ok (.invokevirtual 132, 3) := by decide +kernel
theorem d_X11_put_5 : decode prog_1_method_18_code 5 = .ok (.astore 4, 2) := by decide +kernel
theorem d_X11_put_7 : decode prog_1_method_18_code 7 = .ok (.aload 4, 2) := by decide +kernel
theorem d_X11_put_9 : decode prog_1_method_18_code 9 = .ok (.ifnonnull 5, 3) := by decide +kernel
theorem d_X11_put_12 : decode prog_1_method_18_code 12 = .ok (.iconst 0, 1) := by decide +kernel
theorem d_X11_put_13 : decode prog_1_method_18_code 13 = .ok (.ireturn, 1) := by decide +kernel
theorem d_X11_put_14 : decode prog_1_method_18_code 14 = .ok (.aload 4, 2) := by decide +kernel
theorem d_X11_put_16 : decode prog_1_method_18_code 16 = .ok (.getfield 139, 3) := by decide +kernel
theorem d_X11_put_19 : decode prog_1_method_18_code 19 = .ok (.iload_n 2, 1) := by decide +kernel
theorem d_X11_put_20 : decode prog_1_method_18_code 20 = .ok (.iload_n 3, 1) := by decide +kernel
theorem d_X11_put_21 : decode prog_1_method_18_code 21 = .ok (.invokevirtual 261, 3) := by decide +kernel
theorem d_X11_put_24 : decode prog_1_method_18_code 24 = .ok (.istore 5, 2) := by decide +kernel
theorem d_X11_put_26 : decode prog_1_method_18_code 26 = .ok (.iload 5, 2) := by decide +kernel
theorem d_X11_put_28 : decode prog_1_method_18_code 28 = .ok (.ifCond .ge 5, 3) := by decide +kernel
theorem d_X11_put_31 : decode prog_1_method_18_code 31 = .ok (.iconst 0, 1) := by decide +kernel
theorem d_X11_put_32 : decode prog_1_method_18_code 32 = .ok (.ireturn, 1) := by decide +kernel
theorem d_X11_put_33 : decode prog_1_method_18_code 33 = .ok (.aload 4, 2) := by decide +kernel
theorem d_X11_put_35 : decode prog_1_method_18_code 35 = .ok (.aload 4, 2) := by decide +kernel
theorem d_X11_put_37 : decode prog_1_method_18_code 37 = .ok (.getfield 139, 3) := by decide +kernel
theorem d_X11_put_40 : decode prog_1_method_18_code 40 = .ok (.aload 4, 2) := by decide +kernel
theorem d_X11_put_42 : decode prog_1_method_18_code 42 = .ok (.getfield 254, 3) := by decide +kernel
theorem d_X11_put_45 : decode prog_1_method_18_code 45 = .ok (.iload_n 2, 1) := by decide +kernel
theorem d_X11_put_46 : decode prog_1_method_18_code 46 = .ok (.iload 5, 2) := by decide +kernel
theorem d_X11_put_48 : decode prog_1_method_18_code 48 = .ok (.invokevirtual 264, 3) := by decide +kernel
theorem d_X11_put_51 : decode prog_1_method_18_code 51 = .ok (.putfield 254, 3) := by decide +kernel
theorem d_X11_put_54 : decode prog_1_method_18_code 54 = .ok (.iconst 1, 1) := by decide +kernel
theorem d_X11_put_55 : decode prog_1_method_18_code 55 = .ok (.ireturn, 1) := by decide +kernel
theorem v_X11_put_0 {E : EE} {d : Nat} {Q : Option AV → AH → Prop} {x0 : Nat} {x1 : Int32} {x2 : Int32} {x3 : Int32} {G : AH} (h0 : 0 < d) (h : isO E G x0 11 ∧ (wpR E (d - 1) M_X11_known [vr x0, vi x1] G (fun r1 G2 => (¬ r1 = 0 → isO E G2 r1 3 ∧ (isO E G2 (gR G2 r1 4) 7 ∧ (wpI E (d - 1) M_X7_placeOfValue [vr (gR G2 r1 4), vi x2, vi x3] G2 (fun r4 G5 => (0 ≤ r4 → isO E G5 r1 3 ∧ (isO E G5 (gR G5 r1 4) 7 ∧ (wpI E (d - 1) M_X7_moved [vr (gR G5 r1 4), vi (gI G5 r1 8), vi x2, vi r4] G5 (fun r7 G8 => isO E G8 r1 3 ∧ (Q (some (vi 1)) (sI G8 r1 8 r7)))))) ∧ (¬ (0 ≤ r4) → Q (some (vi 0)) G5))))) ∧ (r1 = 0 → Q (some (vi 0)) G2)))) : wp E d M_X11_put 0 [some (vr x0), some (vi x1), some (vi x2), some (vi x3), none, none] [] G Q := by
  refine wp_aload_n (pc := 0) d_X11_put_0 rfl ?_
  refine wp_iload_n (pc := 1) d_X11_put_1 rfl ?_
  obtain ⟨ho12, h⟩ := h
  refine wp_invV (pc := 2) (N := M_X11_known) (As := [vi _]) (rest := []) (r := (cn_11, ct_11, 12)) d_X11_put_2 ml_X11_132 mk_X11_known mv_X11_known h0 ho12 rfl rfl (Nat.le_of_ble_eq_true rfl) ?_
  refine wpM.mono h (fun rr G2 hr => ?_)
  obtain ⟨r1, rfl, h⟩ := hr
  show wp E d M_X11_put 5 [some (vr _), some (vi _), some (vi _), some (vi _), none, none] [vr _] G2 Q
  refine wp_astore (pc := 5) (lv' := [some (vr _), some (vi _), some (vi _), some (vi _), some (vr _), none]) d_X11_put_5 (by decide) rfl ?_
  refine wp_aload (pc := 7) d_X11_put_7 rfl ?_
  refine wp_ifnonnull (pc := 9) (tgt := 14) d_X11_put_9 (by decide) (fun hc => ?_) (fun hc => ?_)
  · have h := h.1 hc
    refine wp_aload (pc := 14) d_X11_put_14 rfl ?_
    obtain ⟨ho3, h⟩ := h
    refine wp_getR (pc := 16) d_X11_put_16 fl_X11_139 (fun _ _ _ => rfl) ho3 ?_
    refine wp_iload_n (pc := 19) d_X11_put_19 rfl ?_
    refine wp_iload_n (pc := 20) d_X11_put_20 rfl ?_
    obtain ⟨ho11, h⟩ := h
    refine wp_invV (pc := 21) (N := M_X7_placeOfValue) (As := [vi _, vi _]) (rest := []) (r := (cn_7, ct_7, 5)) d_X11_put_21 ml_X11_261 mk_X7_placeOfValue mv_X7_placeOfValue h0 ho11 rfl rfl (Nat.le_of_ble_eq_true rfl) ?_
    refine wpM.mono h (fun rr G5 hr => ?_)
    obtain ⟨r4, rfl, h⟩ := hr
    show wp E d M_X11_put 24 [some (vr _), some (vi _), some (vi _), some (vi _), some (vr _), none] [vi _] G5 Q
    refine wp_istore (pc := 24) (lv' := [some (vr _), some (vi _), some (vi _), some (vi _), some (vr _), some (vi _)]) d_X11_put_24 (by decide) rfl ?_
    refine wp_iload (pc := 26) d_X11_put_26 rfl ?_
    refine wp_if_ge (pc := 28) (tgt := 33) d_X11_put_28 (by decide) (fun hc => ?_) (fun hc => ?_)
    · have h := h.1 hc
      refine wp_aload (pc := 33) d_X11_put_33 rfl ?_
      refine wp_aload (pc := 35) d_X11_put_35 rfl ?_
      obtain ⟨ho6, h⟩ := h
      refine wp_getR (pc := 37) d_X11_put_37 fl_X11_139 (fun _ _ _ => rfl) ho6 ?_
      refine wp_aload (pc := 40) d_X11_put_40 rfl ?_
      refine wp_getI (pc := 42) d_X11_put_42 fl_X11_254 (fun _ _ _ => rfl) ho6 ?_
      refine wp_iload_n (pc := 45) d_X11_put_45 rfl ?_
      refine wp_iload (pc := 46) d_X11_put_46 rfl ?_
      obtain ⟨ho10, h⟩ := h
      refine wp_invV (pc := 48) (N := M_X7_moved) (As := [vi _, vi _, vi _]) (rest := [vr _]) (r := (cn_7, ct_7, 5)) d_X11_put_48 ml_X11_264 mk_X7_moved mv_X7_moved h0 ho10 rfl rfl (Nat.le_of_ble_eq_true rfl) ?_
      refine wpM.mono h (fun rr G8 hr => ?_)
      obtain ⟨r7, rfl, h⟩ := hr
      show wp E d M_X11_put 51 [some (vr _), some (vi _), some (vi _), some (vi _), some (vr _), some (vi _)] [vi _, vr _] G8 Q
      obtain ⟨ho9, h⟩ := h
      refine wp_putI (pc := 51) d_X11_put_51 fl_X11_254 (fun _ _ _ => rfl) (Or.inl rfl) ho9 (okI_int _) ?_
      refine wp_iconst (pc := 54) (v := 1) d_X11_put_54 rfl ?_
      exact wp_zret (pc := 55) d_X11_put_55 rfl rfl h
    · have h := h.2 hc
      refine wp_iconst (pc := 31) (v := 0) d_X11_put_31 rfl ?_
      exact wp_zret (pc := 32) d_X11_put_32 rfl rfl h
  · have h := h.2 hc
    refine wp_iconst (pc := 12) (v := 0) d_X11_put_12 rfl ?_
    exact wp_zret (pc := 13) d_X11_put_13 rfl rfl h
theorem d_X11_value_0 : decode prog_1_method_17_code 0 = .ok (.aload_n 0, 1) := by decide +kernel
theorem d_X11_value_1 : decode prog_1_method_17_code 1 = .ok (.iload_n 1, 1) := by decide +kernel
theorem d_X11_value_2 : decode prog_1_method_17_code 2 = .ok (.invokevirtual 132, 3) := by decide +kernel
theorem d_X11_value_5 : decode prog_1_method_17_code 5 = .ok (.astore_n 3, 1) := by decide +kernel
theorem d_X11_value_6 : decode prog_1_method_17_code 6 = .ok (.aload_n 3, 1) := by decide +kernel
theorem d_X11_value_7 : decode prog_1_method_17_code 7 = .ok (.ifnull 14, 3) := by decide +kernel
theorem d_X11_value_10 : decode prog_1_method_17_code 10 = .ok (.aload_n 3, 1) := by decide +kernel
theorem d_X11_value_11 : decode prog_1_method_17_code 11 = .ok (.getfield 139, 3) := by decide +kernel
theorem d_X11_value_14 : decode prog_1_method_17_code 14 = .ok (.iload_n 2, 1) := by decide +kernel
theorem d_X11_value_15 : decode prog_1_method_17_code 15 = .ok (.invokevirtual 209, 3) := by decide +kernel
theorem d_X11_value_18 : decode prog_1_method_17_code 18 = .ok (.ifCond .ne 9, 3) := by decide +kernel
theorem d_X11_value_21 : decode prog_1_method_17_code 21 = .ok (.ldc2_w 215, 3) := by decide +kernel
theorem d_X11_value_24 : decode prog_1_method_17_code 24 = .ok (.goto 16, 3) := by decide +kernel
theorem d_X11_value_27 : decode prog_1_method_17_code 27 = .ok (.aload_n 3, 1) := by decide +kernel
theorem d_X11_value_28 : decode prog_1_method_17_code 28 = .ok (.getfield 139, 3) := by decide +kernel
theorem d_X11_value_31 : decode prog_1_method_17_code 31 = .ok (.aload_n 3, 1) := by decide +kernel
theorem d_X11_value_32 : decode prog_1_method_17_code 32 = .ok (.getfield 254, 3) := by decide +kernel
theorem d_X11_value_35 : decode prog_1_method_17_code 35 = .ok (.iload_n 2, 1) := by decide +kernel
theorem d_X11_value_36 : decode prog_1_method_17_code 36 = .ok (.invokevirtual 257, 3) := by decide +kernel
theorem d_X11_value_39 : decode prog_1_method_17_code 39 = .ok (.i2l, 1) := by decide +kernel
theorem d_X11_value_40 : decode prog_1_method_17_code 40 = .ok (.lreturn, 1) := by decide +kernel
theorem v_X11_value_0 {E : EE} {d : Nat} {Q : Option AV → AH → Prop} {x0 : Nat} {x1 : Int32} {x2 : Int32} {G : AH} (h0 : 0 < d) (h : isO E G x0 11 ∧ (wpR E (d - 1) M_X11_known [vr x0, vi x1] G (fun r1 G2 => (r1 = 0 → wp E d M_X11_value 21 [some (vr x0), some (vi x1), some (vi x2), some (vr r1)] [] G2 Q) ∧ (¬ r1 = 0 → isO E G2 r1 3 ∧ (isO E G2 (gR G2 r1 4) 7 ∧ (wpI E (d - 1) M_X7_isVar [vr (gR G2 r1 4), vi x2] G2 (fun r4 G5 => (¬ r4 = 0 → isO E G5 r1 3 ∧ (isO E G5 (gR G5 r1 4) 7 ∧ (wpI E (d - 1) M_X7_valueOf [vr (gR G5 r1 4), vi (gI G5 r1 8), vi x2] G5 (fun r7 G8 => Q (some (vj (Int32.toInt64 r7))) G8)))) ∧ (r4 = 0 → wp E d M_X11_value 21 [some (vr x0), some (vi x1), some (vi x2), some (vr r1)] [] G5 Q)))))))) : wp E d M_X11_value 0 [some (vr x0), some (vi x1), some (vi x2), none] [] G Q := by
  refine wp_aload_n (pc := 0) d_X11_value_0 rfl ?_
  refine wp_iload_n (pc := 1) d_X11_value_1 rfl ?_
  obtain ⟨ho11, h⟩ := h
  refine wp_invV (pc := 2) (N := M_X11_known) (As := [vi _]) (rest := []) (r := (cn_11, ct_11, 12)) d_X11_value_2 ml_X11_132 mk_X11_known mv_X11_known h0 ho11 rfl rfl (Nat.le_of_ble_eq_true rfl) ?_
  refine wpM.mono h (fun rr G2 hr => ?_)
  obtain ⟨r1, rfl, h⟩ := hr
  show wp E d M_X11_value 5 [some (vr _), some (vi _), some (vi _), none] [vr _] G2 Q
  refine wp_astore_n (pc := 5) (lv' := [some (vr _), some (vi _), some (vi _), some (vr _)]) d_X11_value_5 (by decide) rfl ?_
  refine wp_aload_n (pc := 6) d_X11_value_6 rfl ?_
  refine wp_ifnull (pc := 7) (tgt := 21) d_X11_value_7 (by decide) (fun hc => ?_) (fun hc => ?_)
  · have h := h.1 hc
    refine wp_sub ?_ h
    exact ⟨rfl, ⟨rfl, ⟨rfl, ⟨rfl, trivial⟩⟩⟩⟩
  · have h := h.2 hc
    refine wp_aload_n (pc := 10) d_X11_value_10 rfl ?_
    obtain ⟨ho3, h⟩ := h
    refine wp_getR (pc := 11) d_X11_value_11 fl_X11_139 (fun _ _ _ => rfl) ho3 ?_
    refine wp_iload_n (pc := 14) d_X11_value_14 rfl ?_
    obtain ⟨ho10, h⟩ := h
    refine wp_invV (pc := 15) (N := M_X7_isVar) (As := [vi _]) (rest := []) (r := (cn_7, ct_7, 5)) d_X11_value_15 ml_X11_209 mk_X7_isVar mv_X7_isVar h0 ho10 rfl rfl (Nat.le_of_ble_eq_true rfl) ?_
    refine wpM.mono h (fun rr G5 hr => ?_)
    obtain ⟨r4, rfl, h⟩ := hr
    show wp E d M_X11_value 18 [some (vr _), some (vi _), some (vi _), some (vr _)] [vi _] G5 Q
    refine wp_if_ne (pc := 18) (tgt := 27) d_X11_value_18 (by decide) (fun hc => ?_) (fun hc => ?_)
    · have h := h.1 hc
      refine wp_aload_n (pc := 27) d_X11_value_27 rfl ?_
      obtain ⟨ho6, h⟩ := h
      refine wp_getR (pc := 28) d_X11_value_28 fl_X11_139 (fun _ _ _ => rfl) ho6 ?_
      refine wp_aload_n (pc := 31) d_X11_value_31 rfl ?_
      refine wp_getI (pc := 32) d_X11_value_32 fl_X11_254 (fun _ _ _ => rfl) ho6 ?_
      refine wp_iload_n (pc := 35) d_X11_value_35 rfl ?_
      obtain ⟨ho9, h⟩ := h
      refine wp_invV (pc := 36) (N := M_X7_valueOf) (As := [vi _, vi _]) (rest := []) (r := (cn_7, ct_7, 5)) d_X11_value_36 ml_X11_257 mk_X7_valueOf mv_X7_valueOf h0 ho9 rfl rfl (Nat.le_of_ble_eq_true rfl) ?_
      refine wpM.mono h (fun rr G8 hr => ?_)
      obtain ⟨r7, rfl, h⟩ := hr
      show wp E d M_X11_value 39 [some (vr _), some (vi _), some (vi _), some (vr _)] [vi _] G8 Q
      refine wp_i2l (pc := 39) d_X11_value_39 ?_
      exact wp_lret (pc := 40) d_X11_value_40 rfl h
    · have h := h.2 hc
      refine wp_sub ?_ h
      exact ⟨rfl, ⟨rfl, ⟨rfl, ⟨rfl, trivial⟩⟩⟩⟩
theorem v_X11_value_21 {E : EE} {d : Nat} {Q : Option AV → AH → Prop} {x0 : Nat} {x1 : Int32} {x2 : Int32} {x3 : Nat} {G : AH} (h : Q (some (vj (-9223372036854775808))) G) : wp E d M_X11_value 21 [some (vr x0), some (vi x1), some (vi x2), some (vr x3)] [] G Q := by
  refine wp_ldc2 (pc := 21) (v := (-9223372036854775808)) d_X11_value_21 cj_X11_215 ?_
  refine wp_goto (pc := 24) (tgt := 40) d_X11_value_24 (by decide) ?_
  exact wp_lret (pc := 40) d_X11_value_40 rfl h
theorem d_X11_change_0 : decode prog_1_method_16_code 0 = .ok (.aload_n 0, 1) := by decide +kernel
theorem d_X11_change_1 : decode prog_1_method_16_code 1 = .ok (.iload_n 1, 1) := by decide +kernel
theorem d_X11_change_2 : decode prog_1_method_16_code 2 = .ok (.invokevirtual 132, 3) := by decide +kernel
theorem d_X11_change_5 : decode prog_1_method_16_code 5 = .ok (.astore 4, 2) := by decide +kernel
theorem d_X11_change_7 : decode prog_1_method_16_code 7 = .ok (.aload 4, 2) := by decide +kernel
theorem d_X11_change_9 : decode prog_1_method_16_code 9 = .ok (.ifnull 26, 3) := by decide +kernel
theorem d_X11_change_12 : decode prog_1_method_16_code 12 = .ok (.aload 4, 2) := by decide +kernel
theorem d_X11_change_14 : decode prog_1_method_16_code 14 = .ok (.iload_n 2, 1) := by decide +kernel
theorem d_X11_change_15 : decode prog_1_method_16_code 15 = .ok (.invokevirtual 245, 3) := by decide +kernel
theorem d_X11_change_18 : decode prog_1_method_16_code 18 = .ok (.ifCond .eq 17, 3) := by decide +kernel
theorem d_X11_change_21 : decode prog_1_method_16_code 21 = .ok (.iload_n 3, 1) := by decide +kernel
theorem d_X11_change_22 : decode prog_1_method_16_code 22 = .ok (.sipush (-9999), 3) := by decide +kernel
theorem d_X11_change_25 : decode prog_1_method_16_code 25 = .ok (.if_icmp .lt 10, 3) := by decide +kernel
theorem d_X11_change_28 : decode prog_1_method_16_code 28 = .ok (.iload_n 3, 1) := by decide +kernel
theorem d_X11_change_29 : decode prog_1_method_16_code 29 = .ok (.sipush 9999, 3) := by decide +kernel
theorem d_X11_change_32 : decode prog_1_method_16_code 32 = .ok (.if_icmp .le 5, 3) := by decide +kernel
theorem d_X11_change_35 : decode prog_1_method_16_code 35 = .ok (.iconst 0, 1) := by decide +kernel
theorem d_X11_change_36 : decode prog_1_method_16_code 36 = .ok (.ireturn, 1) := by decide +kernel
theorem d_X11_change_37 : decode prog_1_method_16_code 37 = .ok (.aload 4, 2) := by decide +kernel
theorem d_X11_change_39 : decode prog_1_method_16_code 39 = .ok (.getfield 248, 3) := by decide +kernel
theorem d_X11_change_42 : decode prog_1_method_16_code 42 = .ok (.iload_n 2, 1) := by decide +kernel
theorem d_X11_change_43 : decode prog_1_method_16_code 43 = .ok (.iload_n 3, 1) := by decide +kernel
theorem d_X11_change_44 : decode prog_1_method_16_code 44 = .ok (.iastore, 1) := by decide +kernel
theorem d_X11_change_45 : decode prog_1_method_16_code 45 = .ok (.aload 4, 2) := by decide +kernel
theorem d_X11_change_47 : decode prog_1_method_16_code 47 = .ok (.getfield 232, 3) := by decide +kernel
theorem d_X11_change_50 : decode prog_1_method_16_code 50 = .ok (.iconst 0, 1) := by decide +kernel
theorem d_X11_change_51 : decode prog_1_method_16_code 51 = .ok (.putfield 251, 3) := by decide +kernel
theorem d_X11_change_54 : decode prog_1_method_16_code 54 = .ok (.iconst 1, 1) := by decide +kernel
theorem d_X11_change_55 : decode prog_1_method_16_code 55 = .ok (.ireturn, 1) := by decide +kernel
theorem v_X11_change_0 {E : EE} {d : Nat} {Q : Option AV → AH → Prop} {x0 : Nat} {x1 : Int32} {x2 : Int32} {x3 : Int32} {G : AH} (h0 : 0 < d) (h : isO E G x0 11 ∧ (wpR E (d - 1) M_X11_known [vr x0, vi x1] G (fun r1 G2 => (r1 = 0 → Q (some (vi 0)) G2) ∧ (¬ r1 = 0 → isO E G2 r1 3 ∧ (wpI E (d - 1) M_X3_isFact [vr r1, vi x2] G2 (fun r3 G4 => (r3 = 0 → Q (some (vi 0)) G4) ∧ (¬ (r3 = 0) → (x3 < (-9999) → Q (some (vi 0)) G4) ∧ (¬ (x3 < (-9999)) → (x3 ≤ 9999 → isO E G4 r1 3 ∧ (isO E G4 (gR G4 r1 7) 14 ∧ (vp_in x2 (gN G4 (gR G4 r1 7)) ∧ (∀ G8 : AH, G8 = sI G4 (gR G4 r1 7) (Int32.toNatClampNeg x2) x3 → isO E G8 (gR G8 r1 6) 9 ∧ (∀ G11 : AH, G11 = sI G8 (gR G8 r1 6) 0 0 → Q (some (vi 1)) G11))))) ∧ (¬ (x3 ≤ 9999) → Q (some (vi 0)) G4))))))))) : wp E d M_X11_change 0 [some (vr x0), some (vi x1), some (vi x2), some (vi x3), none] [] G Q := by
  refine wp_aload_n (pc := 0) d_X11_change_0 rfl ?_
  refine wp_iload_n (pc := 1) d_X11_change_1 rfl ?_
  obtain ⟨ho14, h⟩ := h
  refine wp_invV (pc := 2) (N := M_X11_known) (As := [vi _]) (rest := []) (r := (cn_11, ct_11, 12)) d_X11_change_2 ml_X11_132 mk_X11_known mv_X11_known h0 ho14 rfl rfl (Nat.le_of_ble_eq_true rfl) ?_
  refine wpM.mono h (fun rr G2 hr => ?_)
  obtain ⟨r1, rfl, h⟩ := hr
  show wp E d M_X11_change 5 [some (vr _), some (vi _), some (vi _), some (vi _), none] [vr _] G2 Q
  refine wp_astore (pc := 5) (lv' := [some (vr _), some (vi _), some (vi _), some (vi _), some (vr _)]) d_X11_change_5 (by decide) rfl ?_
  refine wp_aload (pc := 7) d_X11_change_7 rfl ?_
  refine wp_ifnull (pc := 9) (tgt := 35) d_X11_change_9 (by decide) (fun hc => ?_) (fun hc => ?_)
  · have h := h.1 hc
    refine wp_iconst (pc := 35) (v := 0) d_X11_change_35 rfl ?_
    exact wp_zret (pc := 36) d_X11_change_36 rfl rfl h
  · have h := h.2 hc
    refine wp_aload (pc := 12) d_X11_change_12 rfl ?_
    refine wp_iload_n (pc := 14) d_X11_change_14 rfl ?_
    obtain ⟨ho13, h⟩ := h
    refine wp_invV (pc := 15) (N := M_X3_isFact) (As := [vi _]) (rest := []) (r := (cn_3, ct_3, 19)) d_X11_change_15 ml_X11_245 mk_X3_isFact mv_X3_isFact h0 ho13 rfl rfl (Nat.le_of_ble_eq_true rfl) ?_
    refine wpM.mono h (fun rr G4 hr => ?_)
    obtain ⟨r3, rfl, h⟩ := hr
    show wp E d M_X11_change 18 [some (vr _), some (vi _), some (vi _), some (vi _), some (vr _)] [vi _] G4 Q
    refine wp_if_eq (pc := 18) (tgt := 35) d_X11_change_18 (by decide) (fun hc => ?_) (fun hc => ?_)
    · have h := h.1 hc
      refine wp_iconst (pc := 35) (v := 0) d_X11_change_35 rfl ?_
      exact wp_zret (pc := 36) d_X11_change_36 rfl rfl h
    · have h := h.2 hc
      refine wp_iload_n (pc := 21) d_X11_change_21 rfl ?_
      refine wp_sipush (pc := 22) (v := (-9999)) d_X11_change_22 rfl ?_
      refine wp_icmp_lt (pc := 25) (tgt := 35) d_X11_change_25 (by decide) (fun hc => ?_) (fun hc => ?_)
      · have h := h.1 hc
        refine wp_iconst (pc := 35) (v := 0) d_X11_change_35 rfl ?_
        exact wp_zret (pc := 36) d_X11_change_36 rfl rfl h
      · have h := h.2 hc
        refine wp_iload_n (pc := 28) d_X11_change_28 rfl ?_
        refine wp_sipush (pc := 29) (v := 9999) d_X11_change_29 rfl ?_
        refine wp_icmp_le (pc := 32) (tgt := 37) d_X11_change_32 (by decide) (fun hc => ?_) (fun hc => ?_)
        · have h := h.1 hc
          refine wp_aload (pc := 37) d_X11_change_37 rfl ?_
          obtain ⟨ho5, h⟩ := h
          refine wp_getR (pc := 39) d_X11_change_39 fl_X11_248 (fun _ _ _ => rfl) ho5 ?_
          refine wp_iload_n (pc := 42) d_X11_change_42 rfl ?_
          refine wp_iload_n (pc := 43) d_X11_change_43 rfl ?_
          obtain ⟨ho6, h⟩ := h
          obtain ⟨hi7, h⟩ := h
          refine wp_iast (pc := 44) d_X11_change_44 ho6 hi7 ?_
          refine wp_nm (fun G8 eG8 => ?_)
          have h := h G8 eG8
          have ho9 := isO_sI eG8 ho5
          refine wp_aload (pc := 45) d_X11_change_45 rfl ?_
          refine wp_getR (pc := 47) d_X11_change_47 fl_X11_232 (fun _ _ _ => rfl) ho9 ?_
          refine wp_iconst (pc := 50) (v := 0) d_X11_change_50 rfl ?_
          obtain ⟨ho10, h⟩ := h
          refine wp_putI (pc := 51) d_X11_change_51 fl_X11_251 (fun _ _ _ => rfl) (Or.inl rfl) ho10 okI_z0 ?_
          refine wp_nm (fun G11 eG11 => ?_)
          have h := h G11 eG11
          have ho12 := isO_sI eG11 ho9
          refine wp_iconst (pc := 54) (v := 1) d_X11_change_54 rfl ?_
          exact wp_zret (pc := 55) d_X11_change_55 rfl rfl h
        · have h := h.2 hc
          refine wp_iconst (pc := 35) (v := 0) d_X11_change_35 rfl ?_
          exact wp_zret (pc := 36) d_X11_change_36 rfl rfl h
theorem d_X11_fact_0 : decode prog_1_method_15_code 0 = .ok (.aload_n 0, 1) := by decide +kernel
theorem d_X11_fact_1 : decode prog_1_method_15_code 1 = .ok (.iload_n 1, 1) := by decide +kernel
theorem d_X11_fact_2 : decode prog_1_method_15_code 2 = .ok (.invokevirtual 132, 3) := by decide +kernel
theorem d_X11_fact_5 : decode prog_1_method_15_code 5 = .ok (.astore_n 3, 1) := by decide +kernel
theorem d_X11_fact_6 : decode prog_1_method_15_code 6 = .ok (.aload_n 3, 1) := by decide +kernel
theorem d_X11_fact_7 : decode prog_1_method_15_code 7 = .ok (.ifnull 11, 3) := by decide +kernel
theorem d_X11_fact_10 : decode prog_1_method_15_code 10 = .ok (.aload_n 3, 1) := by decide +kernel
theorem d_X11_fact_11 : decode prog_1_method_15_code 11 = .ok (.iload_n 2, 1) := by decide +kernel
theorem d_X11_fact_12 : decode prog_1_method_15_code 12 = .ok (.invokevirtual 245, 3) := by decide +kernel
theorem d_X11_fact_15 : decode prog_1_method_15_code 15 = .ok (.ifCond .ne 9, 3) := by decide +kernel
theorem d_X11_fact_18 : decode prog_1_method_15_code 18 = .ok (.ldc2_w 215, 3) := by decide +kernel
theorem d_X11_fact_21 : decode prog_1_method_15_code 21 = .ok (.goto 10, 3) := by decide +kernel
theorem d_X11_fact_24 : decode prog_1_method_15_code 24 = .ok (.aload_n 3, 1) := by decide +kernel
theorem d_X11_fact_25 : decode prog_1_method_15_code 25 = .ok (.getfield 248, 3) := by decide +kernel
theorem d_X11_fact_28 : decode prog_1_method_15_code 28 = .ok (.iload_n 2, 1) := by decide +kernel
theorem d_X11_fact_29 : decode prog_1_method_15_code 29 = .ok (.iaload, 1) := by decide +kernel
theorem d_X11_fact_30 : decode prog_1_method_15_code 30 = .ok (.i2l, 1) := by decide +kernel
theorem d_X11_fact_31 : decode prog_1_method_15_code 31 = .ok (.lreturn, 1) := by decide +kernel
theorem v_X11_fact_0 {E : EE} {d : Nat} {Q : Option AV → AH → Prop} {x0 : Nat} {x1 : Int32} {x2 : Int32} {G : AH} (h0 : 0 < d) (h : isO E G x0 11 ∧ (wpR E (d - 1) M_X11_known [vr x0, vi x1] G (fun r1 G2 => (r1 = 0 → wp E d M_X11_fact 18 [some (vr x0), some (vi x1), some (vi x2), some (vr r1)] [] G2 Q) ∧ (¬ r1 = 0 → isO E G2 r1 3 ∧ (wpI E (d - 1) M_X3_isFact [vr r1, vi x2] G2 (fun r3 G4 => (¬ r3 = 0 → isO E G4 r1 3 ∧ (isO E G4 (gR G4 r1 7) 14 ∧ (vp_in x2 (gN G4 (gR G4 r1 7)) ∧ (Q (some (vj (Int32.toInt64 (gI G4 (gR G4 r1 7) (Int32.toNatClampNeg x2))))) G4)))) ∧ (r3 = 0 → wp E d M_X11_fact 18 [some (vr x0), some (vi x1), some (vi x2), some (vr r1)] [] G4 Q))))))) : wp E d M_X11_fact 0 [some (vr x0), some (vi x1), some (vi x2), none] [] G Q := by
  refine wp_aload_n (pc := 0) d_X11_fact_0 rfl ?_
  refine wp_iload_n (pc := 1) d_X11_fact_1 rfl ?_
  obtain ⟨ho9, h⟩ := h
  refine wp_invV (pc := 2) (N := M_X11_known) (As := [vi _]) (rest := []) (r := (cn_11, ct_11, 12)) d_X11_fact_2 ml_X11_132 mk_X11_known mv_X11_known h0 ho9 rfl rfl (Nat.le_of_ble_eq_true rfl) ?_
  refine wpM.mono h (fun rr G2 hr => ?_)
  obtain ⟨r1, rfl, h⟩ := hr
  show wp E d M_X11_fact 5 [some (vr _), some (vi _), some (vi _), none] [vr _] G2 Q
  refine wp_astore_n (pc := 5) (lv' := [some (vr _), some (vi _), some (vi _), some (vr _)]) d_X11_fact_5 (by decide) rfl ?_
  refine wp_aload_n (pc := 6) d_X11_fact_6 rfl ?_
  refine wp_ifnull (pc := 7) (tgt := 18) d_X11_fact_7 (by decide) (fun hc => ?_) (fun hc => ?_)
  · have h := h.1 hc
    refine wp_sub ?_ h
    exact ⟨rfl, ⟨rfl, ⟨rfl, ⟨rfl, trivial⟩⟩⟩⟩
  · have h := h.2 hc
    refine wp_aload_n (pc := 10) d_X11_fact_10 rfl ?_
    refine wp_iload_n (pc := 11) d_X11_fact_11 rfl ?_
    obtain ⟨ho8, h⟩ := h
    refine wp_invV (pc := 12) (N := M_X3_isFact) (As := [vi _]) (rest := []) (r := (cn_3, ct_3, 19)) d_X11_fact_12 ml_X11_245 mk_X3_isFact mv_X3_isFact h0 ho8 rfl rfl (Nat.le_of_ble_eq_true rfl) ?_
    refine wpM.mono h (fun rr G4 hr => ?_)
    obtain ⟨r3, rfl, h⟩ := hr
    show wp E d M_X11_fact 15 [some (vr _), some (vi _), some (vi _), some (vr _)] [vi _] G4 Q
    refine wp_if_ne (pc := 15) (tgt := 24) d_X11_fact_15 (by decide) (fun hc => ?_) (fun hc => ?_)
    · have h := h.1 hc
      refine wp_aload_n (pc := 24) d_X11_fact_24 rfl ?_
      obtain ⟨ho5, h⟩ := h
      refine wp_getR (pc := 25) d_X11_fact_25 fl_X11_248 (fun _ _ _ => rfl) ho5 ?_
      refine wp_iload_n (pc := 28) d_X11_fact_28 rfl ?_
      obtain ⟨ho6, h⟩ := h
      obtain ⟨hi7, h⟩ := h
      refine wp_iald (pc := 29) d_X11_fact_29 ho6 hi7 ?_
      refine wp_i2l (pc := 30) d_X11_fact_30 ?_
      exact wp_lret (pc := 31) d_X11_fact_31 rfl h
    · have h := h.2 hc
      refine wp_sub ?_ h
      exact ⟨rfl, ⟨rfl, ⟨rfl, ⟨rfl, trivial⟩⟩⟩⟩
theorem v_X11_fact_18 {E : EE} {d : Nat} {Q : Option AV → AH → Prop} {x0 : Nat} {x1 : Int32} {x2 : Int32} {x3 : Nat} {G : AH} (h : Q (some (vj (-9223372036854775808))) G) : wp E d M_X11_fact 18 [some (vr x0), some (vi x1), some (vi x2), some (vr x3)] [] G Q := by
  refine wp_ldc2 (pc := 18) (v := (-9223372036854775808)) d_X11_fact_18 cj_X11_215 ?_
  refine wp_goto (pc := 21) (tgt := 31) d_X11_fact_21 (by decide) ?_
  exact wp_lret (pc := 31) d_X11_fact_31 rfl h
theorem d_X11_rule_0 : decode prog_1_method_14_code 0 = .ok (.aload_n 0, 1) := by decide +kernel
theorem d_X11_rule_1 : decode prog_1_method_14_code 1 = .ok (.iload_n 1, 1) := by decide +kernel
theorem d_X11_rule_2 : decode prog_1_method_14_code 2 = .ok (.invokevirtual 132, 3) := by decide +kernel
theorem d_X11_rule_5 : decode prog_1_method_14_code 5 = .ok (.astore 4, 2) := by decide +kernel
theorem d_X11_rule_7 : decode prog_1_method_14_code 7 = .ok (.aload 4, 2) := by decide +kernel
theorem d_X11_rule_9 : decode prog_1_method_14_code 9 = .ok (.ifnull 12, 3) := by decide +kernel
theorem d_X11_rule_12 : decode prog_1_method_14_code 12 = .ok (.aload 4, 2) := by decide +kernel
theorem d_X11_rule_14 : decode prog_1_method_14_code 14 = .ok (.iload_n 2, 1) := by decide +kernel
theorem d_X11_rule_15 : decode prog_1_method_14_code 15 = .ok (.invokevirtual 220, 3) := by decide +kernel
theorem d_X11_rule_18 : decode prog_1_method_14_code 18 = .ok (.ifCond .ne 5, 3) := by decide +kernel
theorem d_X11_rule_21 : decode prog_1_method_14_code 21 = .ok (.iconst (-1), 1) := by decide +kernel
theorem d_X11_rule_22 : decode prog_1_method_14_code 22 = .ok (.ireturn, 1) := by decide +kernel
theorem d_X11_rule_23 : decode prog_1_method_14_code 23 = .ok (.iload_n 3, 1) := by decide +kernel
theorem d_X11_rule_24 : decode prog_1_method_14_code 24 = .ok (.tableswitch 88 0 3 #[32, 43, 54, 65], 32) := by decide +kernel
theorem d_X11_rule_56 : decode prog_1_method_14_code 56 = .ok (.aload 4, 2) := by decide +kernel
theorem d_X11_rule_58 : decode prog_1_method_14_code 58 = .ok (.getfield 154, 3) := by decide +kernel
theorem d_X11_rule_61 : decode prog_1_method_14_code 61 = .ok (.getfield 223, 3) := by decide +kernel
theorem d_X11_rule_64 : decode prog_1_method_14_code 64 = .ok (.iload_n 2, 1) := by decide +kernel
theorem d_X11_rule_65 : decode prog_1_method_14_code 65 = .ok (.iaload, 1) := by decide +kernel
theorem d_X11_rule_66 : decode prog_1_method_14_code 66 = .ok (.ireturn, 1) := by decide +kernel
theorem d_X11_rule_67 : decode prog_1_method_14_code 67 = .ok (.aload 4, 2) := by decide +kernel
theorem d_X11_rule_69 : decode prog_1_method_14_code 69 = .ok (.getfield 154, 3) := by decide +kernel
theorem d_X11_rule_72 : decode prog_1_method_14_code 72 = .ok (.getfield 226, 3) := by decide +kernel
theorem d_X11_rule_75 : decode prog_1_method_14_code 75 = .ok (.iload_n 2, 1) := by decide +kernel
theorem d_X11_rule_76 : decode prog_1_method_14_code 76 = .ok (.iaload, 1) := by decide +kernel
theorem d_X11_rule_77 : decode prog_1_method_14_code 77 = .ok (.ireturn, 1) := by decide +kernel
theorem d_X11_rule_78 : decode prog_1_method_14_code 78 = .ok (.aload 4, 2) := by decide +kernel
theorem d_X11_rule_80 : decode prog_1_method_14_code 80 = .ok (.getfield 154, 3) := by decide +kernel
theorem d_X11_rule_83 : decode prog_1_method_14_code 83 = .ok (.getfield 229, 3) := by decide +kernel
theorem d_X11_rule_86 : decode prog_1_method_14_code 86 = .ok (.iload_n 2, 1) := by decide +kernel
theorem d_X11_rule_87 : decode prog_1_method_14_code 87 = .ok (.iaload, 1) := by decide +kernel
theorem d_X11_rule_88 : decode prog_1_method_14_code 88 = .ok (.ireturn, 1) := by decide +kernel
theorem d_X11_rule_89 : decode prog_1_method_14_code 89 = .ok (.aload 4, 2) := by decide +kernel
theorem d_X11_rule_91 : decode prog_1_method_14_code 91 = .ok (.getfield 232, 3) := by decide +kernel
theorem d_X11_rule_94 : decode prog_1_method_14_code 94 = .ok (.aload 4, 2) := by decide +kernel
theorem d_X11_rule_96 : decode prog_1_method_14_code 96 = .ok (.invokevirtual 236, 3) := by decide +kernel
theorem d_X11_rule_99 : decode prog_1_method_14_code 99 = .ok (.aload 4, 2) := by decide +kernel
theorem d_X11_rule_101 : decode prog_1_method_14_code 101 = .ok (.getfield 232, 3) := by decide +kernel
theorem d_X11_rule_104 : decode prog_1_method_14_code 104 = .ok (.getfield 242, 3) := by decide +kernel
theorem d_X11_rule_107 : decode prog_1_method_14_code 107 = .ok (.iload_n 2, 1) := by decide +kernel
theorem d_X11_rule_108 : decode prog_1_method_14_code 108 = .ok (.ishr, 1) := by decide +kernel
theorem d_X11_rule_109 : decode prog_1_method_14_code 109 = .ok (.iconst 1, 1) := by decide +kernel
theorem d_X11_rule_110 : decode prog_1_method_14_code 110 = .ok (.iand, 1) := by decide +kernel
theorem d_X11_rule_111 : decode prog_1_method_14_code 111 = .ok (.ireturn, 1) := by decide +kernel
theorem d_X11_rule_112 : decode prog_1_method_14_code 112 = .ok (.iconst (-1), 1) := by decide +kernel
theorem d_X11_rule_113 : decode prog_1_method_14_code 113 = .ok (.ireturn, 1) := by decide +kernel
theorem v_X11_rule_0 {E : EE} {d : Nat} {Q : Option AV → AH → Prop} {x0 : Nat} {x1 : Int32} {x2 : Int32} {x3 : Int32} {G : AH} (h0 : 0 < d) (h : isO E G x0 11 ∧ (wpR E (d - 1) M_X11_known [vr x0, vi x1] G (fun r1 G2 => (r1 = 0 → Q (some (vi (-1))) G2) ∧ (¬ r1 = 0 → isO E G2 r1 3 ∧ (wpI E (d - 1) M_X3_isRule [vr r1, vi x2] G2 (fun r3 G4 => (¬ r3 = 0 → (x3 = 0 → isO E G4 r1 3 ∧ (isO E G4 (gR G4 r1 5) 2 ∧ (isO E G4 (gR G4 (gR G4 r1 5) 4) 14 ∧ (vp_in x2 (gN G4 (gR G4 (gR G4 r1 5) 4)) ∧ (Q (some (vi (gI G4 (gR G4 (gR G4 r1 5) 4) (Int32.toNatClampNeg x2)))) G4))))) ∧ ((x3 = 1 → isO E G4 r1 3 ∧ (isO E G4 (gR G4 r1 5) 2 ∧ (isO E G4 (gR G4 (gR G4 r1 5) 5) 14 ∧ (vp_in x2 (gN G4 (gR G4 (gR G4 r1 5) 5)) ∧ (Q (some (vi (gI G4 (gR G4 (gR G4 r1 5) 5) (Int32.toNatClampNeg x2)))) G4))))) ∧ ((x3 = 2 → isO E G4 r1 3 ∧ (isO E G4 (gR G4 r1 5) 2 ∧ (isO E G4 (gR G4 (gR G4 r1 5) 6) 14 ∧ (vp_in x2 (gN G4 (gR G4 (gR G4 r1 5) 6)) ∧ (Q (some (vi (gI G4 (gR G4 (gR G4 r1 5) 6) (Int32.toNatClampNeg x2)))) G4))))) ∧ ((x3 = 3 → isO E G4 r1 3 ∧ (isO E G4 (gR G4 r1 6) 9 ∧ (wpV E (d - 1) M_X9_renew [vr (gR G4 r1 6), vr r1] G4 (fun G22 => isO E G22 r1 3 ∧ (isO E G22 (gR G22 r1 6) 9 ∧ (Q (some (vi (((gI G22 (gR G22 r1 6) 1) >>> (x2 &&& 31)) &&& 1))) G22)))))) ∧ ((¬ x3 = 0 → ¬ x3 = 1 → ¬ x3 = 2 → ¬ x3 = 3 → Q (some (vi (-1))) G4)))))) ∧ (r3 = 0 → Q (some (vi (-1))) G4))))))) : wp E d M_X11_rule 0 [some (vr x0), some (vi x1), some (vi x2), some (vi x3), none] [] G Q := by
  refine wp_aload_n (pc := 0) d_X11_rule_0 rfl ?_
  refine wp_iload_n (pc := 1) d_X11_rule_1 rfl ?_
  obtain ⟨ho27, h⟩ := h
  refine wp_invV (pc := 2) (N := M_X11_known) (As := [vi _]) (rest := []) (r := (cn_11, ct_11, 12)) d_X11_rule_2 ml_X11_132 mk_X11_known mv_X11_known h0 ho27 rfl rfl (Nat.le_of_ble_eq_true rfl) ?_
  refine wpM.mono h (fun rr G2 hr => ?_)
  obtain ⟨r1, rfl, h⟩ := hr
  show wp E d M_X11_rule 5 [some (vr _), some (vi _), some (vi _), some (vi _), none] [vr _] G2 Q
  refine wp_astore (pc := 5) (lv' := [some (vr _), some (vi _), some (vi _), some (vi _), some (vr _)]) d_X11_rule_5 (by decide) rfl ?_
  refine wp_aload (pc := 7) d_X11_rule_7 rfl ?_
  refine wp_ifnull (pc := 9) (tgt := 21) d_X11_rule_9 (by decide) (fun hc => ?_) (fun hc => ?_)
  · have h := h.1 hc
    refine wp_iconst (pc := 21) (v := (-1)) d_X11_rule_21 rfl ?_
    exact wp_iret (pc := 22) d_X11_rule_22 rfl h
  · have h := h.2 hc
    refine wp_aload (pc := 12) d_X11_rule_12 rfl ?_
    refine wp_iload_n (pc := 14) d_X11_rule_14 rfl ?_
    obtain ⟨ho26, h⟩ := h
    refine wp_invV (pc := 15) (N := M_X3_isRule) (As := [vi _]) (rest := []) (r := (cn_3, ct_3, 19)) d_X11_rule_15 ml_X11_220 mk_X3_isRule mv_X3_isRule h0 ho26 rfl rfl (Nat.le_of_ble_eq_true rfl) ?_
    refine wpM.mono h (fun rr G4 hr => ?_)
    obtain ⟨r3, rfl, h⟩ := hr
    show wp E d M_X11_rule 18 [some (vr _), some (vi _), some (vi _), some (vi _), some (vr _)] [vi _] G4 Q
    refine wp_if_ne (pc := 18) (tgt := 23) d_X11_rule_18 (by decide) (fun hc => ?_) (fun hc => ?_)
    · have h := h.1 hc
      refine wp_iload_n (pc := 23) d_X11_rule_23 rfl ?_
      obtain ⟨hk, h⟩ := h
      by_cases hn5 : x3 = 0
      · have h := hk hn5
        refine wp_tblI (pc := 24) (tgt := 56) d_X11_rule_24 (by rw [hn5]; decide) (by rw [hn5]; decide) (by rw [hn5]; first | done | rfl) (by decide) ?_
        refine wp_aload (pc := 56) d_X11_rule_56 rfl ?_
        obtain ⟨ho6, h⟩ := h
        refine wp_getR (pc := 58) d_X11_rule_58 fl_X11_154 (fun _ _ _ => rfl) ho6 ?_
        obtain ⟨ho7, h⟩ := h
        refine wp_getR (pc := 61) d_X11_rule_61 fl_X11_223 (fun _ _ _ => rfl) ho7 ?_
        refine wp_iload_n (pc := 64) d_X11_rule_64 rfl ?_
        obtain ⟨ho8, h⟩ := h
        obtain ⟨hi9, h⟩ := h
        refine wp_iald (pc := 65) d_X11_rule_65 ho8 hi9 ?_
        exact wp_iret (pc := 66) d_X11_rule_66 rfl h
      obtain ⟨hk, h⟩ := h
      by_cases hn10 : x3 = 1
      · have h := hk hn10
        refine wp_tblI (pc := 24) (tgt := 67) d_X11_rule_24 (by rw [hn10]; decide) (by rw [hn10]; decide) (by rw [hn10]; first | done | rfl) (by decide) ?_
        refine wp_aload (pc := 67) d_X11_rule_67 rfl ?_
        obtain ⟨ho11, h⟩ := h
        refine wp_getR (pc := 69) d_X11_rule_69 fl_X11_154 (fun _ _ _ => rfl) ho11 ?_
        obtain ⟨ho12, h⟩ := h
        refine wp_getR (pc := 72) d_X11_rule_72 fl_X11_226 (fun _ _ _ => rfl) ho12 ?_
        refine wp_iload_n (pc := 75) d_X11_rule_75 rfl ?_
        obtain ⟨ho13, h⟩ := h
        obtain ⟨hi14, h⟩ := h
        refine wp_iald (pc := 76) d_X11_rule_76 ho13 hi14 ?_
        exact wp_iret (pc := 77) d_X11_rule_77 rfl h
      obtain ⟨hk, h⟩ := h
      by_cases hn15 : x3 = 2
      · have h := hk hn15
        refine wp_tblI (pc := 24) (tgt := 78) d_X11_rule_24 (by rw [hn15]; decide) (by rw [hn15]; decide) (by rw [hn15]; first | done | rfl) (by decide) ?_
        refine wp_aload (pc := 78) d_X11_rule_78 rfl ?_
        obtain ⟨ho16, h⟩ := h
        refine wp_getR (pc := 80) d_X11_rule_80 fl_X11_154 (fun _ _ _ => rfl) ho16 ?_
        obtain ⟨ho17, h⟩ := h
        refine wp_getR (pc := 83) d_X11_rule_83 fl_X11_229 (fun _ _ _ => rfl) ho17 ?_
        refine wp_iload_n (pc := 86) d_X11_rule_86 rfl ?_
        obtain ⟨ho18, h⟩ := h
        obtain ⟨hi19, h⟩ := h
        refine wp_iald (pc := 87) d_X11_rule_87 ho18 hi19 ?_
        exact wp_iret (pc := 88) d_X11_rule_88 rfl h
      obtain ⟨hk, h⟩ := h
      by_cases hn20 : x3 = 3
      · have h := hk hn20
        refine wp_tblI (pc := 24) (tgt := 89) d_X11_rule_24 (by rw [hn20]; decide) (by rw [hn20]; decide) (by rw [hn20]; first | done | rfl) (by decide) ?_
        refine wp_aload (pc := 89) d_X11_rule_89 rfl ?_
        obtain ⟨ho21, h⟩ := h
        refine wp_getR (pc := 91) d_X11_rule_91 fl_X11_232 (fun _ _ _ => rfl) ho21 ?_
        refine wp_aload (pc := 94) d_X11_rule_94 rfl ?_
        obtain ⟨ho25, h⟩ := h
        refine wp_invV (pc := 96) (N := M_X9_renew) (As := [vr _]) (rest := []) (r := (cn_9, ct_9, 8)) d_X11_rule_96 ml_X11_236 mk_X9_renew mv_X9_renew h0 ho25 rfl rfl (Nat.le_of_ble_eq_true rfl) ?_
        refine wpM.mono h (fun rr G22 hr => ?_)
        obtain ⟨rfl, h⟩ := hr
        show wp E d M_X11_rule 99 [some (vr _), some (vi _), some (vi _), some (vi _), some (vr _)] [] G22 Q
        refine wp_aload (pc := 99) d_X11_rule_99 rfl ?_
        obtain ⟨ho23, h⟩ := h
        refine wp_getR (pc := 101) d_X11_rule_101 fl_X11_232 (fun _ _ _ => rfl) ho23 ?_
        obtain ⟨ho24, h⟩ := h
        refine wp_getI (pc := 104) d_X11_rule_104 fl_X11_242 (fun _ _ _ => rfl) ho24 ?_
        refine wp_iload_n (pc := 107) d_X11_rule_107 rfl ?_
        refine wp_ishr (pc := 108) d_X11_rule_108 ?_
        refine wp_iconst (pc := 109) (v := 1) d_X11_rule_109 rfl ?_
        refine wp_iand (pc := 110) d_X11_rule_110 ?_
        exact wp_iret (pc := 111) d_X11_rule_111 rfl h
      have h := h hn5 hn10 hn15 hn20
      have qhn5 := lv_neT (a := 0) hn5 (by decide)
      have qhn10 := lv_neT (a := 1) hn10 (by decide)
      have qhn15 := lv_neT (a := 2) hn15 (by decide)
      have qhn20 := lv_neT (a := 3) hn20 (by decide)
      refine wp_tblO (pc := 24) (tgt := 112) d_X11_rule_24 (by omega) (by decide) ?_
      refine wp_iconst (pc := 112) (v := (-1)) d_X11_rule_112 rfl ?_
      exact wp_iret (pc := 113) d_X11_rule_113 rfl h
    · have h := h.2 hc
      refine wp_iconst (pc := 21) (v := (-1)) d_X11_rule_21 rfl ?_
      exact wp_iret (pc := 22) d_X11_rule_22 rfl h
theorem d_X11_range_0 : decode prog_1_method_13_code 0 = .ok (.aload_n 0, 1) := by decide +kernel
theorem d_X11_range_1 : decode prog_1_method_13_code 1 = .ok (.iload_n 1, 1) := by decide +kernel
theorem d_X11_range_2 : decode prog_1_method_13_code 2 = .ok (.invokevirtual 132, 3) := by decide +kernel
theorem d_X11_range_5 : decode prog_1_method_13_code 5 = .ok (.astore 4, 2) := by decide +kernel
theorem d_X11_range_7 : decode prog_1_method_13_code 7 = .ok (.aload 4, 2) := by decide +kernel
theorem d_X11_range_9 : decode prog_1_method_13_code 9 = .ok (.ifnull 33, 3) := by decide +kernel
theorem d_X11_range_12 : decode prog_1_method_13_code 12 = .ok (.aload 4, 2) := by decide +kernel
theorem d_X11_range_14 : decode prog_1_method_13_code 14 = .ok (.getfield 139, 3) := by decide +kernel
theorem d_X11_range_17 : decode prog_1_method_13_code 17 = .ok (.iload_n 2, 1) := by decide +kernel
theorem d_X11_range_18 : decode prog_1_method_13_code 18 = .ok (.invokevirtual 209, 3) := by decide +kernel
theorem d_X11_range_21 : decode prog_1_method_13_code 21 = .ok (.ifCond .eq 21, 3) := by decide +kernel
theorem d_X11_range_24 : decode prog_1_method_13_code 24 = .ok (.iload_n 3, 1) := by decide +kernel
theorem d_X11_range_25 : decode prog_1_method_13_code 25 = .ok (.ifCond .lt 17, 3) := by decide +kernel
theorem d_X11_range_28 : decode prog_1_method_13_code 28 = .ok (.iload_n 3, 1) := by decide +kernel
theorem d_X11_range_29 : decode prog_1_method_13_code 29 = .ok (.aload 4, 2) := by decide +kernel
theorem d_X11_range_31 : decode prog_1_method_13_code 31 = .ok (.getfield 139, 3) := by decide +kernel
theorem d_X11_range_34 : decode prog_1_method_13_code 34 = .ok (.getfield 212, 3) := by decide +kernel
theorem d_X11_range_37 : decode prog_1_method_13_code 37 = .ok (.iload_n 2, 1) := by decide +kernel
theorem d_X11_range_38 : decode prog_1_method_13_code 38 = .ok (.iaload, 1) := by decide +kernel
theorem d_X11_range_39 : decode prog_1_method_13_code 39 = .ok (.if_icmp .lt 7, 3) := by decide +kernel
theorem d_X11_range_42 : decode prog_1_method_13_code 42 = .ok (.ldc2_w 215, 3) := by decide +kernel
theorem d_X11_range_45 : decode prog_1_method_13_code 45 = .ok (.lreturn, 1) := by decide +kernel
theorem d_X11_range_46 : decode prog_1_method_13_code 46 = .ok (.aload 4, 2) := by decide +kernel
theorem d_X11_range_48 : decode prog_1_method_13_code 48 = .ok (.getfield 139, 3) := by decide +kernel
theorem d_X11_range_51 : decode prog_1_method_13_code 51 = .ok (.getfield 217, 3) := by decide +kernel
theorem d_X11_range_54 : decode prog_1_method_13_code 54 = .ok (.iload_n 2, 1) := by decide +kernel
theorem d_X11_range_55 : decode prog_1_method_13_code 55 = .ok (.bipush 20, 2) := by decide +kernel
theorem d_X11_range_57 : decode prog_1_method_13_code 57 = .ok (.imul, 1) := by decide +kernel
theorem d_X11_range_58 : decode prog_1_method_13_code 58 = .ok (.iload_n 3, 1) := by decide +kernel
theorem d_X11_range_59 : decode prog_1_method_13_code 59 = .ok (.iadd, 1) := by decide +kernel
theorem d_X11_range_60 : decode prog_1_method_13_code 60 = .ok (.iaload, 1) := by decide +kernel
theorem d_X11_range_61 : decode prog_1_method_13_code 61 = .ok (.i2l, 1) := by decide +kernel
theorem d_X11_range_62 : decode prog_1_method_13_code 62 = .ok (.lreturn, 1) := by decide +kernel
theorem v_X11_range_0 {E : EE} {d : Nat} {Q : Option AV → AH → Prop} {x0 : Nat} {x1 : Int32} {x2 : Int32} {x3 : Int32} {G : AH} (h0 : 0 < d) (h : isO E G x0 11 ∧ (wpR E (d - 1) M_X11_known [vr x0, vi x1] G (fun r1 G2 => (r1 = 0 → Q (some (vj (-9223372036854775808))) G2) ∧ (¬ r1 = 0 → isO E G2 r1 3 ∧ (isO E G2 (gR G2 r1 4) 7 ∧ (wpI E (d - 1) M_X7_isVar [vr (gR G2 r1 4), vi x2] G2 (fun r4 G5 => (r4 = 0 → Q (some (vj (-9223372036854775808))) G5) ∧ (¬ (r4 = 0) → (x3 < 0 → Q (some (vj (-9223372036854775808))) G5) ∧ (¬ (x3 < 0) → isO E G5 r1 3 ∧ (isO E G5 (gR G5 r1 4) 7 ∧ (isO E G5 (gR G5 (gR G5 r1 4) 2) 14 ∧ (vp_in x2 (gN G5 (gR G5 (gR G5 r1 4) 2)) ∧ ((x3 < (gI G5 (gR G5 (gR G5 r1 4) 2) (Int32.toNatClampNeg x2)) → isO E G5 (gR G5 (gR G5 r1 4) 3) 14 ∧ (vp_in ((x2 * 20) + x3) (gN G5 (gR G5 (gR G5 r1 4) 3)) ∧ (Q (some (vj (Int32.toInt64 (gI G5 (gR G5 (gR G5 r1 4) 3) (Int32.toNatClampNeg ((x2 * 20) + x3)))))) G5))) ∧ (¬ (x3 < (gI G5 (gR G5 (gR G5 r1 4) 2) (Int32.toNatClampNeg x2))) → Q (some (vj (-9223372036854775808))) G5)))))))))))))) : wp E d M_X11_range 0 [some (vr x0), some (vi x1), some (vi x2), some (vi x3), none] [] G Q := by
  refine wp_aload_n (pc := 0) d_X11_range_0 rfl ?_
  refine wp_iload_n (pc := 1) d_X11_range_1 rfl ?_
  obtain ⟨ho13, h⟩ := h
  refine wp_invV (pc := 2) (N := M_X11_known) (As := [vi _]) (rest := []) (r := (cn_11, ct_11, 12)) d_X11_range_2 ml_X11_132 mk_X11_known mv_X11_known h0 ho13 rfl rfl (Nat.le_of_ble_eq_true rfl) ?_
  refine wpM.mono h (fun rr G2 hr => ?_)
  obtain ⟨r1, rfl, h⟩ := hr
  show wp E d M_X11_range 5 [some (vr _), some (vi _), some (vi _), some (vi _), none] [vr _] G2 Q
  refine wp_astore (pc := 5) (lv' := [some (vr _), some (vi _), some (vi _), some (vi _), some (vr _)]) d_X11_range_5 (by decide) rfl ?_
  refine wp_aload (pc := 7) d_X11_range_7 rfl ?_
  refine wp_ifnull (pc := 9) (tgt := 42) d_X11_range_9 (by decide) (fun hc => ?_) (fun hc => ?_)
  · have h := h.1 hc
    refine wp_ldc2 (pc := 42) (v := (-9223372036854775808)) d_X11_range_42 cj_X11_215 ?_
    exact wp_lret (pc := 45) d_X11_range_45 rfl h
  · have h := h.2 hc
    refine wp_aload (pc := 12) d_X11_range_12 rfl ?_
    obtain ⟨ho3, h⟩ := h
    refine wp_getR (pc := 14) d_X11_range_14 fl_X11_139 (fun _ _ _ => rfl) ho3 ?_
    refine wp_iload_n (pc := 17) d_X11_range_17 rfl ?_
    obtain ⟨ho12, h⟩ := h
    refine wp_invV (pc := 18) (N := M_X7_isVar) (As := [vi _]) (rest := []) (r := (cn_7, ct_7, 5)) d_X11_range_18 ml_X11_209 mk_X7_isVar mv_X7_isVar h0 ho12 rfl rfl (Nat.le_of_ble_eq_true rfl) ?_
    refine wpM.mono h (fun rr G5 hr => ?_)
    obtain ⟨r4, rfl, h⟩ := hr
    show wp E d M_X11_range 21 [some (vr _), some (vi _), some (vi _), some (vi _), some (vr _)] [vi _] G5 Q
    refine wp_if_eq (pc := 21) (tgt := 42) d_X11_range_21 (by decide) (fun hc => ?_) (fun hc => ?_)
    · have h := h.1 hc
      refine wp_ldc2 (pc := 42) (v := (-9223372036854775808)) d_X11_range_42 cj_X11_215 ?_
      exact wp_lret (pc := 45) d_X11_range_45 rfl h
    · have h := h.2 hc
      refine wp_iload_n (pc := 24) d_X11_range_24 rfl ?_
      refine wp_if_lt (pc := 25) (tgt := 42) d_X11_range_25 (by decide) (fun hc => ?_) (fun hc => ?_)
      · have h := h.1 hc
        refine wp_ldc2 (pc := 42) (v := (-9223372036854775808)) d_X11_range_42 cj_X11_215 ?_
        exact wp_lret (pc := 45) d_X11_range_45 rfl h
      · have h := h.2 hc
        refine wp_iload_n (pc := 28) d_X11_range_28 rfl ?_
        refine wp_aload (pc := 29) d_X11_range_29 rfl ?_
        obtain ⟨ho6, h⟩ := h
        refine wp_getR (pc := 31) d_X11_range_31 fl_X11_139 (fun _ _ _ => rfl) ho6 ?_
        obtain ⟨ho7, h⟩ := h
        refine wp_getR (pc := 34) d_X11_range_34 fl_X11_212 (fun _ _ _ => rfl) ho7 ?_
        refine wp_iload_n (pc := 37) d_X11_range_37 rfl ?_
        obtain ⟨ho8, h⟩ := h
        obtain ⟨hi9, h⟩ := h
        refine wp_iald (pc := 38) d_X11_range_38 ho8 hi9 ?_
        refine wp_icmp_lt (pc := 39) (tgt := 46) d_X11_range_39 (by decide) (fun hc => ?_) (fun hc => ?_)
        · have h := h.1 hc
          refine wp_aload (pc := 46) d_X11_range_46 rfl ?_
          refine wp_getR (pc := 48) d_X11_range_48 fl_X11_139 (fun _ _ _ => rfl) ho6 ?_
          refine wp_getR (pc := 51) d_X11_range_51 fl_X11_217 (fun _ _ _ => rfl) ho7 ?_
          refine wp_iload_n (pc := 54) d_X11_range_54 rfl ?_
          refine wp_bipush (pc := 55) (v := 20) d_X11_range_55 rfl ?_
          refine wp_imul (pc := 57) d_X11_range_57 ?_
          refine wp_iload_n (pc := 58) d_X11_range_58 rfl ?_
          refine wp_iadd (pc := 59) d_X11_range_59 ?_
          obtain ⟨ho10, h⟩ := h
          obtain ⟨hi11, h⟩ := h
          refine wp_iald (pc := 60) d_X11_range_60 ho10 hi11 ?_
          refine wp_i2l (pc := 61) d_X11_range_61 ?_
          exact wp_lret (pc := 62) d_X11_range_62 rfl h
        · have h := h.2 hc
          refine wp_ldc2 (pc := 42) (v := (-9223372036854775808)) d_X11_range_42 cj_X11_215 ?_
          exact wp_lret (pc := 45) d_X11_range_45 rfl h
theorem d_X11_shown_0 : decode prog_1_method_12_code 0 = .ok (.aload_n 0, 1) := by decide +kernel
theorem d_X11_shown_1 : decode prog_1_method_12_code 1 = .ok (.iload_n 1, 1) := by decide +kernel
theorem d_X11_shown_2 : decode prog_1_method_12_code 2 = .ok (.invokevirtual 132, 3) := by decide +kernel
theorem d_X11_shown_5 : decode prog_1_method_12_code 5 = .ok (.astore 4, 2) := by decide +kernel
theorem d_X11_shown_7 : decode prog_1_method_12_code 7 = .ok (.aload 4, 2) := by decide +kernel
theorem d_X11_shown_9 : decode prog_1_method_12_code 9 = .ok (.ifnull 11, 3) := by decide +kernel
theorem d_X11_shown_12 : decode prog_1_method_12_code 12 = .ok (.iload_n 2, 1) := by decide +kernel
theorem d_X11_shown_13 : decode prog_1_method_12_code 13 = .ok (.ifCond .lt 7, 3) := by decide +kernel
theorem d_X11_shown_16 : decode prog_1_method_12_code 16 = .ok (.iload_n 3, 1) := by decide +kernel
theorem d_X11_shown_17 : decode prog_1_method_12_code 17 = .ok (.ifCond .ge 5, 3) := by decide +kernel
theorem d_X11_shown_20 : decode prog_1_method_12_code 20 = .ok (.iconst (-1), 1) := by decide +kernel
theorem d_X11_shown_21 : decode prog_1_method_12_code 21 = .ok (.ireturn, 1) := by decide +kernel
theorem d_X11_shown_22 : decode prog_1_method_12_code 22 = .ok (.aload_n 0, 1) := by decide +kernel
theorem d_X11_shown_23 : decode prog_1_method_12_code 23 = .ok (.getfield 21, 3) := by decide +kernel
theorem d_X11_shown_26 : decode prog_1_method_12_code 26 = .ok (.aload 4, 2) := by decide +kernel
theorem d_X11_shown_28 : decode prog_1_method_12_code 28 = .ok (.getfield 111, 3) := by decide +kernel
theorem d_X11_shown_31 : decode prog_1_method_12_code 31 = .ok (.invokevirtual 171, 3) := by decide +kernel
theorem d_X11_shown_34 : decode prog_1_method_12_code 34 = .ok (.iconst 0, 1) := by decide +kernel
theorem d_X11_shown_35 : decode prog_1_method_12_code 35 = .ok (.istore 5, 2) := by decide +kernel
theorem d_X11_shown_37 : decode prog_1_method_12_code 37 = .ok (.iload_n 3, 1) := by decide +kernel
theorem d_X11_shown_38 : decode prog_1_method_12_code 38 = .ok (.istore 6, 2) := by decide +kernel
theorem d_X11_shown_40 : decode prog_1_method_12_code 40 = .ok (.iconst 0, 1) := by decide +kernel
theorem d_X11_shown_41 : decode prog_1_method_12_code 41 = .ok (.istore 7, 2) := by decide +kernel
theorem v_X11_shown_0 {E : EE} {d : Nat} {Q : Option AV → AH → Prop} {x0 : Nat} {x1 : Int32} {x2 : Int32} {x3 : Int32} {G : AH} (h0 : 0 < d) (h : isO E G x0 11 ∧ (wpR E (d - 1) M_X11_known [vr x0, vi x1] G (fun r1 G2 => (r1 = 0 → Q (some (vi (-1))) G2) ∧ (¬ r1 = 0 → (x2 < 0 → Q (some (vi (-1))) G2) ∧ (¬ (x2 < 0) → (0 ≤ x3 → isO E G2 x0 11 ∧ (isO E G2 r1 3 ∧ (isO E G2 (gR G2 x0 1) 10 ∧ (wpV E (d - 1) M_X10_scan [vr (gR G2 x0 1), vr (gR G2 r1 1)] G2 (fun G5 => wp E d M_X11_shown 43 [some (vr x0), some (vi x1), some (vi x2), some (vi x3), some (vr r1), some (vi 0), some (vi x3), some (vi 0), none, none] [] G5 Q))))) ∧ (¬ (0 ≤ x3) → Q (some (vi (-1))) G2)))))) : wp E d M_X11_shown 0 [some (vr x0), some (vi x1), some (vi x2), some (vi x3), none, none, none, none, none, none] [] G Q := by
  refine wp_aload_n (pc := 0) d_X11_shown_0 rfl ?_
  refine wp_iload_n (pc := 1) d_X11_shown_1 rfl ?_
  obtain ⟨ho7, h⟩ := h
  refine wp_invV (pc := 2) (N := M_X11_known) (As := [vi _]) (rest := []) (r := (cn_11, ct_11, 12)) d_X11_shown_2 ml_X11_132 mk_X11_known mv_X11_known h0 ho7 rfl rfl (Nat.le_of_ble_eq_true rfl) ?_
  refine wpM.mono h (fun rr G2 hr => ?_)
  obtain ⟨r1, rfl, h⟩ := hr
  show wp E d M_X11_shown 5 [some (vr _), some (vi _), some (vi _), some (vi _), none, none, none, none, none, none] [vr _] G2 Q
  refine wp_astore (pc := 5) (lv' := [some (vr _), some (vi _), some (vi _), some (vi _), some (vr _), none, none, none, none, none]) d_X11_shown_5 (by decide) rfl ?_
  refine wp_aload (pc := 7) d_X11_shown_7 rfl ?_
  refine wp_ifnull (pc := 9) (tgt := 20) d_X11_shown_9 (by decide) (fun hc => ?_) (fun hc => ?_)
  · have h := h.1 hc
    refine wp_iconst (pc := 20) (v := (-1)) d_X11_shown_20 rfl ?_
    exact wp_iret (pc := 21) d_X11_shown_21 rfl h
  · have h := h.2 hc
    refine wp_iload_n (pc := 12) d_X11_shown_12 rfl ?_
    refine wp_if_lt (pc := 13) (tgt := 20) d_X11_shown_13 (by decide) (fun hc => ?_) (fun hc => ?_)
    · have h := h.1 hc
      refine wp_iconst (pc := 20) (v := (-1)) d_X11_shown_20 rfl ?_
      exact wp_iret (pc := 21) d_X11_shown_21 rfl h
    · have h := h.2 hc
      refine wp_iload_n (pc := 16) d_X11_shown_16 rfl ?_
      refine wp_if_ge (pc := 17) (tgt := 22) d_X11_shown_17 (by decide) (fun hc => ?_) (fun hc => ?_)
      · have h := h.1 hc
        refine wp_aload_n (pc := 22) d_X11_shown_22 rfl ?_
        obtain ⟨ho3, h⟩ := h
        refine wp_getR (pc := 23) d_X11_shown_23 fl_X11_21 (fun _ _ _ => rfl) ho3 ?_
        refine wp_aload (pc := 26) d_X11_shown_26 rfl ?_
        obtain ⟨ho4, h⟩ := h
        refine wp_getR (pc := 28) d_X11_shown_28 fl_X11_111 (fun _ _ _ => rfl) ho4 ?_
        obtain ⟨ho6, h⟩ := h
        refine wp_invV (pc := 31) (N := M_X10_scan) (As := [vr _]) (rest := []) (r := (cn_10, ct_10, 12)) d_X11_shown_31 ml_X11_171 mk_X10_scan mv_X10_scan h0 ho6 rfl rfl (Nat.le_of_ble_eq_true rfl) ?_
        refine wpM.mono h (fun rr G5 hr => ?_)
        obtain ⟨rfl, h⟩ := hr
        show wp E d M_X11_shown 34 [some (vr _), some (vi _), some (vi _), some (vi _), some (vr _), none, none, none, none, none] [] G5 Q
        refine wp_iconst (pc := 34) (v := 0) d_X11_shown_34 rfl ?_
        refine wp_istore (pc := 35) (lv' := [some (vr _), some (vi _), some (vi _), some (vi _), some (vr _), some (vi _), none, none, none, none]) d_X11_shown_35 (by decide) rfl ?_
        refine wp_iload_n (pc := 37) d_X11_shown_37 rfl ?_
        refine wp_istore (pc := 38) (lv' := [some (vr _), some (vi _), some (vi _), some (vi _), some (vr _), some (vi _), some (vi _), none, none, none]) d_X11_shown_38 (by decide) rfl ?_
        refine wp_iconst (pc := 40) (v := 0) d_X11_shown_40 rfl ?_
        refine wp_istore (pc := 41) (lv' := [some (vr _), some (vi _), some (vi _), some (vi _), some (vr _), some (vi _), some (vi _), some (vi _), none, none]) d_X11_shown_41 (by decide) rfl ?_
        refine wp_sub ?_ h
        exact ⟨rfl, ⟨rfl, ⟨rfl, ⟨rfl, ⟨rfl, ⟨rfl, ⟨rfl, ⟨rfl, trivial⟩⟩⟩⟩⟩⟩⟩⟩
      · have h := h.2 hc
        refine wp_iconst (pc := 20) (v := (-1)) d_X11_shown_20 rfl ?_
        exact wp_iret (pc := 21) d_X11_shown_21 rfl h
theorem d_X11_letter_0 : decode prog_1_method_11_code 0 = .ok (.aload_n 0, 1) := by decide +kernel
theorem d_X11_letter_1 : decode prog_1_method_11_code 1 = .ok (.iload_n 1, 1) := by decide +kernel
theorem d_X11_letter_2 : decode prog_1_method_11_code 2 = .ok (.invokevirtual 132, 3) := by decide +kernel
theorem d_X11_letter_5 : decode prog_1_method_11_code 5 = .ok (.astore 5, 2) := by decide +kernel
theorem d_X11_letter_7 : decode prog_1_method_11_code 7 = .ok (.aload 5, 2) := by decide +kernel
theorem d_X11_letter_9 : decode prog_1_method_11_code 9 = .ok (.ifnull 12, 3) := by decide +kernel
theorem d_X11_letter_12 : decode prog_1_method_11_code 12 = .ok (.iload_n 2, 1) := by decide +kernel
theorem d_X11_letter_13 : decode prog_1_method_11_code 13 = .ok (.ifCond .lt 8, 3) := by decide +kernel
theorem d_X11_letter_16 : decode prog_1_method_11_code 16 = .ok (.iload_n 2, 1) := by decide +kernel
theorem d_X11_letter_17 : decode prog_1_method_11_code 17 = .ok (.iconst 3, 1) := by decide +kernel
theorem d_X11_letter_18 : decode prog_1_method_11_code 18 = .ok (.if_icmp .le 5, 3) := by decide +kernel
theorem d_X11_letter_21 : decode prog_1_method_11_code 21 = .ok (.iconst (-1), 1) := by decide +kernel
theorem d_X11_letter_22 : decode prog_1_method_11_code 22 = .ok (.ireturn, 1) := by decide +kernel
theorem d_X11_letter_23 : decode prog_1_method_11_code 23 = .ok (.iload_n 3, 1) := by decide +kernel
theorem d_X11_letter_24 : decode prog_1_method_11_code 24 = .ok (.ifCond .lt 14, 3) := by decide +kernel
theorem d_X11_letter_27 : decode prog_1_method_11_code 27 = .ok (.iload_n 3, 1) := by decide +kernel
theorem d_X11_letter_28 : decode prog_1_method_11_code 28 = .ok (.aload 5, 2) := by decide +kernel
theorem d_X11_letter_30 : decode prog_1_method_11_code 30 = .ok (.getfield 135, 3) := by decide +kernel
theorem d_X11_letter_33 : decode prog_1_method_11_code 33 = .ok (.iload_n 2, 1) := by decide +kernel
theorem d_X11_letter_34 : decode prog_1_method_11_code 34 = .ok (.iaload, 1) := by decide +kernel
theorem d_X11_letter_35 : decode prog_1_method_11_code 35 = .ok (.if_icmp .lt 5, 3) := by decide +kernel
theorem d_X11_letter_38 : decode prog_1_method_11_code 38 = .ok (.iconst (-1), 1) := by decide +kernel
theorem d_X11_letter_39 : decode prog_1_method_11_code 39 = .ok (.ireturn, 1) := by decide +kernel
theorem d_X11_letter_40 : decode prog_1_method_11_code 40 = .ok (.aload 5, 2) := by decide +kernel
theorem d_X11_letter_42 : decode prog_1_method_11_code 42 = .ok (.getfield 191, 3) := by decide +kernel
theorem d_X11_letter_45 : decode prog_1_method_11_code 45 = .ok (.iload_n 2, 1) := by decide +kernel
theorem d_X11_letter_46 : decode prog_1_method_11_code 46 = .ok (.bipush 24, 2) := by decide +kernel
theorem d_X11_letter_48 : decode prog_1_method_11_code 48 = .ok (.imul, 1) := by decide +kernel
theorem d_X11_letter_49 : decode prog_1_method_11_code 49 = .ok (.iload_n 3, 1) := by decide +kernel
theorem d_X11_letter_50 : decode prog_1_method_11_code 50 = .ok (.iadd, 1) := by decide +kernel
theorem d_X11_letter_51 : decode prog_1_method_11_code 51 = .ok (.laload, 1) := by decide +kernel
theorem d_X11_letter_52 : decode prog_1_method_11_code 52 = .ok (.iload 4, 2) := by decide +kernel
theorem d_X11_letter_54 : decode prog_1_method_11_code 54 = .ok (.invokestatic 195, 3) := by decide +kernel
theorem d_X11_letter_57 : decode prog_1_method_11_code 57 = .ok (.ireturn, 1) := by decide +kernel
theorem v_X11_letter_0 {E : EE} {d : Nat} {Q : Option AV → AH → Prop} {x0 : Nat} {x1 : Int32} {x2 : Int32} {x3 : Int32} {x4 : Int32} {G : AH} (h0 : 0 < d) (h : isO E G x0 11 ∧ (wpR E (d - 1) M_X11_known [vr x0, vi x1] G (fun r1 G2 => (r1 = 0 → Q (some (vi (-1))) G2) ∧ (¬ r1 = 0 → (x2 < 0 → Q (some (vi (-1))) G2) ∧ (¬ (x2 < 0) → (x2 ≤ 3 → (x3 < 0 → Q (some (vi (-1))) G2) ∧ (¬ (x3 < 0) → isO E G2 r1 3 ∧ (isO E G2 (gR G2 r1 3) 14 ∧ (vp_in x2 (gN G2 (gR G2 r1 3)) ∧ ((x3 < (gI G2 (gR G2 r1 3) (Int32.toNatClampNeg x2)) → isO E G2 (gR G2 r1 2) 15 ∧ (vp_in ((x2 * 24) + x3) (gN G2 (gR G2 r1 2)) ∧ (wpI E (d - 1) M_X11_letterOf [vj (gJ G2 (gR G2 r1 2) (Int32.toNatClampNeg ((x2 * 24) + x3))), vi x4] G2 (fun r8 G9 => Q (some (vi r8)) G9)))) ∧ (¬ (x3 < (gI G2 (gR G2 r1 3) (Int32.toNatClampNeg x2))) → Q (some (vi (-1))) G2)))))) ∧ (¬ (x2 ≤ 3) → Q (some (vi (-1))) G2)))))) : wp E d M_X11_letter 0 [some (vr x0), some (vi x1), some (vi x2), some (vi x3), some (vi x4), none] [] G Q := by
  refine wp_aload_n (pc := 0) d_X11_letter_0 rfl ?_
  refine wp_iload_n (pc := 1) d_X11_letter_1 rfl ?_
  obtain ⟨ho10, h⟩ := h
  refine wp_invV (pc := 2) (N := M_X11_known) (As := [vi _]) (rest := []) (r := (cn_11, ct_11, 12)) d_X11_letter_2 ml_X11_132 mk_X11_known mv_X11_known h0 ho10 rfl rfl (Nat.le_of_ble_eq_true rfl) ?_
  refine wpM.mono h (fun rr G2 hr => ?_)
  obtain ⟨r1, rfl, h⟩ := hr
  show wp E d M_X11_letter 5 [some (vr _), some (vi _), some (vi _), some (vi _), some (vi _), none] [vr _] G2 Q
  refine wp_astore (pc := 5) (lv' := [some (vr _), some (vi _), some (vi _), some (vi _), some (vi _), some (vr _)]) d_X11_letter_5 (by decide) rfl ?_
  refine wp_aload (pc := 7) d_X11_letter_7 rfl ?_
  refine wp_ifnull (pc := 9) (tgt := 21) d_X11_letter_9 (by decide) (fun hc => ?_) (fun hc => ?_)
  · have h := h.1 hc
    refine wp_iconst (pc := 21) (v := (-1)) d_X11_letter_21 rfl ?_
    exact wp_iret (pc := 22) d_X11_letter_22 rfl h
  · have h := h.2 hc
    refine wp_iload_n (pc := 12) d_X11_letter_12 rfl ?_
    refine wp_if_lt (pc := 13) (tgt := 21) d_X11_letter_13 (by decide) (fun hc => ?_) (fun hc => ?_)
    · have h := h.1 hc
      refine wp_iconst (pc := 21) (v := (-1)) d_X11_letter_21 rfl ?_
      exact wp_iret (pc := 22) d_X11_letter_22 rfl h
    · have h := h.2 hc
      refine wp_iload_n (pc := 16) d_X11_letter_16 rfl ?_
      refine wp_iconst (pc := 17) (v := 3) d_X11_letter_17 rfl ?_
      refine wp_icmp_le (pc := 18) (tgt := 23) d_X11_letter_18 (by decide) (fun hc => ?_) (fun hc => ?_)
      · have h := h.1 hc
        refine wp_iload_n (pc := 23) d_X11_letter_23 rfl ?_
        refine wp_if_lt (pc := 24) (tgt := 38) d_X11_letter_24 (by decide) (fun hc => ?_) (fun hc => ?_)
        · have h := h.1 hc
          refine wp_iconst (pc := 38) (v := (-1)) d_X11_letter_38 rfl ?_
          exact wp_iret (pc := 39) d_X11_letter_39 rfl h
        · have h := h.2 hc
          refine wp_iload_n (pc := 27) d_X11_letter_27 rfl ?_
          refine wp_aload (pc := 28) d_X11_letter_28 rfl ?_
          obtain ⟨ho3, h⟩ := h
          refine wp_getR (pc := 30) d_X11_letter_30 fl_X11_135 (fun _ _ _ => rfl) ho3 ?_
          refine wp_iload_n (pc := 33) d_X11_letter_33 rfl ?_
          obtain ⟨ho4, h⟩ := h
          obtain ⟨hi5, h⟩ := h
          refine wp_iald (pc := 34) d_X11_letter_34 ho4 hi5 ?_
          refine wp_icmp_lt (pc := 35) (tgt := 40) d_X11_letter_35 (by decide) (fun hc => ?_) (fun hc => ?_)
          · have h := h.1 hc
            refine wp_aload (pc := 40) d_X11_letter_40 rfl ?_
            refine wp_getR (pc := 42) d_X11_letter_42 fl_X11_191 (fun _ _ _ => rfl) ho3 ?_
            refine wp_iload_n (pc := 45) d_X11_letter_45 rfl ?_
            refine wp_bipush (pc := 46) (v := 24) d_X11_letter_46 rfl ?_
            refine wp_imul (pc := 48) d_X11_letter_48 ?_
            refine wp_iload_n (pc := 49) d_X11_letter_49 rfl ?_
            refine wp_iadd (pc := 50) d_X11_letter_50 ?_
            obtain ⟨ho6, h⟩ := h
            obtain ⟨hi7, h⟩ := h
            refine wp_lald (pc := 51) d_X11_letter_51 ho6 hi7 ?_
            refine wp_iload (pc := 52) d_X11_letter_52 rfl ?_
            refine wp_invS (pc := 54) (N := M_X11_letterOf) (As := [vj _, vi _]) (rest := []) d_X11_letter_54 ml_X11_195 mk_X11_letterOf ms_X11_letterOf h0 (Nat.le_of_ble_eq_true rfl) ?_
            refine wpM.mono h (fun rr G9 hr => ?_)
            obtain ⟨r8, rfl, h⟩ := hr
            show wp E d M_X11_letter 57 [some (vr _), some (vi _), some (vi _), some (vi _), some (vi _), some (vr _)] [vi _] G9 Q
            exact wp_iret (pc := 57) d_X11_letter_57 rfl h
          · have h := h.2 hc
            refine wp_iconst (pc := 38) (v := (-1)) d_X11_letter_38 rfl ?_
            exact wp_iret (pc := 39) d_X11_letter_39 rfl h
      · have h := h.2 hc
        refine wp_iconst (pc := 21) (v := (-1)) d_X11_letter_21 rfl ?_
        exact wp_iret (pc := 22) d_X11_letter_22 rfl h
theorem d_X11_find_0 : decode prog_1_method_10_code 0 = .ok (.aload_n 0, 1) := by decide +kernel
theorem d_X11_find_1 : decode prog_1_method_10_code 1 = .ok (.iload_n 1, 1) := by decide +kernel
theorem d_X11_find_2 : decode prog_1_method_10_code 2 = .ok (.invokevirtual 132, 3) := by decide +kernel
theorem d_X11_find_5 : decode prog_1_method_10_code 5 = .ok (.astore_n 2, 1) := by decide +kernel
theorem d_X11_find_6 : decode prog_1_method_10_code 6 = .ok (.aload_n 2, 1) := by decide +kernel
theorem d_X11_find_7 : decode prog_1_method_10_code 7 = .ok (.ifnonnull 5, 3) := by decide +kernel
theorem d_X11_find_10 : decode prog_1_method_10_code 10 = .ok (.iconst (-1), 1) := by decide +kernel
theorem d_X11_find_11 : decode prog_1_method_10_code 11 = .ok (.ireturn, 1) := by decide +kernel
theorem d_X11_find_12 : decode prog_1_method_10_code 12 = .ok (.aload_n 0, 1) := by decide +kernel
theorem d_X11_find_13 : decode prog_1_method_10_code 13 = .ok (.getfield 21, 3) := by decide +kernel
theorem d_X11_find_16 : decode prog_1_method_10_code 16 = .ok (.aload_n 0, 1) := by decide +kernel
theorem d_X11_find_17 : decode prog_1_method_10_code 17 = .ok (.getfield 12, 3) := by decide +kernel
theorem d_X11_find_20 : decode prog_1_method_10_code 20 = .ok (.invokevirtual 171, 3) := by decide +kernel
theorem d_X11_find_23 : decode prog_1_method_10_code 23 = .ok (.aload_n 0, 1) := by decide +kernel
theorem d_X11_find_24 : decode prog_1_method_10_code 24 = .ok (.getfield 21, 3) := by decide +kernel
theorem d_X11_find_27 : decode prog_1_method_10_code 27 = .ok (.getfield 175, 3) := by decide +kernel
theorem d_X11_find_30 : decode prog_1_method_10_code 30 = .ok (.iconst 2, 1) := by decide +kernel
theorem d_X11_find_31 : decode prog_1_method_10_code 31 = .ok (.if_icmp .ne 30, 3) := by decide +kernel
theorem d_X11_find_34 : decode prog_1_method_10_code 34 = .ok (.aload_n 0, 1) := by decide +kernel
theorem d_X11_find_35 : decode prog_1_method_10_code 35 = .ok (.getfield 21, 3) := by decide +kernel
theorem d_X11_find_38 : decode prog_1_method_10_code 38 = .ok (.getfield 178, 3) := by decide +kernel
theorem d_X11_find_41 : decode prog_1_method_10_code 41 = .ok (.ifCond .ne 20, 3) := by decide +kernel
theorem d_X11_find_44 : decode prog_1_method_10_code 44 = .ok (.aload_n 0, 1) := by decide +kernel
theorem d_X11_find_45 : decode prog_1_method_10_code 45 = .ok (.getfield 21, 3) := by decide +kernel
theorem d_X11_find_48 : decode prog_1_method_10_code 48 = .ok (.getfield 181, 3) := by decide +kernel
theorem d_X11_find_51 : decode prog_1_method_10_code 51 = .ok (.aload_n 0, 1) := by decide +kernel
theorem d_X11_find_52 : decode prog_1_method_10_code 52 = .ok (.getfield 12, 3) := by decide +kernel
theorem d_X11_find_55 : decode prog_1_method_10_code 55 = .ok (.getfield 83, 3) := by decide +kernel
theorem d_X11_find_58 : decode prog_1_method_10_code 58 = .ok (.if_icmp .eq 5, 3) := by decide +kernel
theorem d_X11_find_61 : decode prog_1_method_10_code 61 = .ok (.iconst (-1), 1) := by decide +kernel
theorem d_X11_find_62 : decode prog_1_method_10_code 62 = .ok (.ireturn, 1) := by decide +kernel
theorem d_X11_find_63 : decode prog_1_method_10_code 63 = .ok (.aload_n 2, 1) := by decide +kernel
theorem d_X11_find_64 : decode prog_1_method_10_code 64 = .ok (.aload_n 0, 1) := by decide +kernel
theorem d_X11_find_65 : decode prog_1_method_10_code 65 = .ok (.getfield 21, 3) := by decide +kernel
theorem d_X11_find_68 : decode prog_1_method_10_code 68 = .ok (.getfield 184, 3) := by decide +kernel
theorem d_X11_find_71 : decode prog_1_method_10_code 71 = .ok (.invokevirtual 187, 3) := by decide +kernel
theorem d_X11_find_74 : decode prog_1_method_10_code 74 = .ok (.istore_n 3, 1) := by decide +kernel
theorem d_X11_find_75 : decode prog_1_method_10_code 75 = .ok (.iload_n 3, 1) := by decide +kernel
theorem d_X11_find_76 : decode prog_1_method_10_code 76 = .ok (.ifCond .ge 7, 3) := by decide +kernel
theorem d_X11_find_79 : decode prog_1_method_10_code 79 = .ok (.iconst (-1), 1) := by decide +kernel
theorem d_X11_find_80 : decode prog_1_method_10_code 80 = .ok (.goto 15, 3) := by decide +kernel
theorem d_X11_find_83 : decode prog_1_method_10_code 83 = .ok (.bipush 100, 2) := by decide +kernel
theorem d_X11_find_85 : decode prog_1_method_10_code 85 = .ok (.iload_n 3, 1) := by decide +kernel
theorem d_X11_find_86 : decode prog_1_method_10_code 86 = .ok (.bipush 24, 2) := by decide +kernel
theorem d_X11_find_88 : decode prog_1_method_10_code 88 = .ok (.idiv, 1) := by decide +kernel
theorem d_X11_find_89 : decode prog_1_method_10_code 89 = .ok (.imul, 1) := by decide +kernel
theorem d_X11_find_90 : decode prog_1_method_10_code 90 = .ok (.iload_n 3, 1) := by decide +kernel
theorem d_X11_find_91 : decode prog_1_method_10_code 91 = .ok (.bipush 24, 2) := by decide +kernel
theorem d_X11_find_93 : decode prog_1_method_10_code 93 = .ok (.irem, 1) := by decide +kernel
theorem d_X11_find_94 : decode prog_1_method_10_code 94 = .ok (.iadd, 1) := by decide +kernel
theorem d_X11_find_95 : decode prog_1_method_10_code 95 = .ok (.ireturn, 1) := by decide +kernel
theorem v_X11_find_0 {E : EE} {d : Nat} {Q : Option AV → AH → Prop} {x0 : Nat} {x1 : Int32} {G : AH} (h0 : 0 < d) (h : isO E G x0 11 ∧ (wpR E (d - 1) M_X11_known [vr x0, vi x1] G (fun r1 G2 => (¬ r1 = 0 → isO E G2 x0 11 ∧ (isO E G2 (gR G2 x0 1) 10 ∧ (wpV E (d - 1) M_X10_scan [vr (gR G2 x0 1), vr (gR G2 x0 0)] G2 (fun G4 => isO E G4 x0 11 ∧ (isO E G4 (gR G4 x0 1) 10 ∧ ((¬ (gI G4 (gR G4 x0 1) 6) = 2 → Q (some (vi (-1))) G4) ∧ ((gI G4 (gR G4 x0 1) 6) = 2 → (¬ (gI G4 (gR G4 x0 1) 8) = 0 → Q (some (vi (-1))) G4) ∧ ((gI G4 (gR G4 x0 1) 8) = 0 → isO E G4 (gR G4 x0 0) 0 ∧ (((gI G4 (gR G4 x0 1) 9) = (gI G4 (gR G4 x0 0) 1) → isO E G4 r1 3 ∧ (wpI E (d - 1) M_X3_lookUp [vr r1, vj (gJ G4 (gR G4 x0 1) 7)] G4 (fun r8 G9 => (0 ≤ r8 → Q (some (vi ((100 * (r8 / 24)) + (r8 - r8 / 24 * 24)))) G9) ∧ (¬ (0 ≤ r8) → Q (some (vi (-1))) G9)))) ∧ (¬ ((gI G4 (gR G4 x0 1) 9) = (gI G4 (gR G4 x0 0) 1)) → Q (some (vi (-1))) G4)))))))))) ∧ (r1 = 0 → Q (some (vi (-1))) G2)))) : wp E d M_X11_find 0 [some (vr x0), some (vi x1), none, none] [] G Q := by
  refine wp_aload_n (pc := 0) d_X11_find_0 rfl ?_
  refine wp_iload_n (pc := 1) d_X11_find_1 rfl ?_
  obtain ⟨ho12, h⟩ := h
  refine wp_invV (pc := 2) (N := M_X11_known) (As := [vi _]) (rest := []) (r := (cn_11, ct_11, 12)) d_X11_find_2 ml_X11_132 mk_X11_known mv_X11_known h0 ho12 rfl rfl (Nat.le_of_ble_eq_true rfl) ?_
  refine wpM.mono h (fun rr G2 hr => ?_)
  obtain ⟨r1, rfl, h⟩ := hr
  show wp E d M_X11_find 5 [some (vr _), some (vi _), none, none] [vr _] G2 Q
  refine wp_astore_n (pc := 5) (lv' := [some (vr _), some (vi _), some (vr _), none]) d_X11_find_5 (by decide) rfl ?_
  refine wp_aload_n (pc := 6) d_X11_find_6 rfl ?_
  refine wp_ifnonnull (pc := 7) (tgt := 12) d_X11_find_7 (by decide) (fun hc => ?_) (fun hc => ?_)
  · have h := h.1 hc
    refine wp_aload_n (pc := 12) d_X11_find_12 rfl ?_
    obtain ⟨ho3, h⟩ := h
    refine wp_getR (pc := 13) d_X11_find_13 fl_X11_21 (fun _ _ _ => rfl) ho3 ?_
    refine wp_aload_n (pc := 16) d_X11_find_16 rfl ?_
    refine wp_getR (pc := 17) d_X11_find_17 fl_X11_12 (fun _ _ _ => rfl) ho3 ?_
    obtain ⟨ho11, h⟩ := h
    refine wp_invV (pc := 20) (N := M_X10_scan) (As := [vr _]) (rest := []) (r := (cn_10, ct_10, 12)) d_X11_find_20 ml_X11_171 mk_X10_scan mv_X10_scan h0 ho11 rfl rfl (Nat.le_of_ble_eq_true rfl) ?_
    refine wpM.mono h (fun rr G4 hr => ?_)
    obtain ⟨rfl, h⟩ := hr
    show wp E d M_X11_find 23 [some (vr _), some (vi _), some (vr _), none] [] G4 Q
    refine wp_aload_n (pc := 23) d_X11_find_23 rfl ?_
    obtain ⟨ho5, h⟩ := h
    refine wp_getR (pc := 24) d_X11_find_24 fl_X11_21 (fun _ _ _ => rfl) ho5 ?_
    obtain ⟨ho6, h⟩ := h
    refine wp_getI (pc := 27) d_X11_find_27 fl_X11_175 (fun _ _ _ => rfl) ho6 ?_
    refine wp_iconst (pc := 30) (v := 2) d_X11_find_30 rfl ?_
    refine wp_icmp_ne (pc := 31) (tgt := 61) d_X11_find_31 (by decide) (fun hc => ?_) (fun hc => ?_)
    · have h := h.1 hc
      refine wp_iconst (pc := 61) (v := (-1)) d_X11_find_61 rfl ?_
      exact wp_iret (pc := 62) d_X11_find_62 rfl h
    · have h := h.2 hc
      refine wp_aload_n (pc := 34) d_X11_find_34 rfl ?_
      refine wp_getR (pc := 35) d_X11_find_35 fl_X11_21 (fun _ _ _ => rfl) ho5 ?_
      refine wp_getI (pc := 38) d_X11_find_38 fl_X11_178 (fun _ _ _ => rfl) ho6 ?_
      refine wp_if_ne (pc := 41) (tgt := 61) d_X11_find_41 (by decide) (fun hc => ?_) (fun hc => ?_)
      · have h := h.1 hc
        refine wp_iconst (pc := 61) (v := (-1)) d_X11_find_61 rfl ?_
        exact wp_iret (pc := 62) d_X11_find_62 rfl h
      · have h := h.2 hc
        refine wp_aload_n (pc := 44) d_X11_find_44 rfl ?_
        refine wp_getR (pc := 45) d_X11_find_45 fl_X11_21 (fun _ _ _ => rfl) ho5 ?_
        refine wp_getI (pc := 48) d_X11_find_48 fl_X11_181 (fun _ _ _ => rfl) ho6 ?_
        refine wp_aload_n (pc := 51) d_X11_find_51 rfl ?_
        refine wp_getR (pc := 52) d_X11_find_52 fl_X11_12 (fun _ _ _ => rfl) ho5 ?_
        obtain ⟨ho7, h⟩ := h
        refine wp_getI (pc := 55) d_X11_find_55 fl_X11_83 (fun _ _ _ => rfl) ho7 ?_
        refine wp_icmp_eq (pc := 58) (tgt := 63) d_X11_find_58 (by decide) (fun hc => ?_) (fun hc => ?_)
        · have h := h.1 hc
          refine wp_aload_n (pc := 63) d_X11_find_63 rfl ?_
          refine wp_aload_n (pc := 64) d_X11_find_64 rfl ?_
          refine wp_getR (pc := 65) d_X11_find_65 fl_X11_21 (fun _ _ _ => rfl) ho5 ?_
          refine wp_getJ (pc := 68) d_X11_find_68 fl_X11_184 (fun _ _ _ => rfl) ho6 ?_
          obtain ⟨ho10, h⟩ := h
          refine wp_invV (pc := 71) (N := M_X3_lookUp) (As := [vj _]) (rest := []) (r := (cn_3, ct_3, 19)) d_X11_find_71 ml_X11_187 mk_X3_lookUp mv_X3_lookUp h0 ho10 rfl rfl (Nat.le_of_ble_eq_true rfl) ?_
          refine wpM.mono h (fun rr G9 hr => ?_)
          obtain ⟨r8, rfl, h⟩ := hr
          show wp E d M_X11_find 74 [some (vr _), some (vi _), some (vr _), none] [vi _] G9 Q
          refine wp_istore_n (pc := 74) (lv' := [some (vr _), some (vi _), some (vr _), some (vi _)]) d_X11_find_74 (by decide) rfl ?_
          refine wp_iload_n (pc := 75) d_X11_find_75 rfl ?_
          refine wp_if_ge (pc := 76) (tgt := 83) d_X11_find_76 (by decide) (fun hc => ?_) (fun hc => ?_)
          · have h := h.1 hc
            refine wp_bipush (pc := 83) (v := 100) d_X11_find_83 rfl ?_
            refine wp_iload_n (pc := 85) d_X11_find_85 rfl ?_
            refine wp_bipush (pc := 86) (v := 24) d_X11_find_86 rfl ?_
            refine wp_idiv (pc := 88) d_X11_find_88 (by decide) ?_
            refine wp_imul (pc := 89) d_X11_find_89 ?_
            refine wp_iload_n (pc := 90) d_X11_find_90 rfl ?_
            refine wp_bipush (pc := 91) (v := 24) d_X11_find_91 rfl ?_
            refine wp_irem (pc := 93) d_X11_find_93 (by decide) ?_
            refine wp_iadd (pc := 94) d_X11_find_94 ?_
            exact wp_iret (pc := 95) d_X11_find_95 rfl h
          · have h := h.2 hc
            refine wp_iconst (pc := 79) (v := (-1)) d_X11_find_79 rfl ?_
            refine wp_goto (pc := 80) (tgt := 95) d_X11_find_80 (by decide) ?_
            exact wp_iret (pc := 95) d_X11_find_95 rfl h
        · have h := h.2 hc
          refine wp_iconst (pc := 61) (v := (-1)) d_X11_find_61 rfl ?_
          exact wp_iret (pc := 62) d_X11_find_62 rfl h
  · have h := h.2 hc
    refine wp_iconst (pc := 10) (v := (-1)) d_X11_find_10 rfl ?_
    exact wp_iret (pc := 11) d_X11_find_11 rfl h
theorem d_X11_count_0 : decode prog_1_method_9_code 0 = .ok (.aload_n 0, 1) := by decide +kernel
theorem d_X11_count_1 : decode prog_1_method_9_code 1 = .ok (.iload_n 1, 1) := by decide +kernel
theorem d_X11_count_2 : decode prog_1_method_9_code 2 = .ok (.invokevirtual 132, 3) := by decide +kernel
theorem d_X11_count_5 : decode prog_1_method_9_code 5 = .ok (.astore_n 3, 1) := by decide +kernel
theorem d_X11_count_6 : decode prog_1_method_9_code 6 = .ok (.aload_n 3, 1) := by decide +kernel
theorem d_X11_count_7 : decode prog_1_method_9_code 7 = .ok (.ifnonnull 5, 3) := by decide +kernel
theorem d_X11_count_10 : decode prog_1_method_9_code 10 = .ok (.iconst (-1), 1) := by decide +kernel
theorem d_X11_count_11 : decode prog_1_method_9_code 11 = .ok (.ireturn, 1) := by decide +kernel
theorem d_X11_count_12 : decode prog_1_method_9_code 12 = .ok (.iload_n 2, 1) := by decide +kernel
theorem d_X11_count_13 : decode prog_1_method_9_code 13 = .ok (.tableswitch 123 0 8 #[51, 58, 65, 72, 79, 87, 99, 110, 115], 51) := by decide +kernel
theorem d_X11_count_64 : decode prog_1_method_9_code 64 = .ok (.aload_n 3, 1) := by decide +kernel
theorem d_X11_count_65 : decode prog_1_method_9_code 65 = .ok (.getfield 135, 3) := by decide +kernel
theorem d_X11_count_68 : decode prog_1_method_9_code 68 = .ok (.iconst 0, 1) := by decide +kernel
theorem d_X11_count_69 : decode prog_1_method_9_code 69 = .ok (.iaload, 1) := by decide +kernel
theorem d_X11_count_70 : decode prog_1_method_9_code 70 = .ok (.ireturn, 1) := by decide +kernel
theorem d_X11_count_71 : decode prog_1_method_9_code 71 = .ok (.aload_n 3, 1) := by decide +kernel
theorem d_X11_count_72 : decode prog_1_method_9_code 72 = .ok (.getfield 135, 3) := by decide +kernel
theorem d_X11_count_75 : decode prog_1_method_9_code 75 = .ok (.iconst 1, 1) := by decide +kernel
theorem d_X11_count_76 : decode prog_1_method_9_code 76 = .ok (.iaload, 1) := by decide +kernel
theorem d_X11_count_77 : decode prog_1_method_9_code 77 = .ok (.ireturn, 1) := by decide +kernel
theorem d_X11_count_78 : decode prog_1_method_9_code 78 = .ok (.aload_n 3, 1) := by decide +kernel
theorem d_X11_count_79 : decode prog_1_method_9_code 79 = .ok (.getfield 135, 3) := by decide +kernel
theorem d_X11_count_82 : decode prog_1_method_9_code 82 = .ok (.iconst 2, 1) := by decide +kernel
theorem d_X11_count_83 : decode prog_1_method_9_code 83 = .ok (.iaload, 1) := by decide +kernel
theorem d_X11_count_84 : decode prog_1_method_9_code 84 = .ok (.ireturn, 1) := by decide +kernel
theorem d_X11_count_85 : decode prog_1_method_9_code 85 = .ok (.aload_n 3, 1) := by decide +kernel
theorem d_X11_count_86 : decode prog_1_method_9_code 86 = .ok (.getfield 135, 3) := by decide +kernel
theorem d_X11_count_89 : decode prog_1_method_9_code 89 = .ok (.iconst 3, 1) := by decide +kernel
theorem d_X11_count_90 : decode prog_1_method_9_code 90 = .ok (.iaload, 1) := by decide +kernel
theorem d_X11_count_91 : decode prog_1_method_9_code 91 = .ok (.ireturn, 1) := by decide +kernel
theorem d_X11_count_92 : decode prog_1_method_9_code 92 = .ok (.aload_n 3, 1) := by decide +kernel
theorem d_X11_count_93 : decode prog_1_method_9_code 93 = .ok (.getfield 139, 3) := by decide +kernel
theorem d_X11_count_96 : decode prog_1_method_9_code 96 = .ok (.getfield 143, 3) := by decide +kernel
theorem d_X11_count_99 : decode prog_1_method_9_code 99 = .ok (.ireturn, 1) := by decide +kernel
theorem d_X11_count_100 : decode prog_1_method_9_code 100 = .ok (.aload_n 3, 1) := by decide +kernel
theorem d_X11_count_101 : decode prog_1_method_9_code 101 = .ok (.getfield 139, 3) := by decide +kernel
theorem d_X11_count_104 : decode prog_1_method_9_code 104 = .ok (.aload_n 3, 1) := by decide +kernel
theorem d_X11_count_105 : decode prog_1_method_9_code 105 = .ok (.getfield 148, 3) := by decide +kernel
theorem d_X11_count_108 : decode prog_1_method_9_code 108 = .ok (.invokevirtual 151, 3) := by decide +kernel
theorem d_X11_count_111 : decode prog_1_method_9_code 111 = .ok (.ireturn, 1) := by decide +kernel
theorem d_X11_count_112 : decode prog_1_method_9_code 112 = .ok (.aload_n 3, 1) := by decide +kernel
theorem d_X11_count_113 : decode prog_1_method_9_code 113 = .ok (.getfield 154, 3) := by decide +kernel
theorem d_X11_count_116 : decode prog_1_method_9_code 116 = .ok (.getfield 158, 3) := by decide +kernel
theorem d_X11_count_119 : decode prog_1_method_9_code 119 = .ok (.invokestatic 163, 3) := by decide +kernel
theorem d_X11_count_122 : decode prog_1_method_9_code 122 = .ok (.ireturn, 1) := by decide +kernel
theorem d_X11_count_123 : decode prog_1_method_9_code 123 = .ok (.aload_n 3, 1) := by decide +kernel
theorem d_X11_count_124 : decode prog_1_method_9_code 124 = .ok (.getfield 168, 3) := by decide +kernel
theorem d_X11_count_127 : decode prog_1_method_9_code 127 = .ok (.ireturn, 1) := by decide +kernel
theorem d_X11_count_128 : decode prog_1_method_9_code 128 = .ok (.aload_n 3, 1) := by decide +kernel
theorem d_X11_count_129 : decode prog_1_method_9_code 129 = .ok (.getfield 111, 3) := by decide +kernel
theorem d_X11_count_132 : decode prog_1_method_9_code 132 = .ok (.getfield 83, 3) := by decide +kernel
theorem d_X11_count_135 : decode prog_1_method_9_code 135 = .ok (.ireturn, 1) := by decide +kernel
theorem d_X11_count_136 : decode prog_1_method_9_code 136 = .ok (.iconst (-1), 1) := by decide +kernel
theorem d_X11_count_137 : decode prog_1_method_9_code 137 = .ok (.ireturn, 1) := by decide +kernel
theorem v_X11_count_0 {E : EE} {d : Nat} {Q : Option AV → AH → Prop} {x0 : Nat} {x1 : Int32} {x2 : Int32} {G : AH} (h0 : 0 < d) (h : isO E G x0 11 ∧ (wpR E (d - 1) M_X11_known [vr x0, vi x1] G (fun r1 G2 => (¬ r1 = 0 → (x2 = 0 → isO E G2 r1 3 ∧ (isO E G2 (gR G2 r1 3) 14 ∧ (vp_in 0 (gN G2 (gR G2 r1 3)) ∧ (Q (some (vi (gI G2 (gR G2 r1 3) (Int32.toNatClampNeg 0)))) G2)))) ∧ ((x2 = 1 → isO E G2 r1 3 ∧ (isO E G2 (gR G2 r1 3) 14 ∧ (vp_in 1 (gN G2 (gR G2 r1 3)) ∧ (Q (some (vi (gI G2 (gR G2 r1 3) (Int32.toNatClampNeg 1)))) G2)))) ∧ ((x2 = 2 → isO E G2 r1 3 ∧ (isO E G2 (gR G2 r1 3) 14 ∧ (vp_in 2 (gN G2 (gR G2 r1 3)) ∧ (Q (some (vi (gI G2 (gR G2 r1 3) (Int32.toNatClampNeg 2)))) G2)))) ∧ ((x2 = 3 → isO E G2 r1 3 ∧ (isO E G2 (gR G2 r1 3) 14 ∧ (vp_in 3 (gN G2 (gR G2 r1 3)) ∧ (Q (some (vi (gI G2 (gR G2 r1 3) (Int32.toNatClampNeg 3)))) G2)))) ∧ ((x2 = 4 → isO E G2 r1 3 ∧ (isO E G2 (gR G2 r1 4) 7 ∧ (Q (some (vi (gI G2 (gR G2 r1 4) 1))) G2))) ∧ ((x2 = 5 → isO E G2 r1 3 ∧ (isO E G2 (gR G2 r1 4) 7 ∧ (wpI E (d - 1) M_X7_agreeing [vr (gR G2 r1 4), vi (gI G2 r1 9)] G2 (fun r24 G25 => Q (some (vi r24)) G25)))) ∧ ((x2 = 6 → isO E G2 r1 3 ∧ (isO E G2 (gR G2 r1 5) 2 ∧ (wpI E (d - 1) M_J6_bitCount_0f7a4 [vi (gI G2 (gR G2 r1 5) 0)] G2 (fun r30 G31 => Q (some (vi r30)) G31)))) ∧ ((x2 = 7 → isO E G2 r1 3 ∧ (Q (some (vi (gI G2 r1 11))) G2)) ∧ ((x2 = 8 → isO E G2 r1 3 ∧ (isO E G2 (gR G2 r1 1) 0 ∧ (Q (some (vi (gI G2 (gR G2 r1 1) 1))) G2))) ∧ ((¬ x2 = 0 → ¬ x2 = 1 → ¬ x2 = 2 → ¬ x2 = 3 → ¬ x2 = 4 → ¬ x2 = 5 → ¬ x2 = 6 → ¬ x2 = 7 → ¬ x2 = 8 → Q (some (vi (-1))) G2))))))))))) ∧ (r1 = 0 → Q (some (vi (-1))) G2)))) : wp E d M_X11_count 0 [some (vr x0), some (vi x1), some (vi x2), none] [] G Q := by
  refine wp_aload_n (pc := 0) d_X11_count_0 rfl ?_
  refine wp_iload_n (pc := 1) d_X11_count_1 rfl ?_
  obtain ⟨ho37, h⟩ := h
  refine wp_invV (pc := 2) (N := M_X11_known) (As := [vi _]) (rest := []) (r := (cn_11, ct_11, 12)) d_X11_count_2 ml_X11_132 mk_X11_known mv_X11_known h0 ho37 rfl rfl (Nat.le_of_ble_eq_true rfl) ?_
  refine wpM.mono h (fun rr G2 hr => ?_)
  obtain ⟨r1, rfl, h⟩ := hr
  show wp E d M_X11_count 5 [some (vr _), some (vi _), some (vi _), none] [vr _] G2 Q
  refine wp_astore_n (pc := 5) (lv' := [some (vr _), some (vi _), some (vi _), some (vr _)]) d_X11_count_5 (by decide) rfl ?_
  refine wp_aload_n (pc := 6) d_X11_count_6 rfl ?_
  refine wp_ifnonnull (pc := 7) (tgt := 12) d_X11_count_7 (by decide) (fun hc => ?_) (fun hc => ?_)
  · have h := h.1 hc
    refine wp_iload_n (pc := 12) d_X11_count_12 rfl ?_
    obtain ⟨hk, h⟩ := h
    by_cases hn3 : x2 = 0
    · have h := hk hn3
      refine wp_tblI (pc := 13) (tgt := 64) d_X11_count_13 (by rw [hn3]; decide) (by rw [hn3]; decide) (by rw [hn3]; first | done | rfl) (by decide) ?_
      refine wp_aload_n (pc := 64) d_X11_count_64 rfl ?_
      obtain ⟨ho4, h⟩ := h
      refine wp_getR (pc := 65) d_X11_count_65 fl_X11_135 (fun _ _ _ => rfl) ho4 ?_
      refine wp_iconst (pc := 68) (v := 0) d_X11_count_68 rfl ?_
      obtain ⟨ho5, h⟩ := h
      obtain ⟨hi6, h⟩ := h
      refine wp_iald (pc := 69) d_X11_count_69 ho5 hi6 ?_
      exact wp_iret (pc := 70) d_X11_count_70 rfl h
    obtain ⟨hk, h⟩ := h
    by_cases hn7 : x2 = 1
    · have h := hk hn7
      refine wp_tblI (pc := 13) (tgt := 71) d_X11_count_13 (by rw [hn7]; decide) (by rw [hn7]; decide) (by rw [hn7]; first | done | rfl) (by decide) ?_
      refine wp_aload_n (pc := 71) d_X11_count_71 rfl ?_
      obtain ⟨ho8, h⟩ := h
      refine wp_getR (pc := 72) d_X11_count_72 fl_X11_135 (fun _ _ _ => rfl) ho8 ?_
      refine wp_iconst (pc := 75) (v := 1) d_X11_count_75 rfl ?_
      obtain ⟨ho9, h⟩ := h
      obtain ⟨hi10, h⟩ := h
      refine wp_iald (pc := 76) d_X11_count_76 ho9 hi10 ?_
      exact wp_iret (pc := 77) d_X11_count_77 rfl h
    obtain ⟨hk, h⟩ := h
    by_cases hn11 : x2 = 2
    · have h := hk hn11
      refine wp_tblI (pc := 13) (tgt := 78) d_X11_count_13 (by rw [hn11]; decide) (by rw [hn11]; decide) (by rw [hn11]; first | done | rfl) (by decide) ?_
      refine wp_aload_n (pc := 78) d_X11_count_78 rfl ?_
      obtain ⟨ho12, h⟩ := h
      refine wp_getR (pc := 79) d_X11_count_79 fl_X11_135 (fun _ _ _ => rfl) ho12 ?_
      refine wp_iconst (pc := 82) (v := 2) d_X11_count_82 rfl ?_
      obtain ⟨ho13, h⟩ := h
      obtain ⟨hi14, h⟩ := h
      refine wp_iald (pc := 83) d_X11_count_83 ho13 hi14 ?_
      exact wp_iret (pc := 84) d_X11_count_84 rfl h
    obtain ⟨hk, h⟩ := h
    by_cases hn15 : x2 = 3
    · have h := hk hn15
      refine wp_tblI (pc := 13) (tgt := 85) d_X11_count_13 (by rw [hn15]; decide) (by rw [hn15]; decide) (by rw [hn15]; first | done | rfl) (by decide) ?_
      refine wp_aload_n (pc := 85) d_X11_count_85 rfl ?_
      obtain ⟨ho16, h⟩ := h
      refine wp_getR (pc := 86) d_X11_count_86 fl_X11_135 (fun _ _ _ => rfl) ho16 ?_
      refine wp_iconst (pc := 89) (v := 3) d_X11_count_89 rfl ?_
      obtain ⟨ho17, h⟩ := h
      obtain ⟨hi18, h⟩ := h
      refine wp_iald (pc := 90) d_X11_count_90 ho17 hi18 ?_
      exact wp_iret (pc := 91) d_X11_count_91 rfl h
    obtain ⟨hk, h⟩ := h
    by_cases hn19 : x2 = 4
    · have h := hk hn19
      refine wp_tblI (pc := 13) (tgt := 92) d_X11_count_13 (by rw [hn19]; decide) (by rw [hn19]; decide) (by rw [hn19]; first | done | rfl) (by decide) ?_
      refine wp_aload_n (pc := 92) d_X11_count_92 rfl ?_
      obtain ⟨ho20, h⟩ := h
      refine wp_getR (pc := 93) d_X11_count_93 fl_X11_139 (fun _ _ _ => rfl) ho20 ?_
      obtain ⟨ho21, h⟩ := h
      refine wp_getI (pc := 96) d_X11_count_96 fl_X11_143 (fun _ _ _ => rfl) ho21 ?_
      exact wp_iret (pc := 99) d_X11_count_99 rfl h
    obtain ⟨hk, h⟩ := h
    by_cases hn22 : x2 = 5
    · have h := hk hn22
      refine wp_tblI (pc := 13) (tgt := 100) d_X11_count_13 (by rw [hn22]; decide) (by rw [hn22]; decide) (by rw [hn22]; first | done | rfl) (by decide) ?_
      refine wp_aload_n (pc := 100) d_X11_count_100 rfl ?_
      obtain ⟨ho23, h⟩ := h
      refine wp_getR (pc := 101) d_X11_count_101 fl_X11_139 (fun _ _ _ => rfl) ho23 ?_
      refine wp_aload_n (pc := 104) d_X11_count_104 rfl ?_
      refine wp_getI (pc := 105) d_X11_count_105 fl_X11_148 (fun _ _ _ => rfl) ho23 ?_
      obtain ⟨ho26, h⟩ := h
      refine wp_invV (pc := 108) (N := M_X7_agreeing) (As := [vi _]) (rest := []) (r := (cn_7, ct_7, 5)) d_X11_count_108 ml_X11_151 mk_X7_agreeing mv_X7_agreeing h0 ho26 rfl rfl (Nat.le_of_ble_eq_true rfl) ?_
      refine wpM.mono h (fun rr G25 hr => ?_)
      obtain ⟨r24, rfl, h⟩ := hr
      show wp E d M_X11_count 111 [some (vr _), some (vi _), some (vi _), some (vr _)] [vi _] G25 Q
      exact wp_iret (pc := 111) d_X11_count_111 rfl h
    obtain ⟨hk, h⟩ := h
    by_cases hn27 : x2 = 6
    · have h := hk hn27
      refine wp_tblI (pc := 13) (tgt := 112) d_X11_count_13 (by rw [hn27]; decide) (by rw [hn27]; decide) (by rw [hn27]; first | done | rfl) (by decide) ?_
      refine wp_aload_n (pc := 112) d_X11_count_112 rfl ?_
      obtain ⟨ho28, h⟩ := h
      refine wp_getR (pc := 113) d_X11_count_113 fl_X11_154 (fun _ _ _ => rfl) ho28 ?_
      obtain ⟨ho29, h⟩ := h
      refine wp_getI (pc := 116) d_X11_count_116 fl_X11_158 (fun _ _ _ => rfl) ho29 ?_
      refine wp_invS (pc := 119) (N := M_J6_bitCount_0f7a4) (As := [vi _]) (rest := []) d_X11_count_119 ml_X11_163 mk_J6_bitCount_0f7a4 ms_J6_bitCount_0f7a4 h0 (Nat.le_of_ble_eq_true rfl) ?_
      refine wpM.mono h (fun rr G31 hr => ?_)
      obtain ⟨r30, rfl, h⟩ := hr
      show wp E d M_X11_count 122 [some (vr _), some (vi _), some (vi _), some (vr _)] [vi _] G31 Q
      exact wp_iret (pc := 122) d_X11_count_122 rfl h
    obtain ⟨hk, h⟩ := h
    by_cases hn32 : x2 = 7
    · have h := hk hn32
      refine wp_tblI (pc := 13) (tgt := 123) d_X11_count_13 (by rw [hn32]; decide) (by rw [hn32]; decide) (by rw [hn32]; first | done | rfl) (by decide) ?_
      refine wp_aload_n (pc := 123) d_X11_count_123 rfl ?_
      obtain ⟨ho33, h⟩ := h
      refine wp_getI (pc := 124) d_X11_count_124 fl_X11_168 (fun _ _ _ => rfl) ho33 ?_
      exact wp_iret (pc := 127) d_X11_count_127 rfl h
    obtain ⟨hk, h⟩ := h
    by_cases hn34 : x2 = 8
    · have h := hk hn34
      refine wp_tblI (pc := 13) (tgt := 128) d_X11_count_13 (by rw [hn34]; decide) (by rw [hn34]; decide) (by rw [hn34]; first | done | rfl) (by decide) ?_
      refine wp_aload_n (pc := 128) d_X11_count_128 rfl ?_
      obtain ⟨ho35, h⟩ := h
      refine wp_getR (pc := 129) d_X11_count_129 fl_X11_111 (fun _ _ _ => rfl) ho35 ?_
      obtain ⟨ho36, h⟩ := h
      refine wp_getI (pc := 132) d_X11_count_132 fl_X11_83 (fun _ _ _ => rfl) ho36 ?_
      exact wp_iret (pc := 135) d_X11_count_135 rfl h
    have h := h hn3 hn7 hn11 hn15 hn19 hn22 hn27 hn32 hn34
    have qhn3 := lv_neT (a := 0) hn3 (by decide)
    have qhn7 := lv_neT (a := 1) hn7 (by decide)
    have qhn11 := lv_neT (a := 2) hn11 (by decide)
    have qhn15 := lv_neT (a := 3) hn15 (by decide)
    have qhn19 := lv_neT (a := 4) hn19 (by decide)
    have qhn22 := lv_neT (a := 5) hn22 (by decide)
    have qhn27 := lv_neT (a := 6) hn27 (by decide)
    have qhn32 := lv_neT (a := 7) hn32 (by decide)
    have qhn34 := lv_neT (a := 8) hn34 (by decide)
    refine wp_tblO (pc := 13) (tgt := 136) d_X11_count_13 (by omega) (by decide) ?_
    refine wp_iconst (pc := 136) (v := (-1)) d_X11_count_136 rfl ?_
    exact wp_iret (pc := 137) d_X11_count_137 rfl h
  · have h := h.2 hc
    refine wp_iconst (pc := 10) (v := (-1)) d_X11_count_10 rfl ?_
    exact wp_iret (pc := 11) d_X11_count_11 rfl h
theorem d_X11_drop_0 : decode prog_1_method_8_code 0 = .ok (.aload_n 0, 1) := by decide +kernel
theorem d_X11_drop_1 : decode prog_1_method_8_code 1 = .ok (.iload_n 1, 1) := by decide +kernel
theorem d_X11_drop_2 : decode prog_1_method_8_code 2 = .ok (.invokevirtual 132, 3) := by decide +kernel
theorem d_X11_drop_5 : decode prog_1_method_8_code 5 = .ok (.astore_n 2, 1) := by decide +kernel
theorem d_X11_drop_6 : decode prog_1_method_8_code 6 = .ok (.aload_n 2, 1) := by decide +kernel
theorem d_X11_drop_7 : decode prog_1_method_8_code 7 = .ok (.ifnonnull 5, 3) := by decide +kernel
theorem d_X11_drop_10 : decode prog_1_method_8_code 10 = .ok (.iconst 0, 1) := by decide +kernel
theorem d_X11_drop_11 : decode prog_1_method_8_code 11 = .ok (.ireturn, 1) := by decide +kernel
theorem d_X11_drop_12 : decode prog_1_method_8_code 12 = .ok (.aload_n 2, 1) := by decide +kernel
theorem d_X11_drop_13 : decode prog_1_method_8_code 13 = .ok (.iconst 0, 1) := by decide +kernel
theorem d_X11_drop_14 : decode prog_1_method_8_code 14 = .ok (.putfield 122, 3) := by decide +kernel
theorem d_X11_drop_17 : decode prog_1_method_8_code 17 = .ok (.iconst 1, 1) := by decide +kernel
theorem d_X11_drop_18 : decode prog_1_method_8_code 18 = .ok (.ireturn, 1) := by decide +kernel
theorem v_X11_drop_0 {E : EE} {d : Nat} {Q : Option AV → AH → Prop} {x0 : Nat} {x1 : Int32} {G : AH} (h0 : 0 < d) (h : isO E G x0 11 ∧ (wpR E (d - 1) M_X11_known [vr x0, vi x1] G (fun r1 G2 => (¬ r1 = 0 → isO E G2 r1 3 ∧ (Q (some (vi 1)) (sI G2 r1 0 0))) ∧ (r1 = 0 → Q (some (vi 0)) G2)))) : wp E d M_X11_drop 0 [some (vr x0), some (vi x1), none] [] G Q := by
  refine wp_aload_n (pc := 0) d_X11_drop_0 rfl ?_
  refine wp_iload_n (pc := 1) d_X11_drop_1 rfl ?_
  obtain ⟨ho4, h⟩ := h
  refine wp_invV (pc := 2) (N := M_X11_known) (As := [vi _]) (rest := []) (r := (cn_11, ct_11, 12)) d_X11_drop_2 ml_X11_132 mk_X11_known mv_X11_known h0 ho4 rfl rfl (Nat.le_of_ble_eq_true rfl) ?_
  refine wpM.mono h (fun rr G2 hr => ?_)
  obtain ⟨r1, rfl, h⟩ := hr
  show wp E d M_X11_drop 5 [some (vr _), some (vi _), none] [vr _] G2 Q
  refine wp_astore_n (pc := 5) (lv' := [some (vr _), some (vi _), some (vr _)]) d_X11_drop_5 (by decide) rfl ?_
  refine wp_aload_n (pc := 6) d_X11_drop_6 rfl ?_
  refine wp_ifnonnull (pc := 7) (tgt := 12) d_X11_drop_7 (by decide) (fun hc => ?_) (fun hc => ?_)
  · have h := h.1 hc
    refine wp_aload_n (pc := 12) d_X11_drop_12 rfl ?_
    refine wp_iconst (pc := 13) (v := 0) d_X11_drop_13 rfl ?_
    obtain ⟨ho3, h⟩ := h
    refine wp_putI (pc := 14) d_X11_drop_14 fl_X11_122 (fun _ _ _ => rfl) (Or.inl rfl) ho3 okI_z0 ?_
    refine wp_iconst (pc := 17) (v := 1) d_X11_drop_17 rfl ?_
    exact wp_zret (pc := 18) d_X11_drop_18 rfl rfl h
  · have h := h.2 hc
    refine wp_iconst (pc := 10) (v := 0) d_X11_drop_10 rfl ?_
    exact wp_zret (pc := 11) d_X11_drop_11 rfl rfl h
theorem d_X11_fault_0 : decode prog_1_method_7_code 0 = .ok (.aload_n 0, 1) := by decide +kernel
theorem d_X11_fault_1 : decode prog_1_method_7_code 1 = .ok (.getfield 72, 3) := by decide +kernel
theorem d_X11_fault_4 : decode prog_1_method_7_code 4 = .ok (.ireturn, 1) := by decide +kernel
theorem v_X11_fault_0 {E : EE} {d : Nat} {Q : Option AV → AH → Prop} {x0 : Nat} {G : AH} (h : isO E G x0 11 ∧ (Q (some (vi (gI G x0 9))) G)) : wp E d M_X11_fault 0 [some (vr x0)] [] G Q := by
  refine wp_aload_n (pc := 0) d_X11_fault_0 rfl ?_
  obtain ⟨ho1, h⟩ := h
  refine wp_getI (pc := 1) d_X11_fault_1 fl_X11_72 (fun _ _ _ => rfl) ho1 ?_
  exact wp_iret (pc := 4) d_X11_fault_4 rfl h
theorem d_X11_problem_0 : decode prog_1_method_6_code 0 = .ok (.aload_n 0, 1) := by decide +kernel
theorem d_X11_problem_1 : decode prog_1_method_6_code 1 = .ok (.invokevirtual 103, 3) := by decide +kernel
theorem d_X11_problem_4 : decode prog_1_method_6_code 4 = .ok (.istore_n 1, 1) := by decide +kernel
theorem d_X11_problem_5 : decode prog_1_method_6_code 5 = .ok (.iload_n 1, 1) := by decide +kernel
theorem d_X11_problem_6 : decode prog_1_method_6_code 6 = .ok (.ifCond .ge 6, 3) := by decide +kernel
theorem d_X11_problem_9 : decode prog_1_method_6_code 9 = .ok (.ldc 86, 2) := by decide +kernel
theorem d_X11_problem_11 : decode prog_1_method_6_code 11 = .ok (.ireturn, 1) := by decide +kernel
theorem d_X11_problem_12 : decode prog_1_method_6_code 12 = .ok (.aload_n 0, 1) := by decide +kernel
theorem d_X11_problem_13 : decode prog_1_method_6_code 13 = .ok (.iload_n 1, 1) := by decide +kernel
theorem d_X11_problem_14 : decode prog_1_method_6_code 14 = .ok (.invokevirtual 107, 3) := by decide +kernel
theorem d_X11_problem_17 : decode prog_1_method_6_code 17 = .ok (.astore_n 2, 1) := by decide +kernel
theorem d_X11_problem_18 : decode prog_1_method_6_code 18 = .ok (.aload_n 2, 1) := by decide +kernel
theorem d_X11_problem_19 : decode prog_1_method_6_code 19 = .ok (.getfield 111, 3) := by decide +kernel
theorem d_X11_problem_22 : decode prog_1_method_6_code 22 = .ok (.aload_n 0, 1) := by decide +kernel
theorem d_X11_problem_23 : decode prog_1_method_6_code 23 = .ok (.getfield 12, 3) := by decide +kernel
theorem d_X11_problem_26 : decode prog_1_method_6_code 26 = .ok (.iconst 0, 1) := by decide +kernel
theorem d_X11_problem_27 : decode prog_1_method_6_code 27 = .ok (.aload_n 0, 1) := by decide +kernel
theorem d_X11_problem_28 : decode prog_1_method_6_code 28 = .ok (.getfield 12, 3) := by decide +kernel
theorem d_X11_problem_31 : decode prog_1_method_6_code 31 = .ok (.getfield 83, 3) := by decide +kernel
theorem d_X11_problem_34 : decode prog_1_method_6_code 34 = .ok (.invokevirtual 114, 3) := by decide +kernel
theorem d_X11_problem_37 : decode prog_1_method_6_code 37 = .ok (.aload_n 0, 1) := by decide +kernel
theorem d_X11_problem_38 : decode prog_1_method_6_code 38 = .ok (.getfield 12, 3) := by decide +kernel
theorem d_X11_problem_41 : decode prog_1_method_6_code 41 = .ok (.iconst 0, 1) := by decide +kernel
theorem d_X11_problem_42 : decode prog_1_method_6_code 42 = .ok (.invokevirtual 91, 3) := by decide +kernel
theorem d_X11_problem_45 : decode prog_1_method_6_code 45 = .ok (.aload_n 2, 1) := by decide +kernel
theorem d_X11_problem_46 : decode prog_1_method_6_code 46 = .ok (.aload_n 0, 1) := by decide +kernel
theorem d_X11_problem_47 : decode prog_1_method_6_code 47 = .ok (.getfield 30, 3) := by decide +kernel
theorem d_X11_problem_50 : decode prog_1_method_6_code 50 = .ok (.aload_n 2, 1) := by decide +kernel
theorem d_X11_problem_51 : decode prog_1_method_6_code 51 = .ok (.invokevirtual 118, 3) := by decide +kernel
theorem d_X11_problem_54 : decode prog_1_method_6_code 54 = .ok (.putfield 122, 3) := by decide +kernel
theorem d_X11_problem_57 : decode prog_1_method_6_code 57 = .ok (.aload_n 0, 1) := by decide +kernel
theorem d_X11_problem_58 : decode prog_1_method_6_code 58 = .ok (.aload_n 0, 1) := by decide +kernel
theorem d_X11_problem_59 : decode prog_1_method_6_code 59 = .ok (.getfield 21, 3) := by decide +kernel
theorem d_X11_problem_62 : decode prog_1_method_6_code 62 = .ok (.getfield 126, 3) := by decide +kernel
theorem d_X11_problem_65 : decode prog_1_method_6_code 65 = .ok (.putfield 72, 3) := by decide +kernel
theorem d_X11_problem_68 : decode prog_1_method_6_code 68 = .ok (.aload_n 2, 1) := by decide +kernel
theorem d_X11_problem_69 : decode prog_1_method_6_code 69 = .ok (.getfield 122, 3) := by decide +kernel
theorem d_X11_problem_72 : decode prog_1_method_6_code 72 = .ok (.ifCond .eq 7, 3) := by decide +kernel
theorem d_X11_problem_75 : decode prog_1_method_6_code 75 = .ok (.iload_n 1, 1) := by decide +kernel
theorem d_X11_problem_76 : decode prog_1_method_6_code 76 = .ok (.goto 12, 3) := by decide +kernel
theorem d_X11_problem_79 : decode prog_1_method_6_code 79 = .ok (.iconst (-1), 1) := by decide +kernel
theorem d_X11_problem_80 : decode prog_1_method_6_code 80 = .ok (.aload_n 0, 1) := by decide +kernel
theorem d_X11_problem_81 : decode prog_1_method_6_code 81 = .ok (.getfield 21, 3) := by decide +kernel
theorem d_X11_problem_84 : decode prog_1_method_6_code 84 = .ok (.getfield 129, 3) := by decide +kernel
theorem d_X11_problem_87 : decode prog_1_method_6_code 87 = .ok (.isub, 1) := by decide +kernel
theorem d_X11_problem_88 : decode prog_1_method_6_code 88 = .ok (.ireturn, 1) := by decide +kernel
theorem v_X11_problem_0 {E : EE} {d : Nat} {Q : Option AV → AH → Prop} {x0 : Nat} {G : AH} (h0 : 0 < d) (h : isO E G x0 11 ∧ (wpI E (d - 1) M_X11_freeNumber [vr x0] G (fun r1 G2 => (0 ≤ r1 → isO E G2 x0 11 ∧ (wpR E (d - 1) M_X11_roomFor [vr x0, vi r1] G2 (fun r3 G4 => isO E G4 r3 3 ∧ (isO E G4 x0 11 ∧ (isO E G4 (gR G4 x0 0) 0 ∧ (isO E G4 (gR G4 r3 1) 0 ∧ (wpV E (d - 1) M_X0_become [vr (gR G4 r3 1), vr (gR G4 x0 0), vi 0, vi (gI G4 (gR G4 x0 0) 1)] G4 (fun G8 => isO E G8 x0 11 ∧ (isO E G8 (gR G8 x0 0) 0 ∧ (wpV E (d - 1) M_X0_keep [vr (gR G8 x0 0), vi 0] G8 (fun G10 => isO E G10 x0 11 ∧ (isO E G10 (gR G10 x0 2) 5 ∧ (wpI E (d - 1) M_X5_read [vr (gR G10 x0 2), vr r3] G10 (fun r12 G13 => isO E G13 r3 3 ∧ (okI .boolean r12 ∧ (∀ G16 : AH, G16 = sI G13 r3 0 r12 → isO E G16 x0 11 ∧ (isO E G16 (gR G16 x0 1) 10 ∧ (∀ G20 : AH, G20 = sI G16 x0 9 (gI G16 (gR G16 x0 1) 10) → ((gI G20 r3 0) = 0 → isO E G20 (gR G20 x0 1) 10 ∧ (Q (some (vi ((-1) - (gI G20 (gR G20 x0 1) 11)))) G20)) ∧ (¬ ((gI G20 r3 0) = 0) → Q (some (vi r1)) G20))))))))))))))))))) ∧ (¬ (0 ≤ r1) → Q (some (vi (-100000))) G2)))) : wp E d M_X11_problem 0 [some (vr x0), none, none] [] G Q := by
  refine wp_aload_n (pc := 0) d_X11_problem_0 rfl ?_
  obtain ⟨ho28, h⟩ := h
  refine wp_invV (pc := 1) (N := M_X11_freeNumber) (As := []) (rest := []) (r := (cn_11, ct_11, 12)) d_X11_problem_1 ml_X11_103 mk_X11_freeNumber mv_X11_freeNumber h0 ho28 rfl rfl (Nat.le_of_ble_eq_true rfl) ?_
  refine wpM.mono h (fun rr G2 hr => ?_)
  obtain ⟨r1, rfl, h⟩ := hr
  show wp E d M_X11_problem 4 [some (vr _), none, none] [vi _] G2 Q
  refine wp_istore_n (pc := 4) (lv' := [some (vr _), some (vi _), none]) d_X11_problem_4 (by decide) rfl ?_
  refine wp_iload_n (pc := 5) d_X11_problem_5 rfl ?_
  refine wp_if_ge (pc := 6) (tgt := 12) d_X11_problem_6 (by decide) (fun hc => ?_) (fun hc => ?_)
  · have h := h.1 hc
    refine wp_aload_n (pc := 12) d_X11_problem_12 rfl ?_
    refine wp_iload_n (pc := 13) d_X11_problem_13 rfl ?_
    obtain ⟨ho27, h⟩ := h
    refine wp_invV (pc := 14) (N := M_X11_roomFor) (As := [vi _]) (rest := []) (r := (cn_11, ct_11, 12)) d_X11_problem_14 ml_X11_107 mk_X11_roomFor mv_X11_roomFor h0 ho27 rfl rfl (Nat.le_of_ble_eq_true rfl) ?_
    refine wpM.mono h (fun rr G4 hr => ?_)
    obtain ⟨r3, rfl, h⟩ := hr
    show wp E d M_X11_problem 17 [some (vr _), some (vi _), none] [vr _] G4 Q
    refine wp_astore_n (pc := 17) (lv' := [some (vr _), some (vi _), some (vr _)]) d_X11_problem_17 (by decide) rfl ?_
    refine wp_aload_n (pc := 18) d_X11_problem_18 rfl ?_
    obtain ⟨ho5, h⟩ := h
    refine wp_getR (pc := 19) d_X11_problem_19 fl_X11_111 (fun _ _ _ => rfl) ho5 ?_
    refine wp_aload_n (pc := 22) d_X11_problem_22 rfl ?_
    obtain ⟨ho6, h⟩ := h
    refine wp_getR (pc := 23) d_X11_problem_23 fl_X11_12 (fun _ _ _ => rfl) ho6 ?_
    refine wp_iconst (pc := 26) (v := 0) d_X11_problem_26 rfl ?_
    refine wp_aload_n (pc := 27) d_X11_problem_27 rfl ?_
    refine wp_getR (pc := 28) d_X11_problem_28 fl_X11_12 (fun _ _ _ => rfl) ho6 ?_
    obtain ⟨ho7, h⟩ := h
    refine wp_getI (pc := 31) d_X11_problem_31 fl_X11_83 (fun _ _ _ => rfl) ho7 ?_
    obtain ⟨ho26, h⟩ := h
    refine wp_invV (pc := 34) (N := M_X0_become) (As := [vr _, vi _, vi _]) (rest := []) (r := (cn_0, ct_0, 2)) d_X11_problem_34 ml_X11_114 mk_X0_become mv_X0_become h0 ho26 rfl rfl (Nat.le_of_ble_eq_true rfl) ?_
    refine wpM.mono h (fun rr G8 hr => ?_)
    obtain ⟨rfl, h⟩ := hr
    show wp E d M_X11_problem 37 [some (vr _), some (vi _), some (vr _)] [] G8 Q
    refine wp_aload_n (pc := 37) d_X11_problem_37 rfl ?_
    obtain ⟨ho9, h⟩ := h
    refine wp_getR (pc := 38) d_X11_problem_38 fl_X11_12 (fun _ _ _ => rfl) ho9 ?_
    refine wp_iconst (pc := 41) (v := 0) d_X11_problem_41 rfl ?_
    obtain ⟨ho25, h⟩ := h
    refine wp_invV (pc := 42) (N := M_X0_keep) (As := [vi _]) (rest := []) (r := (cn_0, ct_0, 2)) d_X11_problem_42 ml_X11_91 mk_X0_keep mv_X0_keep h0 ho25 rfl rfl (Nat.le_of_ble_eq_true rfl) ?_
    refine wpM.mono h (fun rr G10 hr => ?_)
    obtain ⟨rfl, h⟩ := hr
    show wp E d M_X11_problem 45 [some (vr _), some (vi _), some (vr _)] [] G10 Q
    refine wp_aload_n (pc := 45) d_X11_problem_45 rfl ?_
    refine wp_aload_n (pc := 46) d_X11_problem_46 rfl ?_
    obtain ⟨ho11, h⟩ := h
    refine wp_getR (pc := 47) d_X11_problem_47 fl_X11_30 (fun _ _ _ => rfl) ho11 ?_
    refine wp_aload_n (pc := 50) d_X11_problem_50 rfl ?_
    obtain ⟨ho24, h⟩ := h
    refine wp_invV (pc := 51) (N := M_X5_read) (As := [vr _]) (rest := [vr _]) (r := (cn_5, ct_5, 11)) d_X11_problem_51 ml_X11_118 mk_X5_read mv_X5_read h0 ho24 rfl rfl (Nat.le_of_ble_eq_true rfl) ?_
    refine wpM.mono h (fun rr G13 hr => ?_)
    obtain ⟨r12, rfl, h⟩ := hr
    show wp E d M_X11_problem 54 [some (vr _), some (vi _), some (vr _)] [vi _, vr _] G13 Q
    obtain ⟨ho14, h⟩ := h
    obtain ⟨hk15, h⟩ := h
    refine wp_putI (pc := 54) d_X11_problem_54 fl_X11_122 (fun _ _ _ => rfl) (Or.inl rfl) ho14 hk15 ?_
    refine wp_nm (fun G16 eG16 => ?_)
    have h := h G16 eG16
    have ho17 := isO_sI eG16 ho14
    refine wp_aload_n (pc := 57) d_X11_problem_57 rfl ?_
    refine wp_aload_n (pc := 58) d_X11_problem_58 rfl ?_
    obtain ⟨ho18, h⟩ := h
    refine wp_getR (pc := 59) d_X11_problem_59 fl_X11_21 (fun _ _ _ => rfl) ho18 ?_
    obtain ⟨ho19, h⟩ := h
    refine wp_getI (pc := 62) d_X11_problem_62 fl_X11_126 (fun _ _ _ => rfl) ho19 ?_
    refine wp_putI (pc := 65) d_X11_problem_65 fl_X11_72 (fun _ _ _ => rfl) (Or.inl rfl) ho18 (okI_int _) ?_
    refine wp_nm (fun G20 eG20 => ?_)
    have h := h G20 eG20
    have ho21 := isO_sI eG20 ho17
    have ho22 := isO_sI eG20 ho18
    refine wp_aload_n (pc := 68) d_X11_problem_68 rfl ?_
    refine wp_getI (pc := 69) d_X11_problem_69 fl_X11_122 (fun _ _ _ => rfl) ho21 ?_
    refine wp_if_eq (pc := 72) (tgt := 79) d_X11_problem_72 (by decide) (fun hc => ?_) (fun hc => ?_)
    · have h := h.1 hc
      refine wp_iconst (pc := 79) (v := (-1)) d_X11_problem_79 rfl ?_
      refine wp_aload_n (pc := 80) d_X11_problem_80 rfl ?_
      refine wp_getR (pc := 81) d_X11_problem_81 fl_X11_21 (fun _ _ _ => rfl) ho22 ?_
      obtain ⟨ho23, h⟩ := h
      refine wp_getI (pc := 84) d_X11_problem_84 fl_X11_129 (fun _ _ _ => rfl) ho23 ?_
      refine wp_isub (pc := 87) d_X11_problem_87 ?_
      exact wp_iret (pc := 88) d_X11_problem_88 rfl h
    · have h := h.2 hc
      refine wp_iload_n (pc := 75) d_X11_problem_75 rfl ?_
      refine wp_goto (pc := 76) (tgt := 88) d_X11_problem_76 (by decide) ?_
      exact wp_iret (pc := 88) d_X11_problem_88 rfl h
  · have h := h.2 hc
    refine wp_ldc (pc := 9) (v := (-100000)) d_X11_problem_9 ci_X11_86 ?_
    exact wp_iret (pc := 11) d_X11_problem_11 rfl h
theorem d_X11_tapeAt_0 : decode prog_1_method_5_code 0 = .ok (.aload_n 0, 1) := by decide +kernel
theorem d_X11_tapeAt_1 : decode prog_1_method_5_code 1 = .ok (.getfield 12, 3) := by decide +kernel
theorem d_X11_tapeAt_4 : decode prog_1_method_5_code 4 = .ok (.iload_n 1, 1) := by decide +kernel
theorem d_X11_tapeAt_5 : decode prog_1_method_5_code 5 = .ok (.invokevirtual 95, 3) := by decide +kernel
theorem d_X11_tapeAt_8 : decode prog_1_method_5_code 8 = .ok (.ireturn, 1) := by decide +kernel
theorem v_X11_tapeAt_0 {E : EE} {d : Nat} {Q : Option AV → AH → Prop} {x0 : Nat} {x1 : Int32} {G : AH} (h0 : 0 < d) (h : isO E G x0 11 ∧ (isO E G (gR G x0 0) 0 ∧ (wpI E (d - 1) M_X0_at [vr (gR G x0 0), vi x1] G (fun r2 G3 => Q (some (vi r2)) G3)))) : wp E d M_X11_tapeAt 0 [some (vr x0), some (vi x1)] [] G Q := by
  refine wp_aload_n (pc := 0) d_X11_tapeAt_0 rfl ?_
  obtain ⟨ho1, h⟩ := h
  refine wp_getR (pc := 1) d_X11_tapeAt_1 fl_X11_12 (fun _ _ _ => rfl) ho1 ?_
  refine wp_iload_n (pc := 4) d_X11_tapeAt_4 rfl ?_
  obtain ⟨ho4, h⟩ := h
  refine wp_invV (pc := 5) (N := M_X0_at) (As := [vi _]) (rest := []) (r := (cn_0, ct_0, 2)) d_X11_tapeAt_5 ml_X11_95 mk_X0_at mv_X0_at h0 ho4 rfl rfl (Nat.le_of_ble_eq_true rfl) ?_
  refine wpM.mono h (fun rr G3 hr => ?_)
  obtain ⟨r2, rfl, h⟩ := hr
  show wp E d M_X11_tapeAt 8 [some (vr _), some (vi _)] [vi _] G3 Q
  exact wp_iret (pc := 8) d_X11_tapeAt_8 rfl h
theorem d_X11_spoil_0 : decode prog_1_method_4_code 0 = .ok (.iload_n 1, 1) := by decide +kernel
theorem d_X11_spoil_1 : decode prog_1_method_4_code 1 = .ok (.ifCond .lt 14, 3) := by decide +kernel
theorem d_X11_spoil_4 : decode prog_1_method_4_code 4 = .ok (.iload_n 1, 1) := by decide +kernel
theorem d_X11_spoil_5 : decode prog_1_method_4_code 5 = .ok (.aload_n 0, 1) := by decide +kernel
theorem d_X11_spoil_6 : decode prog_1_method_4_code 6 = .ok (.getfield 12, 3) := by decide +kernel
theorem d_X11_spoil_9 : decode prog_1_method_4_code 9 = .ok (.getfield 83, 3) := by decide +kernel
theorem d_X11_spoil_12 : decode prog_1_method_4_code 12 = .ok (.if_icmp .lt 5, 3) := by decide +kernel
theorem d_X11_spoil_15 : decode prog_1_method_4_code 15 = .ok (.iconst (-1), 1) := by decide +kernel
theorem d_X11_spoil_16 : decode prog_1_method_4_code 16 = .ok (.ireturn, 1) := by decide +kernel
theorem d_X11_spoil_17 : decode prog_1_method_4_code 17 = .ok (.aload_n 0, 1) := by decide +kernel
theorem d_X11_spoil_18 : decode prog_1_method_4_code 18 = .ok (.getfield 12, 3) := by decide +kernel
theorem d_X11_spoil_21 : decode prog_1_method_4_code 21 = .ok (.iload_n 1, 1) := by decide +kernel
theorem d_X11_spoil_22 : decode prog_1_method_4_code 22 = .ok (.aload_n 0, 1) := by decide +kernel
theorem d_X11_spoil_23 : decode prog_1_method_4_code 23 = .ok (.getfield 12, 3) := by decide +kernel
theorem d_X11_spoil_26 : decode prog_1_method_4_code 26 = .ok (.iload_n 1, 1) := by decide +kernel
theorem d_X11_spoil_27 : decode prog_1_method_4_code 27 = .ok (.invokevirtual 95, 3) := by decide +kernel
theorem d_X11_spoil_30 : decode prog_1_method_4_code 30 = .ok (.iload_n 2, 1) := by decide +kernel
theorem d_X11_spoil_31 : decode prog_1_method_4_code 31 = .ok (.ixor, 1) := by decide +kernel
theorem d_X11_spoil_32 : decode prog_1_method_4_code 32 = .ok (.invokevirtual 99, 3) := by decide +kernel
theorem d_X11_spoil_35 : decode prog_1_method_4_code 35 = .ok (.aload_n 0, 1) := by decide +kernel
theorem d_X11_spoil_36 : decode prog_1_method_4_code 36 = .ok (.getfield 12, 3) := by decide +kernel
theorem d_X11_spoil_39 : decode prog_1_method_4_code 39 = .ok (.iload_n 1, 1) := by decide +kernel
theorem d_X11_spoil_40 : decode prog_1_method_4_code 40 = .ok (.invokevirtual 95, 3) := by decide +kernel
theorem d_X11_spoil_43 : decode prog_1_method_4_code 43 = .ok (.ireturn, 1) := by decide +kernel
theorem v_X11_spoil_0 {E : EE} {d : Nat} {Q : Option AV → AH → Prop} {x0 : Nat} {x1 : Int32} {x2 : Int32} {G : AH} (h0 : 0 < d) (h : (x1 < 0 → Q (some (vi (-1))) G) ∧ (¬ (x1 < 0) → isO E G x0 11 ∧ (isO E G (gR G x0 0) 0 ∧ ((x1 < (gI G (gR G x0 0) 1) → wpI E (d - 1) M_X0_at [vr (gR G x0 0), vi x1] G (fun r3 G4 => isO E G4 (gR G x0 0) 0 ∧ (wpV E (d - 1) M_X0_exchange [vr (gR G x0 0), vi x1, vi (r3 ^^^ x2)] G4 (fun G5 => isO E G5 x0 11 ∧ (isO E G5 (gR G5 x0 0) 0 ∧ (wpI E (d - 1) M_X0_at [vr (gR G5 x0 0), vi x1] G5 (fun r7 G8 => Q (some (vi r7)) G8))))))) ∧ (¬ (x1 < (gI G (gR G x0 0) 1)) → Q (some (vi (-1))) G))))) : wp E d M_X11_spoil 0 [some (vr x0), some (vi x1), some (vi x2)] [] G Q := by
  refine wp_iload_n (pc := 0) d_X11_spoil_0 rfl ?_
  refine wp_if_lt (pc := 1) (tgt := 15) d_X11_spoil_1 (by decide) (fun hc => ?_) (fun hc => ?_)
  · have h := h.1 hc
    refine wp_iconst (pc := 15) (v := (-1)) d_X11_spoil_15 rfl ?_
    exact wp_iret (pc := 16) d_X11_spoil_16 rfl h
  · have h := h.2 hc
    refine wp_iload_n (pc := 4) d_X11_spoil_4 rfl ?_
    refine wp_aload_n (pc := 5) d_X11_spoil_5 rfl ?_
    obtain ⟨ho1, h⟩ := h
    refine wp_getR (pc := 6) d_X11_spoil_6 fl_X11_12 (fun _ _ _ => rfl) ho1 ?_
    obtain ⟨ho2, h⟩ := h
    refine wp_getI (pc := 9) d_X11_spoil_9 fl_X11_83 (fun _ _ _ => rfl) ho2 ?_
    refine wp_icmp_lt (pc := 12) (tgt := 17) d_X11_spoil_12 (by decide) (fun hc => ?_) (fun hc => ?_)
    · have h := h.1 hc
      refine wp_aload_n (pc := 17) d_X11_spoil_17 rfl ?_
      refine wp_getR (pc := 18) d_X11_spoil_18 fl_X11_12 (fun _ _ _ => rfl) ho1 ?_
      refine wp_iload_n (pc := 21) d_X11_spoil_21 rfl ?_
      refine wp_aload_n (pc := 22) d_X11_spoil_22 rfl ?_
      refine wp_getR (pc := 23) d_X11_spoil_23 fl_X11_12 (fun _ _ _ => rfl) ho1 ?_
      refine wp_iload_n (pc := 26) d_X11_spoil_26 rfl ?_
      refine wp_invV (pc := 27) (N := M_X0_at) (As := [vi _]) (rest := [vi _, vr _]) (r := (cn_0, ct_0, 2)) d_X11_spoil_27 ml_X11_95 mk_X0_at mv_X0_at h0 ho2 rfl rfl (Nat.le_of_ble_eq_true rfl) ?_
      refine wpM.mono h (fun rr G4 hr => ?_)
      obtain ⟨r3, rfl, h⟩ := hr
      show wp E d M_X11_spoil 30 [some (vr _), some (vi _), some (vi _)] [vi _, vi _, vr _] G4 Q
      refine wp_iload_n (pc := 30) d_X11_spoil_30 rfl ?_
      refine wp_ixor (pc := 31) d_X11_spoil_31 ?_
      obtain ⟨ho10, h⟩ := h
      refine wp_invV (pc := 32) (N := M_X0_exchange) (As := [vi _, vi _]) (rest := []) (r := (cn_0, ct_0, 2)) d_X11_spoil_32 ml_X11_99 mk_X0_exchange mv_X0_exchange h0 ho10 rfl rfl (Nat.le_of_ble_eq_true rfl) ?_
      refine wpM.mono h (fun rr G5 hr => ?_)
      obtain ⟨rfl, h⟩ := hr
      show wp E d M_X11_spoil 35 [some (vr _), some (vi _), some (vi _)] [] G5 Q
      refine wp_aload_n (pc := 35) d_X11_spoil_35 rfl ?_
      obtain ⟨ho6, h⟩ := h
      refine wp_getR (pc := 36) d_X11_spoil_36 fl_X11_12 (fun _ _ _ => rfl) ho6 ?_
      refine wp_iload_n (pc := 39) d_X11_spoil_39 rfl ?_
      obtain ⟨ho9, h⟩ := h
      refine wp_invV (pc := 40) (N := M_X0_at) (As := [vi _]) (rest := []) (r := (cn_0, ct_0, 2)) d_X11_spoil_40 ml_X11_95 mk_X0_at mv_X0_at h0 ho9 rfl rfl (Nat.le_of_ble_eq_true rfl) ?_
      refine wpM.mono h (fun rr G8 hr => ?_)
      obtain ⟨r7, rfl, h⟩ := hr
      show wp E d M_X11_spoil 43 [some (vr _), some (vi _), some (vi _)] [vi _] G8 Q
      exact wp_iret (pc := 43) d_X11_spoil_43 rfl h
    · have h := h.2 hc
      refine wp_iconst (pc := 15) (v := (-1)) d_X11_spoil_15 rfl ?_
      exact wp_iret (pc := 16) d_X11_spoil_16 rfl h
theorem d_X11_cut_0 : decode prog_1_method_3_code 0 = .ok (.iload_n 1, 1) := by decide +kernel
theorem d_X11_cut_1 : decode prog_1_method_3_code 1 = .ok (.ifCond .lt 14, 3) := by decide +kernel
theorem d_X11_cut_4 : decode prog_1_method_3_code 4 = .ok (.iload_n 1, 1) := by decide +kernel
theorem d_X11_cut_5 : decode prog_1_method_3_code 5 = .ok (.aload_n 0, 1) := by decide +kernel
theorem d_X11_cut_6 : decode prog_1_method_3_code 6 = .ok (.getfield 12, 3) := by decide +kernel
theorem d_X11_cut_9 : decode prog_1_method_3_code 9 = .ok (.getfield 83, 3) := by decide +kernel
theorem d_X11_cut_12 : decode prog_1_method_3_code 12 = .ok (.if_icmp .le 5, 3) := by decide +kernel
theorem d_X11_cut_15 : decode prog_1_method_3_code 15 = .ok (.iconst (-1), 1) := by decide +kernel
theorem d_X11_cut_16 : decode prog_1_method_3_code 16 = .ok (.ireturn, 1) := by decide +kernel
theorem d_X11_cut_17 : decode prog_1_method_3_code 17 = .ok (.aload_n 0, 1) := by decide +kernel
theorem d_X11_cut_18 : decode prog_1_method_3_code 18 = .ok (.getfield 12, 3) := by decide +kernel
theorem d_X11_cut_21 : decode prog_1_method_3_code 21 = .ok (.getfield 83, 3) := by decide +kernel
theorem d_X11_cut_24 : decode prog_1_method_3_code 24 = .ok (.istore_n 2, 1) := by decide +kernel
theorem d_X11_cut_25 : decode prog_1_method_3_code 25 = .ok (.aload_n 0, 1) := by decide +kernel
theorem d_X11_cut_26 : decode prog_1_method_3_code 26 = .ok (.getfield 12, 3) := by decide +kernel
theorem d_X11_cut_29 : decode prog_1_method_3_code 29 = .ok (.iload_n 1, 1) := by decide +kernel
theorem d_X11_cut_30 : decode prog_1_method_3_code 30 = .ok (.invokevirtual 91, 3) := by decide +kernel
theorem d_X11_cut_33 : decode prog_1_method_3_code 33 = .ok (.iload_n 2, 1) := by decide +kernel
theorem d_X11_cut_34 : decode prog_1_method_3_code 34 = .ok (.ireturn, 1) := by decide +kernel
theorem v_X11_cut_0 {E : EE} {d : Nat} {Q : Option AV → AH → Prop} {x0 : Nat} {x1 : Int32} {G : AH} (h0 : 0 < d) (h : (x1 < 0 → Q (some (vi (-1))) G) ∧ (¬ (x1 < 0) → isO E G x0 11 ∧ (isO E G (gR G x0 0) 0 ∧ ((x1 ≤ (gI G (gR G x0 0) 1) → wpV E (d - 1) M_X0_keep [vr (gR G x0 0), vi x1] G (fun G3 => Q (some (vi (gI G (gR G x0 0) 1))) G3)) ∧ (¬ (x1 ≤ (gI G (gR G x0 0) 1)) → Q (some (vi (-1))) G))))) : wp E d M_X11_cut 0 [some (vr x0), some (vi x1), none] [] G Q := by
  refine wp_iload_n (pc := 0) d_X11_cut_0 rfl ?_
  refine wp_if_lt (pc := 1) (tgt := 15) d_X11_cut_1 (by decide) (fun hc => ?_) (fun hc => ?_)
  · have h := h.1 hc
    refine wp_iconst (pc := 15) (v := (-1)) d_X11_cut_15 rfl ?_
    exact wp_iret (pc := 16) d_X11_cut_16 rfl h
  · have h := h.2 hc
    refine wp_iload_n (pc := 4) d_X11_cut_4 rfl ?_
    refine wp_aload_n (pc := 5) d_X11_cut_5 rfl ?_
    obtain ⟨ho1, h⟩ := h
    refine wp_getR (pc := 6) d_X11_cut_6 fl_X11_12 (fun _ _ _ => rfl) ho1 ?_
    obtain ⟨ho2, h⟩ := h
    refine wp_getI (pc := 9) d_X11_cut_9 fl_X11_83 (fun _ _ _ => rfl) ho2 ?_
    refine wp_icmp_le (pc := 12) (tgt := 17) d_X11_cut_12 (by decide) (fun hc => ?_) (fun hc => ?_)
    · have h := h.1 hc
      refine wp_aload_n (pc := 17) d_X11_cut_17 rfl ?_
      refine wp_getR (pc := 18) d_X11_cut_18 fl_X11_12 (fun _ _ _ => rfl) ho1 ?_
      refine wp_getI (pc := 21) d_X11_cut_21 fl_X11_83 (fun _ _ _ => rfl) ho2 ?_
      refine wp_istore_n (pc := 24) (lv' := [some (vr _), some (vi _), some (vi _)]) d_X11_cut_24 (by decide) rfl ?_
      refine wp_aload_n (pc := 25) d_X11_cut_25 rfl ?_
      refine wp_getR (pc := 26) d_X11_cut_26 fl_X11_12 (fun _ _ _ => rfl) ho1 ?_
      refine wp_iload_n (pc := 29) d_X11_cut_29 rfl ?_
      refine wp_invV (pc := 30) (N := M_X0_keep) (As := [vi _]) (rest := []) (r := (cn_0, ct_0, 2)) d_X11_cut_30 ml_X11_91 mk_X0_keep mv_X0_keep h0 ho2 rfl rfl (Nat.le_of_ble_eq_true rfl) ?_
      refine wpM.mono h (fun rr G3 hr => ?_)
      obtain ⟨rfl, h⟩ := hr
      show wp E d M_X11_cut 33 [some (vr _), some (vi _), some (vi _)] [] G3 Q
      refine wp_iload_n (pc := 33) d_X11_cut_33 rfl ?_
      exact wp_iret (pc := 34) d_X11_cut_34 rfl h
    · have h := h.2 hc
      refine wp_iconst (pc := 15) (v := (-1)) d_X11_cut_15 rfl ?_
      exact wp_iret (pc := 16) d_X11_cut_16 rfl h
theorem d_X11_type_0 : decode prog_1_method_2_code 0 = .ok (.iload_n 3, 1) := by decide +kernel
theorem d_X11_type_1 : decode prog_1_method_2_code 1 = .ok (.iconst 1, 1) := by decide +kernel
theorem d_X11_type_2 : decode prog_1_method_2_code 2 = .ok (.if_icmp .lt 9, 3) := by decide +kernel
theorem d_X11_type_5 : decode prog_1_method_2_code 5 = .ok (.iload_n 3, 1) := by decide +kernel
theorem d_X11_type_6 : decode prog_1_method_2_code 6 = .ok (.bipush 8, 2) := by decide +kernel
theorem d_X11_type_8 : decode prog_1_method_2_code 8 = .ok (.if_icmp .le 5, 3) := by decide +kernel
theorem d_X11_type_11 : decode prog_1_method_2_code 11 = .ok (.iconst (-1), 1) := by decide +kernel
theorem d_X11_type_12 : decode prog_1_method_2_code 12 = .ok (.ireturn, 1) := by decide +kernel
theorem d_X11_type_13 : decode prog_1_method_2_code 13 = .ok (.aload_n 0, 1) := by decide +kernel
theorem d_X11_type_14 : decode prog_1_method_2_code 14 = .ok (.getfield 12, 3) := by decide +kernel
theorem d_X11_type_17 : decode prog_1_method_2_code 17 = .ok (.getfield 83, 3) := by decide +kernel
theorem d_X11_type_20 : decode prog_1_method_2_code 20 = .ok (.iload_n 3, 1) := by decide +kernel
theorem d_X11_type_21 : decode prog_1_method_2_code 21 = .ok (.iadd, 1) := by decide +kernel
theorem d_X11_type_22 : decode prog_1_method_2_code 22 = .ok (.sipush 20000, 3) := by decide +kernel
theorem d_X11_type_25 : decode prog_1_method_2_code 25 = .ok (.if_icmp .le 6, 3) := by decide +kernel
theorem d_X11_type_28 : decode prog_1_method_2_code 28 = .ok (.ldc 86, 2) := by decide +kernel
theorem d_X11_type_30 : decode prog_1_method_2_code 30 = .ok (.ireturn, 1) := by decide +kernel
theorem d_X11_type_31 : decode prog_1_method_2_code 31 = .ok (.aload_n 0, 1) := by decide +kernel
theorem d_X11_type_32 : decode prog_1_method_2_code 32 = .ok (.getfield 12, 3) := by decide +kernel
theorem d_X11_type_35 : decode prog_1_method_2_code 35 = .ok (.lload_n 1, 1) := by decide +kernel
theorem d_X11_type_36 : decode prog_1_method_2_code 36 = .ok (.iload_n 3, 1) := by decide +kernel
theorem d_X11_type_37 : decode prog_1_method_2_code 37 = .ok (.invokevirtual 87, 3) := by decide +kernel
theorem d_X11_type_40 : decode prog_1_method_2_code 40 = .ok (.aload_n 0, 1) := by decide +kernel
theorem d_X11_type_41 : decode prog_1_method_2_code 41 = .ok (.getfield 12, 3) := by decide +kernel
theorem d_X11_type_44 : decode prog_1_method_2_code 44 = .ok (.getfield 83, 3) := by decide +kernel
theorem d_X11_type_47 : decode prog_1_method_2_code 47 = .ok (.ireturn, 1) := by decide +kernel
theorem v_X11_type_0 {E : EE} {d : Nat} {Q : Option AV → AH → Prop} {x0 : Nat} {x1 : Int64} {x3 : Int32} {G : AH} (h0 : 0 < d) (h : (x3 < 1 → Q (some (vi (-1))) G) ∧ (¬ (x3 < 1) → (x3 ≤ 8 → isO E G x0 11 ∧ (isO E G (gR G x0 0) 0 ∧ ((((gI G (gR G x0 0) 1) + x3) ≤ 20000 → wpV E (d - 1) M_X0_addNumber [vr (gR G x0 0), vj x1, vi x3] G (fun G3 => isO E G3 x0 11 ∧ (isO E G3 (gR G3 x0 0) 0 ∧ (Q (some (vi (gI G3 (gR G3 x0 0) 1))) G3)))) ∧ (¬ (((gI G (gR G x0 0) 1) + x3) ≤ 20000) → Q (some (vi (-100000))) G)))) ∧ (¬ (x3 ≤ 8) → Q (some (vi (-1))) G))) : wp E d M_X11_type 0 [some (vr x0), some (vj x1), none, some (vi x3)] [] G Q := by
  refine wp_iload_n (pc := 0) d_X11_type_0 rfl ?_
  refine wp_iconst (pc := 1) (v := 1) d_X11_type_1 rfl ?_
  refine wp_icmp_lt (pc := 2) (tgt := 11) d_X11_type_2 (by decide) (fun hc => ?_) (fun hc => ?_)
  · have h := h.1 hc
    refine wp_iconst (pc := 11) (v := (-1)) d_X11_type_11 rfl ?_
    exact wp_iret (pc := 12) d_X11_type_12 rfl h
  · have h := h.2 hc
    refine wp_iload_n (pc := 5) d_X11_type_5 rfl ?_
    refine wp_bipush (pc := 6) (v := 8) d_X11_type_6 rfl ?_
    refine wp_icmp_le (pc := 8) (tgt := 13) d_X11_type_8 (by decide) (fun hc => ?_) (fun hc => ?_)
    · have h := h.1 hc
      refine wp_aload_n (pc := 13) d_X11_type_13 rfl ?_
      obtain ⟨ho1, h⟩ := h
      refine wp_getR (pc := 14) d_X11_type_14 fl_X11_12 (fun _ _ _ => rfl) ho1 ?_
      obtain ⟨ho2, h⟩ := h
      refine wp_getI (pc := 17) d_X11_type_17 fl_X11_83 (fun _ _ _ => rfl) ho2 ?_
      refine wp_iload_n (pc := 20) d_X11_type_20 rfl ?_
      refine wp_iadd (pc := 21) d_X11_type_21 ?_
      refine wp_sipush (pc := 22) (v := 20000) d_X11_type_22 rfl ?_
      refine wp_icmp_le (pc := 25) (tgt := 31) d_X11_type_25 (by decide) (fun hc => ?_) (fun hc => ?_)
      · have h := h.1 hc
        refine wp_aload_n (pc := 31) d_X11_type_31 rfl ?_
        refine wp_getR (pc := 32) d_X11_type_32 fl_X11_12 (fun _ _ _ => rfl) ho1 ?_
        refine wp_lload_n (pc := 35) d_X11_type_35 rfl ?_
        refine wp_iload_n (pc := 36) d_X11_type_36 rfl ?_
        refine wp_invV (pc := 37) (N := M_X0_addNumber) (As := [vj _, vi _]) (rest := []) (r := (cn_0, ct_0, 2)) d_X11_type_37 ml_X11_87 mk_X0_addNumber mv_X0_addNumber h0 ho2 rfl rfl (Nat.le_of_ble_eq_true rfl) ?_
        refine wpM.mono h (fun rr G3 hr => ?_)
        obtain ⟨rfl, h⟩ := hr
        show wp E d M_X11_type 40 [some (vr _), some (vj _), none, some (vi _)] [] G3 Q
        refine wp_aload_n (pc := 40) d_X11_type_40 rfl ?_
        obtain ⟨ho4, h⟩ := h
        refine wp_getR (pc := 41) d_X11_type_41 fl_X11_12 (fun _ _ _ => rfl) ho4 ?_
        obtain ⟨ho5, h⟩ := h
        refine wp_getI (pc := 44) d_X11_type_44 fl_X11_83 (fun _ _ _ => rfl) ho5 ?_
        exact wp_iret (pc := 47) d_X11_type_47 rfl h
      · have h := h.2 hc
        refine wp_ldc (pc := 28) (v := (-100000)) d_X11_type_28 ci_X11_86 ?_
        exact wp_iret (pc := 30) d_X11_type_30 rfl h
    · have h := h.2 hc
      refine wp_iconst (pc := 11) (v := (-1)) d_X11_type_11 rfl ?_
      exact wp_iret (pc := 12) d_X11_type_12 rfl h
theorem d_X12_init_0 : decode prog_14_method_1_code 0 = .ok (.aload_n 0, 1) := by decide +kernel
theorem d_X12_init_1 : decode prog_14_method_1_code 1 = .ok (.invokespecial 3, 3) := by decide +kernel
theorem d_X12_init_4 : decode prog_14_method_1_code 4 = .ok (.aload_n 0, 1) := by decide +kernel
theorem d_X12_init_5 : decode prog_14_method_1_code 5 = .ok (.sipush 20000, 3) := by decide +kernel
theorem d_X12_init_8 : decode prog_14_method_1_code 8 = .ok (.newarray .byte, 2) := by decide +kernel
theorem d_X12_init_10 : decode prog_14_method_1_code 10 = .ok (.putfield 9, 3) := by decide +kernel
theorem d_X12_init_13 : decode prog_14_method_1_code 13 = .ok (.aload_n 0, 1) := by decide +kernel
theorem d_X12_init_14 : decode prog_14_method_1_code 14 = .ok (.lconst 1, 1) := by decide +kernel
theorem d_X12_init_15 : decode prog_14_method_1_code 15 = .ok (.putfield 15, 3) := by decide +kernel
theorem d_X12_init_18 : decode prog_14_method_1_code 18 = .ok (.aload_n 0, 1) := by decide +kernel
theorem d_X12_init_19 : decode prog_14_method_1_code 19 = .ok (.iconst 5, 1) := by decide +kernel
theorem d_X12_init_20 : decode prog_14_method_1_code 20 = .ok (.newarray .boolean, 2) := by decide +kernel
theorem d_X12_init_22 : decode prog_14_method_1_code 22 = .ok (.putfield 19, 3) := by decide +kernel
theorem d_X12_init_25 : decode prog_14_method_1_code 25 = .ok (.aload_n 0, 1) := by decide +kernel
theorem d_X12_init_26 : decode prog_14_method_1_code 26 = .ok (.ldc 23, 2) := by decide +kernel
theorem d_X12_init_28 : decode prog_14_method_1_code 28 = .ok (.newarray .byte, 2) := by decide +kernel
theorem d_X12_init_30 : decode prog_14_method_1_code 30 = .ok (.putfield 24, 3) := by decide +kernel
theorem d_X12_init_33 : decode prog_14_method_1_code 33 = .ok (.aload_n 0, 1) := by decide +kernel
theorem d_X12_init_34 : decode prog_14_method_1_code 34 = .ok (.iconst 5, 1) := by decide +kernel
theorem d_X12_init_35 : decode prog_14_method_1_code 35 = .ok (.newarray .int, 2) := by decide +kernel
theorem d_X12_init_37 : decode prog_14_method_1_code 37 = .ok (.putfield 27, 3) := by decide +kernel
theorem d_X12_init_40 : decode prog_14_method_1_code 40 = .ok (.aload_n 0, 1) := by decide +kernel
theorem d_X12_init_41 : decode prog_14_method_1_code 41 = .ok (.ldc 23, 2) := by decide +kernel
theorem d_X12_init_43 : decode prog_14_method_1_code 43 = .ok (.newarray .int, 2) := by decide +kernel
theorem d_X12_init_45 : decode prog_14_method_1_code 45 = .ok (.putfield 31, 3) := by decide +kernel
theorem d_X12_init_48 : decode prog_14_method_1_code 48 = .ok (.aload_n 0, 1) := by decide +kernel
theorem d_X12_init_49 : decode prog_14_method_1_code 49 = .ok (.ldc 23, 2) := by decide +kernel
theorem d_X12_init_51 : decode prog_14_method_1_code 51 = .ok (.newarray .int, 2) := by decide +kernel
theorem d_X12_init_53 : decode prog_14_method_1_code 53 = .ok (.putfield 34, 3) := by decide +kernel
theorem d_X12_init_56 : decode prog_14_method_1_code 56 = .ok (.aload_n 0, 1) := by decide +kernel
theorem d_X12_init_57 : decode prog_14_method_1_code 57 = .ok (.ldc 23, 2) := by decide +kernel
theorem d_X12_init_59 : decode prog_14_method_1_code 59 = .ok (.newarray .int, 2) := by decide +kernel
theorem d_X12_init_61 : decode prog_14_method_1_code 61 = .ok (.putfield 37, 3) := by decide +kernel
theorem d_X12_init_64 : decode prog_14_method_1_code 64 = .ok (.aload_n 0, 1) := by decide +kernel
theorem d_X12_init_65 : decode prog_14_method_1_code 65 = .ok (.ldc 23, 2) := by decide +kernel
theorem d_X12_init_67 : decode prog_14_method_1_code 67 = .ok (.newarray .int, 2) := by decide +kernel
theorem d_X12_init_69 : decode prog_14_method_1_code 69 = .ok (.putfield 40, 3) := by decide +kernel
theorem d_X12_init_72 : decode prog_14_method_1_code 72 = .ok (.aload_n 0, 1) := by decide +kernel
theorem d_X12_init_73 : decode prog_14_method_1_code 73 = .ok (.iconst 5, 1) := by decide +kernel
theorem d_X12_init_74 : decode prog_14_method_1_code 74 = .ok (.newarray .int, 2) := by decide +kernel
theorem d_X12_init_76 : decode prog_14_method_1_code 76 = .ok (.putfield 43, 3) := by decide +kernel
theorem d_X12_init_79 : decode prog_14_method_1_code 79 = .ok (.aload_n 0, 1) := by decide +kernel
theorem d_X12_init_80 : decode prog_14_method_1_code 80 = .ok (.sipush 320, 3) := by decide +kernel
theorem d_X12_init_83 : decode prog_14_method_1_code 83 = .ok (.newarray .int, 2) := by decide +kernel
theorem d_X12_init_85 : decode prog_14_method_1_code 85 = .ok (.putfield 46, 3) := by decide +kernel
theorem d_X12_init_88 : decode prog_14_method_1_code 88 = .ok (.aload_n 0, 1) := by decide +kernel
theorem d_X12_init_89 : decode prog_14_method_1_code 89 = .ok (.iconst 5, 1) := by decide +kernel
theorem d_X12_init_90 : decode prog_14_method_1_code 90 = .ok (.newarray .int, 2) := by decide +kernel
theorem d_X12_init_92 : decode prog_14_method_1_code 92 = .ok (.putfield 49, 3) := by decide +kernel
theorem d_X12_init_95 : decode prog_14_method_1_code 95 = .ok (.aload_n 0, 1) := by decide +kernel
theorem d_X12_init_96 : decode prog_14_method_1_code 96 = .ok (.sipush 480, 3) := by decide +kernel
theorem d_X12_init_99 : decode prog_14_method_1_code 99 = .ok (.newarray .int, 2) := by decide +kernel
theorem d_X12_init_101 : decode prog_14_method_1_code 101 = .ok (.putfield 52, 3) := by decide +kernel
theorem d_X12_init_104 : decode prog_14_method_1_code 104 = .ok (.aload_n 0, 1) := by decide +kernel
theorem d_X12_init_105 : decode prog_14_method_1_code 105 = .ok (.sipush 480, 3) := by decide +kernel
theorem d_X12_init_108 : decode prog_14_method_1_code 108 = .ok (.newarray .int, 2) := by decide +kernel
theorem d_X12_init_110 : decode prog_14_method_1_code 110 = .ok (.putfield 55, 3) := by decide +kernel
theorem d_X12_init_113 : decode prog_14_method_1_code 113 = .ok (.aload_n 0, 1) := by decide +kernel
theorem d_X12_init_114 : decode prog_14_method_1_code 114 = .ok (.bipush 20, 2) := by decide +kernel
theorem d_X12_init_116 : decode prog_14_method_1_code 116 = .ok (.newarray .int, 2) := by decide +kernel
theorem d_X12_init_118 : decode prog_14_method_1_code 118 = .ok (.putfield 58, 3) := by decide +kernel
theorem d_X12_init_121 : decode prog_14_method_1_code 121 = .ok (.aload_n 0, 1) := by decide +kernel
theorem d_X12_init_122 : decode prog_14_method_1_code 122 = .ok (.bipush 80, 2) := by decide +kernel
theorem d_X12_init_124 : decode prog_14_method_1_code 124 = .ok (.newarray .int, 2) := by decide +kernel
theorem d_X12_init_126 : decode prog_14_method_1_code 126 = .ok (.putfield 61, 3) := by decide +kernel
theorem d_X12_init_129 : decode prog_14_method_1_code 129 = .ok (.aload_n 0, 1) := by decide +kernel
theorem d_X12_init_130 : decode prog_14_method_1_code 130 = .ok (.bipush 60, 2) := by decide +kernel
theorem d_X12_init_132 : decode prog_14_method_1_code 132 = .ok (.newarray .int, 2) := by decide +kernel
theorem d_X12_init_134 : decode prog_14_method_1_code 134 = .ok (.putfield 64, 3) := by decide +kernel
theorem d_X12_init_137 : decode prog_14_method_1_code 137 = .ok (.aload_n 0, 1) := by decide +kernel
theorem d_X12_init_138 : decode prog_14_method_1_code 138 = .ok (.bipush 60, 2) := by decide +kernel
theorem d_X12_init_140 : decode prog_14_method_1_code 140 = .ok (.newarray .int, 2) := by decide +kernel
theorem d_X12_init_142 : decode prog_14_method_1_code 142 = .ok (.putfield 67, 3) := by decide +kernel
theorem d_X12_init_145 : decode prog_14_method_1_code 145 = .ok (.aload_n 0, 1) := by decide +kernel
theorem d_X12_init_146 : decode prog_14_method_1_code 146 = .ok (.sipush 1200, 3) := by decide +kernel
theorem d_X12_init_149 : decode prog_14_method_1_code 149 = .ok (.newarray .int, 2) := by decide +kernel
theorem d_X12_init_151 : decode prog_14_method_1_code 151 = .ok (.putfield 70, 3) := by decide +kernel
theorem d_X12_init_154 : decode prog_14_method_1_code 154 = .ok (.aload_n 0, 1) := by decide +kernel
theorem d_X12_init_155 : decode prog_14_method_1_code 155 = .ok (.bipush 60, 2) := by decide +kernel
theorem d_X12_init_157 : decode prog_14_method_1_code 157 = .ok (.newarray .int, 2) := by decide +kernel
theorem d_X12_init_159 : decode prog_14_method_1_code 159 = .ok (.putfield 73, 3) := by decide +kernel
theorem d_X12_init_162 : decode prog_14_method_1_code 162 = .ok (.aload_n 0, 1) := by decide +kernel
theorem d_X12_init_163 : decode prog_14_method_1_code 163 = .ok (.bipush 60, 2) := by decide +kernel
theorem d_X12_init_165 : decode prog_14_method_1_code 165 = .ok (.newarray .int, 2) := by decide +kernel
theorem d_X12_init_167 : decode prog_14_method_1_code 167 = .ok (.putfield 76, 3) := by decide +kernel
theorem d_X12_init_170 : decode prog_14_method_1_code 170 = .ok (.aload_n 0, 1) := by decide +kernel
theorem d_X12_init_171 : decode prog_14_method_1_code 171 = .ok (.bipush 60, 2) := by decide +kernel
theorem d_X12_init_173 : decode prog_14_method_1_code 173 = .ok (.newarray .boolean, 2) := by decide +kernel
theorem d_X12_init_175 : decode prog_14_method_1_code 175 = .ok (.putfield 79, 3) := by decide +kernel
theorem d_X12_init_178 : decode prog_14_method_1_code 178 = .ok (.aload_n 0, 1) := by decide +kernel
theorem d_X12_init_179 : decode prog_14_method_1_code 179 = .ok (.iconst 5, 1) := by decide +kernel
theorem d_X12_init_180 : decode prog_14_method_1_code 180 = .ok (.newarray .int, 2) := by decide +kernel
theorem d_X12_init_182 : decode prog_14_method_1_code 182 = .ok (.putfield 82, 3) := by decide +kernel
theorem d_X12_init_185 : decode prog_14_method_1_code 185 = .ok (.aload_n 0, 1) := by decide +kernel
theorem d_X12_init_186 : decode prog_14_method_1_code 186 = .ok (.iconst 5, 1) := by decide +kernel
theorem d_X12_init_187 : decode prog_14_method_1_code 187 = .ok (.newarray .int, 2) := by decide +kernel
theorem d_X12_init_189 : decode prog_14_method_1_code 189 = .ok (.putfield 85, 3) := by decide +kernel
theorem d_X12_init_192 : decode prog_14_method_1_code 192 = .ok (.aload_n 0, 1) := by decide +kernel
theorem d_X12_init_193 : decode prog_14_method_1_code 193 = .ok (.bipush 120, 2) := by decide +kernel
theorem d_X12_init_195 : decode prog_14_method_1_code 195 = .ok (.newarray .int, 2) := by decide +kernel
theorem d_X12_init_197 : decode prog_14_method_1_code 197 = .ok (.putfield 88, 3) := by decide +kernel
theorem d_X12_init_200 : decode prog_14_method_1_code 200 = .ok (.aload_n 0, 1) := by decide +kernel
theorem d_X12_init_201 : decode prog_14_method_1_code 201 = .ok (.bipush 120, 2) := by decide +kernel
theorem d_X12_init_203 : decode prog_14_method_1_code 203 = .ok (.newarray .int, 2) := by decide +kernel
theorem d_X12_init_205 : decode prog_14_method_1_code 205 = .ok (.putfield 91, 3) := by decide +kernel
theorem d_X12_init_208 : decode prog_14_method_1_code 208 = .ok (.aload_n 0, 1) := by decide +kernel
theorem d_X12_init_209 : decode prog_14_method_1_code 209 = .ok (.bipush 120, 2) := by decide +kernel
theorem d_X12_init_211 : decode prog_14_method_1_code 211 = .ok (.newarray .int, 2) := by decide +kernel
theorem d_X12_init_213 : decode prog_14_method_1_code 213 = .ok (.putfield 94, 3) := by decide +kernel
theorem d_X12_init_216 : decode prog_14_method_1_code 216 = .ok (.aload_n 0, 1) := by decide +kernel
theorem d_X12_init_217 : decode prog_14_method_1_code 217 = .ok (.bipush 30, 2) := by decide +kernel
theorem d_X12_init_219 : decode prog_14_method_1_code 219 = .ok (.newarray .int, 2) := by decide +kernel
theorem d_X12_init_221 : decode prog_14_method_1_code 221 = .ok (.putfield 97, 3) := by decide +kernel
theorem d_X12_init_224 : decode prog_14_method_1_code 224 = .ok (.aload_n 0, 1) := by decide +kernel
theorem d_X12_init_225 : decode prog_14_method_1_code 225 = .ok (.bipush 30, 2) := by decide +kernel
theorem d_X12_init_227 : decode prog_14_method_1_code 227 = .ok (.newarray .int, 2) := by decide +kernel
theorem d_X12_init_229 : decode prog_14_method_1_code 229 = .ok (.putfield 100, 3) := by decide +kernel
theorem d_X12_init_232 : decode prog_14_method_1_code 232 = .ok (.aload_n 0, 1) := by decide +kernel
theorem d_X12_init_233 : decode prog_14_method_1_code 233 = .ok (.iconst 5, 1) := by decide +kernel
theorem d_X12_init_234 : decode prog_14_method_1_code 234 = .ok (.newarray .int, 2) := by decide +kernel
theorem d_X12_init_236 : decode prog_14_method_1_code 236 = .ok (.putfield 103, 3) := by decide +kernel
theorem d_X12_init_239 : decode prog_14_method_1_code 239 = .ok (.aload_n 0, 1) := by decide +kernel
theorem d_X12_init_240 : decode prog_14_method_1_code 240 = .ok (.bipush 30, 2) := by decide +kernel
theorem d_X12_init_242 : decode prog_14_method_1_code 242 = .ok (.newarray .int, 2) := by decide +kernel
theorem d_X12_init_244 : decode prog_14_method_1_code 244 = .ok (.putfield 106, 3) := by decide +kernel
theorem d_X12_init_247 : decode prog_14_method_1_code 247 = .ok (.aload_n 0, 1) := by decide +kernel
theorem d_X12_init_248 : decode prog_14_method_1_code 248 = .ok (.sipush 480, 3) := by decide +kernel
theorem d_X12_init_251 : decode prog_14_method_1_code 251 = .ok (.newarray .boolean, 2) := by decide +kernel
theorem d_X12_init_253 : decode prog_14_method_1_code 253 = .ok (.putfield 109, 3) := by decide +kernel
theorem d_X12_init_256 : decode prog_14_method_1_code 256 = .ok (.aload_n 0, 1) := by decide +kernel
theorem d_X12_init_257 : decode prog_14_method_1_code 257 = .ok (.sipush 480, 3) := by decide +kernel
theorem d_X12_init_260 : decode prog_14_method_1_code 260 = .ok (.newarray .int, 2) := by decide +kernel
theorem d_X12_init_262 : decode prog_14_method_1_code 262 = .ok (.putfield 112, 3) := by decide +kernel
theorem d_X12_init_265 : decode prog_14_method_1_code 265 = .ok (.aload_n 0, 1) := by decide +kernel
theorem d_X12_init_266 : decode prog_14_method_1_code 266 = .ok (.iconst 5, 1) := by decide +kernel
theorem d_X12_init_267 : decode prog_14_method_1_code 267 = .ok (.newarray .int, 2) := by decide +kernel
theorem d_X12_init_269 : decode prog_14_method_1_code 269 = .ok (.putfield 115, 3) := by decide +kernel
theorem d_X12_init_272 : decode prog_14_method_1_code 272 = .ok (.aload_n 0, 1) := by decide +kernel
theorem d_X12_init_273 : decode prog_14_method_1_code 273 = .ok (.sipush 200, 3) := by decide +kernel
theorem d_X12_init_276 : decode prog_14_method_1_code 276 = .ok (.newarray .int, 2) := by decide +kernel
theorem d_X12_init_278 : decode prog_14_method_1_code 278 = .ok (.putfield 118, 3) := by decide +kernel
theorem d_X12_init_281 : decode prog_14_method_1_code 281 = .ok (.aload_n 0, 1) := by decide +kernel
theorem d_X12_init_282 : decode prog_14_method_1_code 282 = .ok (.bipush 12, 2) := by decide +kernel
theorem d_X12_init_284 : decode prog_14_method_1_code 284 = .ok (.newarray .int, 2) := by decide +kernel
theorem d_X12_init_286 : decode prog_14_method_1_code 286 = .ok (.putfield 121, 3) := by decide +kernel
theorem d_X12_init_289 : decode prog_14_method_1_code 289 = .ok (.aload_n 0, 1) := by decide +kernel
theorem d_X12_init_290 : decode prog_14_method_1_code 290 = .ok (.bipush 16, 2) := by decide +kernel
theorem d_X12_init_292 : decode prog_14_method_1_code 292 = .ok (.newarray .int, 2) := by decide +kernel
theorem d_X12_init_294 : decode prog_14_method_1_code 294 = .ok (.putfield 124, 3) := by decide +kernel
theorem d_X12_init_297 : decode prog_14_method_1_code 297 = .ok (.aload_n 0, 1) := by decide +kernel
theorem d_X12_init_298 : decode prog_14_method_1_code 298 = .ok (.bipush 12, 2) := by decide +kernel
theorem d_X12_init_300 : decode prog_14_method_1_code 300 = .ok (.newarray .long, 2) := by decide +kernel
theorem d_X12_init_302 : decode prog_14_method_1_code 302 = .ok (.putfield 127, 3) := by decide +kernel
theorem d_X12_init_305 : decode prog_14_method_1_code 305 = .ok (.aload_n 0, 1) := by decide +kernel
theorem d_X12_init_306 : decode prog_14_method_1_code 306 = .ok (.bipush 12, 2) := by decide +kernel
theorem d_X12_init_308 : decode prog_14_method_1_code 308 = .ok (.newarray .long, 2) := by decide +kernel
theorem d_X12_init_310 : decode prog_14_method_1_code 310 = .ok (.putfield 131, 3) := by decide +kernel
theorem d_X12_init_313 : decode prog_14_method_1_code 313 = .ok (.aload_n 0, 1) := by decide +kernel
theorem d_X12_init_314 : decode prog_14_method_1_code 314 = .ok (.bipush 40, 2) := by decide +kernel
theorem d_X12_init_316 : decode prog_14_method_1_code 316 = .ok (.newarray .long, 2) := by decide +kernel
theorem d_X12_init_318 : decode prog_14_method_1_code 318 = .ok (.putfield 134, 3) := by decide +kernel
theorem d_X12_init_321 : decode prog_14_method_1_code 321 = .ok (.aload_n 0, 1) := by decide +kernel
theorem d_X12_init_322 : decode prog_14_method_1_code 322 = .ok (.bipush 40, 2) := by decide +kernel
theorem d_X12_init_324 : decode prog_14_method_1_code 324 = .ok (.newarray .long, 2) := by decide +kernel
theorem d_X12_init_326 : decode prog_14_method_1_code 326 = .ok (.putfield 137, 3) := by decide +kernel
theorem d_X12_init_329 : decode prog_14_method_1_code 329 = .ok (.aload_n 0, 1) := by decide +kernel
theorem d_X12_init_330 : decode prog_14_method_1_code 330 = .ok (.bipush 40, 2) := by decide +kernel
theorem d_X12_init_332 : decode prog_14_method_1_code 332 = .ok (.newarray .long, 2) := by decide +kernel
theorem d_X12_init_334 : decode prog_14_method_1_code 334 = .ok (.putfield 140, 3) := by decide +kernel
theorem d_X12_init_337 : decode prog_14_method_1_code 337 = .ok (.aload_n 0, 1) := by decide +kernel
theorem d_X12_init_338 : decode prog_14_method_1_code 338 = .ok (.bipush 40, 2) := by decide +kernel
theorem d_X12_init_340 : decode prog_14_method_1_code 340 = .ok (.newarray .long, 2) := by decide +kernel
theorem d_X12_init_342 : decode prog_14_method_1_code 342 = .ok (.putfield 143, 3) := by decide +kernel
theorem d_X12_init_345 : decode prog_14_method_1_code 345 = .ok (.aload_n 0, 1) := by decide +kernel
theorem d_X12_init_346 : decode prog_14_method_1_code 346 = .ok (.iconst (-1), 1) := by decide +kernel
theorem d_X12_init_347 : decode prog_14_method_1_code 347 = .ok (.putfield 146, 3) := by decide +kernel
theorem d_X12_init_350 : decode prog_14_method_1_code 350 = .ok (.aload_n 0, 1) := by decide +kernel
theorem d_X12_init_351 : decode prog_14_method_1_code 351 = .ok (.ldc 150, 2) := by decide +kernel
theorem d_X12_init_353 : decode prog_14_method_1_code 353 = .ok (.newarray .int, 2) := by decide +kernel
theorem d_X12_init_355 : decode prog_14_method_1_code 355 = .ok (.putfield 151, 3) := by decide +kernel
theorem d_X12_init_358 : decode prog_14_method_1_code 358 = .ok (.aload_n 0, 1) := by decide +kernel
theorem d_X12_init_359 : decode prog_14_method_1_code 359 = .ok (.ldc 154, 2) := by decide +kernel
theorem d_X12_init_361 : decode prog_14_method_1_code 361 = .ok (.newarray .int, 2) := by decide +kernel
theorem d_X12_init_363 : decode prog_14_method_1_code 363 = .ok (.putfield 155, 3) := by decide +kernel
theorem d_X12_init_366 : decode prog_14_method_1_code 366 = .ok (.aload_n 0, 1) := by decide +kernel
theorem d_X12_init_367 : decode prog_14_method_1_code 367 = .ok (.ldc 158, 2) := by decide +kernel
theorem d_X12_init_369 : decode prog_14_method_1_code 369 = .ok (.newarray .long, 2) := by decide +kernel
theorem d_X12_init_371 : decode prog_14_method_1_code 371 = .ok (.putfield 159, 3) := by decide +kernel
theorem d_X12_init_374 : decode prog_14_method_1_code 374 = .ok (.aload_n 0, 1) := by decide +kernel
theorem d_X12_init_375 : decode prog_14_method_1_code 375 = .ok (.sipush 240, 3) := by decide +kernel
theorem d_X12_init_378 : decode prog_14_method_1_code 378 = .ok (.newarray .boolean, 2) := by decide +kernel
theorem d_X12_init_380 : decode prog_14_method_1_code 380 = .ok (.putfield 162, 3) := by decide +kernel
theorem d_X12_init_383 : decode prog_14_method_1_code 383 = .ok (.aload_n 0, 1) := by decide +kernel
theorem d_X12_init_384 : decode prog_14_method_1_code 384 = .ok (.sipush 240, 3) := by decide +kernel
theorem d_X12_init_387 : decode prog_14_method_1_code 387 = .ok (.newarray .boolean, 2) := by decide +kernel
theorem d_X12_init_389 : decode prog_14_method_1_code 389 = .ok (.putfield 165, 3) := by decide +kernel
theorem d_X12_init_392 : decode prog_14_method_1_code 392 = .ok (.aload_n 0, 1) := by decide +kernel
theorem d_X12_init_393 : decode prog_14_method_1_code 393 = .ok (.sipush 4096, 3) := by decide +kernel
theorem d_X12_init_396 : decode prog_14_method_1_code 396 = .ok (.newarray .boolean, 2) := by decide +kernel
theorem d_X12_init_398 : decode prog_14_method_1_code 398 = .ok (.putfield 168, 3) := by decide +kernel
theorem d_X12_init_401 : decode prog_14_method_1_code 401 = .ok (.aload_n 0, 1) := by decide +kernel
theorem d_X12_init_402 : decode prog_14_method_1_code 402 = .ok (.bipush 12, 2) := by decide +kernel
theorem d_X12_init_404 : decode prog_14_method_1_code 404 = .ok (.newarray .int, 2) := by decide +kernel
theorem d_X12_init_406 : decode prog_14_method_1_code 406 = .ok (.putfield 171, 3) := by decide +kernel
theorem d_X12_init_409 : decode prog_14_method_1_code 409 = .ok (.aload_n 0, 1) := by decide +kernel
theorem d_X12_init_410 : decode prog_14_method_1_code 410 = .ok (.ldc 174, 2) := by decide +kernel
theorem d_X12_init_412 : decode prog_14_method_1_code 412 = .ok (.newarray .long, 2) := by decide +kernel
theorem d_X12_init_414 : decode prog_14_method_1_code 414 = .ok (.putfield 175, 3) := by decide +kernel
theorem d_X12_init_417 : decode prog_14_method_1_code 417 = .ok (.aload_n 0, 1) := by decide +kernel
theorem d_X12_init_418 : decode prog_14_method_1_code 418 = .ok (.sipush 20000, 3) := by decide +kernel
theorem d_X12_init_421 : decode prog_14_method_1_code 421 = .ok (.newarray .boolean, 2) := by decide +kernel
theorem d_X12_init_423 : decode prog_14_method_1_code 423 = .ok (.putfield 178, 3) := by decide +kernel
theorem d_X12_init_426 : decode prog_14_method_1_code 426 = .ok (.aload_n 0, 1) := by decide +kernel
theorem d_X12_init_427 : decode prog_14_method_1_code 427 = .ok (.iconst (-1), 1) := by decide +kernel
theorem d_X12_init_428 : decode prog_14_method_1_code 428 = .ok (.putfield 181, 3) := by decide +kernel
theorem d_X12_init_431 : decode prog_14_method_1_code 431 = .ok (.aload_n 0, 1) := by decide +kernel
theorem d_X12_init_432 : decode prog_14_method_1_code 432 = .ok (.bipush 12, 2) := by decide +kernel
theorem d_X12_init_434 : decode prog_14_method_1_code 434 = .ok (.newarray .int, 2) := by decide +kernel
theorem d_X12_init_436 : decode prog_14_method_1_code 436 = .ok (.putfield 184, 3) := by decide +kernel
theorem d_X12_init_439 : decode prog_14_method_1_code 439 = .ok (.aload_n 0, 1) := by decide +kernel
theorem d_X12_init_440 : decode prog_14_method_1_code 440 = .ok (.bipush 12, 2) := by decide +kernel
theorem d_X12_init_442 : decode prog_14_method_1_code 442 = .ok (.newarray .int, 2) := by decide +kernel
theorem d_X12_init_444 : decode prog_14_method_1_code 444 = .ok (.putfield 187, 3) := by decide +kernel
theorem d_X12_init_447 : decode prog_14_method_1_code 447 = .ok (.aload_n 0, 1) := by decide +kernel
theorem d_X12_init_448 : decode prog_14_method_1_code 448 = .ok (.bipush 20, 2) := by decide +kernel
theorem d_X12_init_450 : decode prog_14_method_1_code 450 = .ok (.newarray .int, 2) := by decide +kernel
theorem d_X12_init_452 : decode prog_14_method_1_code 452 = .ok (.putfield 190, 3) := by decide +kernel
theorem d_X12_init_455 : decode prog_14_method_1_code 455 = .ok (.aload_n 0, 1) := by decide +kernel
theorem d_X12_init_456 : decode prog_14_method_1_code 456 = .ok (.bipush 12, 2) := by decide +kernel
theorem d_X12_init_458 : decode prog_14_method_1_code 458 = .ok (.newarray .int, 2) := by decide +kernel
theorem d_X12_init_460 : decode prog_14_method_1_code 460 = .ok (.putfield 193, 3) := by decide +kernel
theorem d_X12_init_463 : decode prog_14_method_1_code 463 = .ok (.aload_n 0, 1) := by decide +kernel
theorem d_X12_init_464 : decode prog_14_method_1_code 464 = .ok (.iconst 3, 1) := by decide +kernel
theorem d_X12_init_465 : decode prog_14_method_1_code 465 = .ok (.newarray .long, 2) := by decide +kernel
theorem d_X12_init_467 : decode prog_14_method_1_code 467 = .ok (.putfield 196, 3) := by decide +kernel
theorem d_X12_init_470 : decode prog_14_method_1_code 470 = .ok (.aload_n 0, 1) := by decide +kernel
theorem d_X12_init_471 : decode prog_14_method_1_code 471 = .ok (.bipush 30, 2) := by decide +kernel
theorem d_X12_init_473 : decode prog_14_method_1_code 473 = .ok (.newarray .long, 2) := by decide +kernel
theorem d_X12_init_475 : decode prog_14_method_1_code 475 = .ok (.putfield 199, 3) := by decide +kernel
theorem d_X12_init_478 : decode prog_14_method_1_code 478 = .ok (.aload_n 0, 1) := by decide +kernel
theorem d_X12_init_479 : decode prog_14_method_1_code 479 = .ok (.sipush 20001, 3) := by decide +kernel
theorem d_X12_init_482 : decode prog_14_method_1_code 482 = .ok (.newarray .byte, 2) := by decide +kernel
theorem d_X12_init_484 : decode prog_14_method_1_code 484 = .ok (.putfield 202, 3) := by decide +kernel
theorem d_X12_init_487 : decode prog_14_method_1_code 487 = .ok (.aload_n 0, 1) := by decide +kernel
theorem d_X12_init_488 : decode prog_14_method_1_code 488 = .ok (.sipush 20000, 3) := by decide +kernel
theorem d_X12_init_491 : decode prog_14_method_1_code 491 = .ok (.newarray .byte, 2) := by decide +kernel
theorem d_X12_init_493 : decode prog_14_method_1_code 493 = .ok (.putfield 205, 3) := by decide +kernel
theorem d_X12_init_496 : decode prog_14_method_1_code 496 = .ok (.aload_n 0, 1) := by decide +kernel
theorem d_X12_init_497 : decode prog_14_method_1_code 497 = .ok (.bipush 101, 2) := by decide +kernel
theorem d_X12_init_499 : decode prog_14_method_1_code 499 = .ok (.newarray .int, 2) := by decide +kernel
theorem d_X12_init_501 : decode prog_14_method_1_code 501 = .ok (.putfield 208, 3) := by decide +kernel
theorem d_X12_init_504 : decode prog_14_method_1_code 504 = .ok (.aload_n 0, 1) := by decide +kernel
theorem d_X12_init_505 : decode prog_14_method_1_code 505 = .ok (.iconst (-1), 1) := by decide +kernel
theorem d_X12_init_506 : decode prog_14_method_1_code 506 = .ok (.putfield 211, 3) := by decide +kernel
theorem d_X12_init_509 : decode prog_14_method_1_code 509 = .ok (.aload_n 0, 1) := by decide +kernel
theorem d_X12_init_510 : decode prog_14_method_1_code 510 = .ok (.sipush 2048, 3) := by decide +kernel
theorem d_X12_init_513 : decode prog_14_method_1_code 513 = .ok (.newarray .int, 2) := by decide +kernel
theorem d_X12_init_515 : decode prog_14_method_1_code 515 = .ok (.putfield 214, 3) := by decide +kernel
theorem d_X12_init_518 : decode prog_14_method_1_code 518 = .ok (.return_, 1) := by decide +kernel
theorem v_X12_init_0 {E : EE} {d : Nat} {Q : Option AV → AH → Prop} {x0 : Nat} {G : AH} (h0 : 0 < d) (h : isO E G x0 12 ∧ (eB E ≤ gT G ∧ (∀ G6 : AH, G6 = nw G 13 (Int32.toNatClampNeg 20000) (Int32.toNatClampNeg 20000) → ∀ G10 : AH, G10 = sR G6 x0 0 (gT G) → ∀ G13 : AH, G13 = sJ G10 x0 3 1 → ∀ G19 : AH, G19 = nw G13 16 (Int32.toNatClampNeg 5) (Int32.toNatClampNeg 5) → ∀ G23 : AH, G23 = sR G19 x0 5 (gT G13) → ∀ G29 : AH, G29 = nw G23 13 (Int32.toNatClampNeg 100000) (Int32.toNatClampNeg 100000) → ∀ G33 : AH, G33 = sR G29 x0 6 (gT G23) → ∀ G39 : AH, G39 = nw G33 14 (Int32.toNatClampNeg 5) (Int32.toNatClampNeg 5) → ∀ G43 : AH, G43 = sR G39 x0 7 (gT G33) → ∀ G49 : AH, G49 = nw G43 14 (Int32.toNatClampNeg 100000) (Int32.toNatClampNeg 100000) → ∀ G53 : AH, G53 = sR G49 x0 8 (gT G43) → ∀ G59 : AH, G59 = nw G53 14 (Int32.toNatClampNeg 100000) (Int32.toNatClampNeg 100000) → ∀ G63 : AH, G63 = sR G59 x0 9 (gT G53) → ∀ G69 : AH, G69 = nw G63 14 (Int32.toNatClampNeg 100000) (Int32.toNatClampNeg 100000) → ∀ G73 : AH, G73 = sR G69 x0 10 (gT G63) → ∀ G79 : AH, G79 = nw G73 14 (Int32.toNatClampNeg 100000) (Int32.toNatClampNeg 100000) → ∀ G83 : AH, G83 = sR G79 x0 11 (gT G73) → ∀ G89 : AH, G89 = nw G83 14 (Int32.toNatClampNeg 5) (Int32.toNatClampNeg 5) → ∀ G93 : AH, G93 = sR G89 x0 12 (gT G83) → ∀ G99 : AH, G99 = nw G93 14 (Int32.toNatClampNeg 320) (Int32.toNatClampNeg 320) → ∀ G103 : AH, G103 = sR G99 x0 13 (gT G93) → ∀ G109 : AH, G109 = nw G103 14 (Int32.toNatClampNeg 5) (Int32.toNatClampNeg 5) → ∀ G113 : AH, G113 = sR G109 x0 14 (gT G103) → ∀ G119 : AH, G119 = nw G113 14 (Int32.toNatClampNeg 480) (Int32.toNatClampNeg 480) → ∀ G123 : AH, G123 = sR G119 x0 15 (gT G113) → ∀ G129 : AH, G129 = nw G123 14 (Int32.toNatClampNeg 480) (Int32.toNatClampNeg 480) → ∀ G133 : AH, G133 = sR G129 x0 16 (gT G123) → ∀ G139 : AH, G139 = nw G133 14 (Int32.toNatClampNeg 20) (Int32.toNatClampNeg 20) → ∀ G143 : AH, G143 = sR G139 x0 17 (gT G133) → ∀ G149 : AH, G149 = nw G143 14 (Int32.toNatClampNeg 80) (Int32.toNatClampNeg 80) → ∀ G153 : AH, G153 = sR G149 x0 18 (gT G143) → ∀ G159 : AH, G159 = nw G153 14 (Int32.toNatClampNeg 60) (Int32.toNatClampNeg 60) → ∀ G163 : AH, G163 = sR G159 x0 19 (gT G153) → ∀ G169 : AH, G169 = nw G163 14 (Int32.toNatClampNeg 60) (Int32.toNatClampNeg 60) → ∀ G173 : AH, G173 = sR G169 x0 20 (gT G163) → ∀ G179 : AH, G179 = nw G173 14 (Int32.toNatClampNeg 1200) (Int32.toNatClampNeg 1200) → ∀ G183 : AH, G183 = sR G179 x0 21 (gT G173) → ∀ G189 : AH, G189 = nw G183 14 (Int32.toNatClampNeg 60) (Int32.toNatClampNeg 60) → ∀ G193 : AH, G193 = sR G189 x0 22 (gT G183) → ∀ G199 : AH, G199 = nw G193 14 (Int32.toNatClampNeg 60) (Int32.toNatClampNeg 60) → ∀ G203 : AH, G203 = sR G199 x0 23 (gT G193) → ∀ G209 : AH, G209 = nw G203 16 (Int32.toNatClampNeg 60) (Int32.toNatClampNeg 60) → ∀ G213 : AH, G213 = sR G209 x0 24 (gT G203) → ∀ G219 : AH, G219 = nw G213 14 (Int32.toNatClampNeg 5) (Int32.toNatClampNeg 5) → ∀ G223 : AH, G223 = sR G219 x0 25 (gT G213) → ∀ G229 : AH, G229 = nw G223 14 (Int32.toNatClampNeg 5) (Int32.toNatClampNeg 5) → ∀ G233 : AH, G233 = sR G229 x0 26 (gT G223) → ∀ G239 : AH, G239 = nw G233 14 (Int32.toNatClampNeg 120) (Int32.toNatClampNeg 120) → ∀ G243 : AH, G243 = sR G239 x0 27 (gT G233) → ∀ G249 : AH, G249 = nw G243 14 (Int32.toNatClampNeg 120) (Int32.toNatClampNeg 120) → ∀ G253 : AH, G253 = sR G249 x0 28 (gT G243) → ∀ G259 : AH, G259 = nw G253 14 (Int32.toNatClampNeg 120) (Int32.toNatClampNeg 120) → ∀ G263 : AH, G263 = sR G259 x0 29 (gT G253) → ∀ G269 : AH, G269 = nw G263 14 (Int32.toNatClampNeg 30) (Int32.toNatClampNeg 30) → ∀ G273 : AH, G273 = sR G269 x0 30 (gT G263) → ∀ G279 : AH, G279 = nw G273 14 (Int32.toNatClampNeg 30) (Int32.toNatClampNeg 30) → ∀ G283 : AH, G283 = sR G279 x0 31 (gT G273) → ∀ G289 : AH, G289 = nw G283 14 (Int32.toNatClampNeg 5) (Int32.toNatClampNeg 5) → ∀ G293 : AH, G293 = sR G289 x0 32 (gT G283) → ∀ G299 : AH, G299 = nw G293 14 (Int32.toNatClampNeg 30) (Int32.toNatClampNeg 30) → ∀ G303 : AH, G303 = sR G299 x0 33 (gT G293) → ∀ G309 : AH, G309 = nw G303 16 (Int32.toNatClampNeg 480) (Int32.toNatClampNeg 480) → ∀ G313 : AH, G313 = sR G309 x0 34 (gT G303) → ∀ G319 : AH, G319 = nw G313 14 (Int32.toNatClampNeg 480) (Int32.toNatClampNeg 480) → ∀ G323 : AH, G323 = sR G319 x0 35 (gT G313) → ∀ G329 : AH, G329 = nw G323 14 (Int32.toNatClampNeg 5) (Int32.toNatClampNeg 5) → ∀ G333 : AH, G333 = sR G329 x0 36 (gT G323) → ∀ G339 : AH, G339 = nw G333 14 (Int32.toNatClampNeg 200) (Int32.toNatClampNeg 200) → ∀ G343 : AH, G343 = sR G339 x0 49 (gT G333) → ∀ G349 : AH, G349 = nw G343 14 (Int32.toNatClampNeg 12) (Int32.toNatClampNeg 12) → ∀ G353 : AH, G353 = sR G349 x0 52 (gT G343) → ∀ G359 : AH, G359 = nw G353 14 (Int32.toNatClampNeg 16) (Int32.toNatClampNeg 16) → ∀ G363 : AH, G363 = sR G359 x0 53 (gT G353) → ∀ G369 : AH, G369 = nw G363 15 (Int32.toNatClampNeg 12) (Int32.toNatClampNeg 12) → ∀ G373 : AH, G373 = sR G369 x0 55 (gT G363) → ∀ G379 : AH, G379 = nw G373 15 (Int32.toNatClampNeg 12) (Int32.toNatClampNeg 12) → ∀ G383 : AH, G383 = sR G379 x0 56 (gT G373) → ∀ G389 : AH, G389 = nw G383 15 (Int32.toNatClampNeg 40) (Int32.toNatClampNeg 40) → ∀ G393 : AH, G393 = sR G389 x0 58 (gT G383) → ∀ G399 : AH, G399 = nw G393 15 (Int32.toNatClampNeg 40) (Int32.toNatClampNeg 40) → ∀ G403 : AH, G403 = sR G399 x0 59 (gT G393) → ∀ G409 : AH, G409 = nw G403 15 (Int32.toNatClampNeg 40) (Int32.toNatClampNeg 40) → ∀ G413 : AH, G413 = sR G409 x0 60 (gT G403) → ∀ G419 : AH, G419 = nw G413 15 (Int32.toNatClampNeg 40) (Int32.toNatClampNeg 40) → ∀ G423 : AH, G423 = sR G419 x0 61 (gT G413) → ∀ G426 : AH, G426 = sI G423 x0 62 (-1) → ∀ G432 : AH, G432 = nw G426 14 (Int32.toNatClampNeg 480000) (Int32.toNatClampNeg 480000) → ∀ G436 : AH, G436 = sR G432 x0 64 (gT G426) → ∀ G442 : AH, G442 = nw G436 14 (Int32.toNatClampNeg 120000) (Int32.toNatClampNeg 120000) → ∀ G446 : AH, G446 = sR G442 x0 65 (gT G436) → ∀ G452 : AH, G452 = nw G446 15 (Int32.toNatClampNeg 60000) (Int32.toNatClampNeg 60000) → ∀ G456 : AH, G456 = sR G452 x0 66 (gT G446) → ∀ G462 : AH, G462 = nw G456 16 (Int32.toNatClampNeg 240) (Int32.toNatClampNeg 240) → ∀ G466 : AH, G466 = sR G462 x0 67 (gT G456) → ∀ G472 : AH, G472 = nw G466 16 (Int32.toNatClampNeg 240) (Int32.toNatClampNeg 240) → ∀ G476 : AH, G476 = sR G472 x0 68 (gT G466) → ∀ G482 : AH, G482 = nw G476 16 (Int32.toNatClampNeg 4096) (Int32.toNatClampNeg 4096) → ∀ G486 : AH, G486 = sR G482 x0 71 (gT G476) → ∀ G492 : AH, G492 = nw G486 14 (Int32.toNatClampNeg 12) (Int32.toNatClampNeg 12) → ∀ G496 : AH, G496 = sR G492 x0 72 (gT G486) → ∀ G502 : AH, G502 = nw G496 15 (Int32.toNatClampNeg 40000) (Int32.toNatClampNeg 40000) → ∀ G506 : AH, G506 = sR G502 x0 74 (gT G496) → ∀ G512 : AH, G512 = nw G506 16 (Int32.toNatClampNeg 20000) (Int32.toNatClampNeg 20000) → ∀ G516 : AH, G516 = sR G512 x0 75 (gT G506) → ∀ G519 : AH, G519 = sI G516 x0 78 (-1) → ∀ G525 : AH, G525 = nw G519 14 (Int32.toNatClampNeg 12) (Int32.toNatClampNeg 12) → ∀ G529 : AH, G529 = sR G525 x0 80 (gT G519) → ∀ G535 : AH, G535 = nw G529 14 (Int32.toNatClampNeg 12) (Int32.toNatClampNeg 12) → ∀ G539 : AH, G539 = sR G535 x0 81 (gT G529) → ∀ G545 : AH, G545 = nw G539 14 (Int32.toNatClampNeg 20) (Int32.toNatClampNeg 20) → ∀ G549 : AH, G549 = sR G545 x0 82 (gT G539) → ∀ G555 : AH, G555 = nw G549 14 (Int32.toNatClampNeg 12) (Int32.toNatClampNeg 12) → ∀ G559 : AH, G559 = sR G555 x0 83 (gT G549) → ∀ G565 : AH, G565 = nw G559 15 (Int32.toNatClampNeg 3) (Int32.toNatClampNeg 3) → ∀ G569 : AH, G569 = sR G565 x0 85 (gT G559) → ∀ G575 : AH, G575 = nw G569 15 (Int32.toNatClampNeg 30) (Int32.toNatClampNeg 30) → ∀ G579 : AH, G579 = sR G575 x0 86 (gT G569) → ∀ G585 : AH, G585 = nw G579 13 (Int32.toNatClampNeg 20001) (Int32.toNatClampNeg 20001) → ∀ G589 : AH, G589 = sR G585 x0 87 (gT G579) → ∀ G595 : AH, G595 = nw G589 13 (Int32.toNatClampNeg 20000) (Int32.toNatClampNeg 20000) → ∀ G599 : AH, G599 = sR G595 x0 88 (gT G589) → ∀ G605 : AH, G605 = nw G599 14 (Int32.toNatClampNeg 101) (Int32.toNatClampNeg 101) → ∀ G609 : AH, G609 = sR G605 x0 90 (gT G599) → ∀ G612 : AH, G612 = sI G609 x0 92 (-1) → ∀ G618 : AH, G618 = nw G612 14 (Int32.toNatClampNeg 2048) (Int32.toNatClampNeg 2048) → ∀ G622 : AH, G622 = sR G618 x0 94 (gT G612) → Q none G622))) : wp E d M_X12_init 0 [some (vr x0)] [] G Q := by
  refine wp_aload_n (pc := 0) d_X12_init_0 rfl ?_
  obtain ⟨ho1, h⟩ := h
  refine wp_objI (pc := 1) d_X12_init_1 ml_X12_3 in_obj mc_obj h0 ho1 (Nat.le_of_ble_eq_true rfl) ?_
  refine wp_aload_n (pc := 4) d_X12_init_4 rfl ?_
  refine wp_sipush (pc := 5) (v := 20000) d_X12_init_5 rfl ?_
  obtain ⟨hb2, h⟩ := h
  refine wp_newa (pc := 8) (t0 := 0) (kd := 13) d_X12_init_8 rfl (fun _ q => by cases q) ac_byte (by decide) (fun _ => rfl) rfl (by decide) (by decide) (by decide) ?_
  refine wp_nm (fun G6 eG6 => ?_)
  have h := h G6 eG6
  have ho7 := isO_nwE eG6 ho1
  have hb8 := base_nwE eG6 hb2
  have ho9 := isO_newE eG6 hb2
  refine wp_putR (pc := 10) d_X12_init_10 fl_X12_9 (fun _ _ _ => rfl) (Or.inr ⟨_, rfl⟩) (Or.inr ⟨rfl, rfl, rfl⟩) ho7 ?_
  refine wp_nm (fun G10 eG10 => ?_)
  have h := h G10 eG10
  have ho11 := isO_sR eG10 ho7
  have hb12 := base_sR eG10 hb8
  refine wp_aload_n (pc := 13) d_X12_init_13 rfl ?_
  refine wp_lconst (pc := 14) (v := 1) d_X12_init_14 rfl ?_
  refine wp_putJ (pc := 15) d_X12_init_15 fl_X12_15 (fun _ _ _ => rfl) rfl (Or.inl rfl) ho11 ?_
  refine wp_nm (fun G13 eG13 => ?_)
  have h := h G13 eG13
  have ho14 := isO_sJ eG13 ho11
  have hb15 := base_sJ eG13 hb12
  refine wp_aload_n (pc := 18) d_X12_init_18 rfl ?_
  refine wp_iconst (pc := 19) (v := 5) d_X12_init_19 rfl ?_
  refine wp_newa (pc := 20) (t0 := 3) (kd := 16) d_X12_init_20 rfl (fun _ q => by cases q) ac_boolean (by decide) (fun _ => rfl) rfl (by decide) (by decide) (by decide) ?_
  refine wp_nm (fun G19 eG19 => ?_)
  have h := h G19 eG19
  have ho20 := isO_nwE eG19 ho14
  have hb21 := base_nwE eG19 hb15
  have ho22 := isO_newE eG19 hb15
  refine wp_putR (pc := 22) d_X12_init_22 fl_X12_19 (fun _ _ _ => rfl) (Or.inr ⟨_, rfl⟩) (Or.inr ⟨rfl, rfl, rfl⟩) ho20 ?_
  refine wp_nm (fun G23 eG23 => ?_)
  have h := h G23 eG23
  have ho24 := isO_sR eG23 ho20
  have hb25 := base_sR eG23 hb21
  refine wp_aload_n (pc := 25) d_X12_init_25 rfl ?_
  refine wp_ldc (pc := 26) (v := 100000) d_X12_init_26 ci_X12_23 ?_
  refine wp_newa (pc := 28) (t0 := 0) (kd := 13) d_X12_init_28 rfl (fun _ q => by cases q) ac_byte (by decide) (fun _ => rfl) rfl (by decide) (by decide) (by decide) ?_
  refine wp_nm (fun G29 eG29 => ?_)
  have h := h G29 eG29
  have ho30 := isO_nwE eG29 ho24
  have hb31 := base_nwE eG29 hb25
  have ho32 := isO_newE eG29 hb25
  refine wp_putR (pc := 30) d_X12_init_30 fl_X12_24 (fun _ _ _ => rfl) (Or.inr ⟨_, rfl⟩) (Or.inr ⟨rfl, rfl, rfl⟩) ho30 ?_
  refine wp_nm (fun G33 eG33 => ?_)
  have h := h G33 eG33
  have ho34 := isO_sR eG33 ho30
  have hb35 := base_sR eG33 hb31
  refine wp_aload_n (pc := 33) d_X12_init_33 rfl ?_
  refine wp_iconst (pc := 34) (v := 5) d_X12_init_34 rfl ?_
  refine wp_newa (pc := 35) (t0 := 1) (kd := 14) d_X12_init_35 rfl (fun _ q => by cases q) ac_int (by decide) (fun _ => rfl) rfl (by decide) (by decide) (by decide) ?_
  refine wp_nm (fun G39 eG39 => ?_)
  have h := h G39 eG39
  have ho40 := isO_nwE eG39 ho34
  have hb41 := base_nwE eG39 hb35
  have ho42 := isO_newE eG39 hb35
  refine wp_putR (pc := 37) d_X12_init_37 fl_X12_27 (fun _ _ _ => rfl) (Or.inr ⟨_, rfl⟩) (Or.inr ⟨rfl, rfl, rfl⟩) ho40 ?_
  refine wp_nm (fun G43 eG43 => ?_)
  have h := h G43 eG43
  have ho44 := isO_sR eG43 ho40
  have hb45 := base_sR eG43 hb41
  refine wp_aload_n (pc := 40) d_X12_init_40 rfl ?_
  refine wp_ldc (pc := 41) (v := 100000) d_X12_init_41 ci_X12_23 ?_
  refine wp_newa (pc := 43) (t0 := 1) (kd := 14) d_X12_init_43 rfl (fun _ q => by cases q) ac_int (by decide) (fun _ => rfl) rfl (by decide) (by decide) (by decide) ?_
  refine wp_nm (fun G49 eG49 => ?_)
  have h := h G49 eG49
  have ho50 := isO_nwE eG49 ho44
  have hb51 := base_nwE eG49 hb45
  have ho52 := isO_newE eG49 hb45
  refine wp_putR (pc := 45) d_X12_init_45 fl_X12_31 (fun _ _ _ => rfl) (Or.inr ⟨_, rfl⟩) (Or.inr ⟨rfl, rfl, rfl⟩) ho50 ?_
  refine wp_nm (fun G53 eG53 => ?_)
  have h := h G53 eG53
  have ho54 := isO_sR eG53 ho50
  have hb55 := base_sR eG53 hb51
  refine wp_aload_n (pc := 48) d_X12_init_48 rfl ?_
  refine wp_ldc (pc := 49) (v := 100000) d_X12_init_49 ci_X12_23 ?_
  refine wp_newa (pc := 51) (t0 := 1) (kd := 14) d_X12_init_51 rfl (fun _ q => by cases q) ac_int (by decide) (fun _ => rfl) rfl (by decide) (by decide) (by decide) ?_
  refine wp_nm (fun G59 eG59 => ?_)
  have h := h G59 eG59
  have ho60 := isO_nwE eG59 ho54
  have hb61 := base_nwE eG59 hb55
  have ho62 := isO_newE eG59 hb55
  refine wp_putR (pc := 53) d_X12_init_53 fl_X12_34 (fun _ _ _ => rfl) (Or.inr ⟨_, rfl⟩) (Or.inr ⟨rfl, rfl, rfl⟩) ho60 ?_
  refine wp_nm (fun G63 eG63 => ?_)
  have h := h G63 eG63
  have ho64 := isO_sR eG63 ho60
  have hb65 := base_sR eG63 hb61
  refine wp_aload_n (pc := 56) d_X12_init_56 rfl ?_
  refine wp_ldc (pc := 57) (v := 100000) d_X12_init_57 ci_X12_23 ?_
  refine wp_newa (pc := 59) (t0 := 1) (kd := 14) d_X12_init_59 rfl (fun _ q => by cases q) ac_int (by decide) (fun _ => rfl) rfl (by decide) (by decide) (by decide) ?_
  refine wp_nm (fun G69 eG69 => ?_)
  have h := h G69 eG69
  have ho70 := isO_nwE eG69 ho64
  have hb71 := base_nwE eG69 hb65
  have ho72 := isO_newE eG69 hb65
  refine wp_putR (pc := 61) d_X12_init_61 fl_X12_37 (fun _ _ _ => rfl) (Or.inr ⟨_, rfl⟩) (Or.inr ⟨rfl, rfl, rfl⟩) ho70 ?_
  refine wp_nm (fun G73 eG73 => ?_)
  have h := h G73 eG73
  have ho74 := isO_sR eG73 ho70
  have hb75 := base_sR eG73 hb71
  refine wp_aload_n (pc := 64) d_X12_init_64 rfl ?_
  refine wp_ldc (pc := 65) (v := 100000) d_X12_init_65 ci_X12_23 ?_
  refine wp_newa (pc := 67) (t0 := 1) (kd := 14) d_X12_init_67 rfl (fun _ q => by cases q) ac_int (by decide) (fun _ => rfl) rfl (by decide) (by decide) (by decide) ?_
  refine wp_nm (fun G79 eG79 => ?_)
  have h := h G79 eG79
  have ho80 := isO_nwE eG79 ho74
  have hb81 := base_nwE eG79 hb75
  have ho82 := isO_newE eG79 hb75
  refine wp_putR (pc := 69) d_X12_init_69 fl_X12_40 (fun _ _ _ => rfl) (Or.inr ⟨_, rfl⟩) (Or.inr ⟨rfl, rfl, rfl⟩) ho80 ?_
  refine wp_nm (fun G83 eG83 => ?_)
  have h := h G83 eG83
  have ho84 := isO_sR eG83 ho80
  have hb85 := base_sR eG83 hb81
  refine wp_aload_n (pc := 72) d_X12_init_72 rfl ?_
  refine wp_iconst (pc := 73) (v := 5) d_X12_init_73 rfl ?_
  refine wp_newa (pc := 74) (t0 := 1) (kd := 14) d_X12_init_74 rfl (fun _ q => by cases q) ac_int (by decide) (fun _ => rfl) rfl (by decide) (by decide) (by decide) ?_
  refine wp_nm (fun G89 eG89 => ?_)
  have h := h G89 eG89
  have ho90 := isO_nwE eG89 ho84
  have hb91 := base_nwE eG89 hb85
  have ho92 := isO_newE eG89 hb85
  refine wp_putR (pc := 76) d_X12_init_76 fl_X12_43 (fun _ _ _ => rfl) (Or.inr ⟨_, rfl⟩) (Or.inr ⟨rfl, rfl, rfl⟩) ho90 ?_
  refine wp_nm (fun G93 eG93 => ?_)
  have h := h G93 eG93
  have ho94 := isO_sR eG93 ho90
  have hb95 := base_sR eG93 hb91
  refine wp_aload_n (pc := 79) d_X12_init_79 rfl ?_
  refine wp_sipush (pc := 80) (v := 320) d_X12_init_80 rfl ?_
  refine wp_newa (pc := 83) (t0 := 1) (kd := 14) d_X12_init_83 rfl (fun _ q => by cases q) ac_int (by decide) (fun _ => rfl) rfl (by decide) (by decide) (by decide) ?_
  refine wp_nm (fun G99 eG99 => ?_)
  have h := h G99 eG99
  have ho100 := isO_nwE eG99 ho94
  have hb101 := base_nwE eG99 hb95
  have ho102 := isO_newE eG99 hb95
  refine wp_putR (pc := 85) d_X12_init_85 fl_X12_46 (fun _ _ _ => rfl) (Or.inr ⟨_, rfl⟩) (Or.inr ⟨rfl, rfl, rfl⟩) ho100 ?_
  refine wp_nm (fun G103 eG103 => ?_)
  have h := h G103 eG103
  have ho104 := isO_sR eG103 ho100
  have hb105 := base_sR eG103 hb101
  refine wp_aload_n (pc := 88) d_X12_init_88 rfl ?_
  refine wp_iconst (pc := 89) (v := 5) d_X12_init_89 rfl ?_
  refine wp_newa (pc := 90) (t0 := 1) (kd := 14) d_X12_init_90 rfl (fun _ q => by cases q) ac_int (by decide) (fun _ => rfl) rfl (by decide) (by decide) (by decide) ?_
  refine wp_nm (fun G109 eG109 => ?_)
  have h := h G109 eG109
  have ho110 := isO_nwE eG109 ho104
  have hb111 := base_nwE eG109 hb105
  have ho112 := isO_newE eG109 hb105
  refine wp_putR (pc := 92) d_X12_init_92 fl_X12_49 (fun _ _ _ => rfl) (Or.inr ⟨_, rfl⟩) (Or.inr ⟨rfl, rfl, rfl⟩) ho110 ?_
  refine wp_nm (fun G113 eG113 => ?_)
  have h := h G113 eG113
  have ho114 := isO_sR eG113 ho110
  have hb115 := base_sR eG113 hb111
  refine wp_aload_n (pc := 95) d_X12_init_95 rfl ?_
  refine wp_sipush (pc := 96) (v := 480) d_X12_init_96 rfl ?_
  refine wp_newa (pc := 99) (t0 := 1) (kd := 14) d_X12_init_99 rfl (fun _ q => by cases q) ac_int (by decide) (fun _ => rfl) rfl (by decide) (by decide) (by decide) ?_
  refine wp_nm (fun G119 eG119 => ?_)
  have h := h G119 eG119
  have ho120 := isO_nwE eG119 ho114
  have hb121 := base_nwE eG119 hb115
  have ho122 := isO_newE eG119 hb115
  refine wp_putR (pc := 101) d_X12_init_101 fl_X12_52 (fun _ _ _ => rfl) (Or.inr ⟨_, rfl⟩) (Or.inr ⟨rfl, rfl, rfl⟩) ho120 ?_
  refine wp_nm (fun G123 eG123 => ?_)
  have h := h G123 eG123
  have ho124 := isO_sR eG123 ho120
  have hb125 := base_sR eG123 hb121
  refine wp_aload_n (pc := 104) d_X12_init_104 rfl ?_
  refine wp_sipush (pc := 105) (v := 480) d_X12_init_105 rfl ?_
  refine wp_newa (pc := 108) (t0 := 1) (kd := 14) d_X12_init_108 rfl (fun _ q => by cases q) ac_int (by decide) (fun _ => rfl) rfl (by decide) (by decide) (by decide) ?_
  refine wp_nm (fun G129 eG129 => ?_)
  have h := h G129 eG129
  have ho130 := isO_nwE eG129 ho124
  have hb131 := base_nwE eG129 hb125
  have ho132 := isO_newE eG129 hb125
  refine wp_putR (pc := 110) d_X12_init_110 fl_X12_55 (fun _ _ _ => rfl) (Or.inr ⟨_, rfl⟩) (Or.inr ⟨rfl, rfl, rfl⟩) ho130 ?_
  refine wp_nm (fun G133 eG133 => ?_)
  have h := h G133 eG133
  have ho134 := isO_sR eG133 ho130
  have hb135 := base_sR eG133 hb131
  refine wp_aload_n (pc := 113) d_X12_init_113 rfl ?_
  refine wp_bipush (pc := 114) (v := 20) d_X12_init_114 rfl ?_
  refine wp_newa (pc := 116) (t0 := 1) (kd := 14) d_X12_init_116 rfl (fun _ q => by cases q) ac_int (by decide) (fun _ => rfl) rfl (by decide) (by decide) (by decide) ?_
  refine wp_nm (fun G139 eG139 => ?_)
  have h := h G139 eG139
  have ho140 := isO_nwE eG139 ho134
  have hb141 := base_nwE eG139 hb135
  have ho142 := isO_newE eG139 hb135
  refine wp_putR (pc := 118) d_X12_init_118 fl_X12_58 (fun _ _ _ => rfl) (Or.inr ⟨_, rfl⟩) (Or.inr ⟨rfl, rfl, rfl⟩) ho140 ?_
  refine wp_nm (fun G143 eG143 => ?_)
  have h := h G143 eG143
  have ho144 := isO_sR eG143 ho140
  have hb145 := base_sR eG143 hb141
  refine wp_aload_n (pc := 121) d_X12_init_121 rfl ?_
  refine wp_bipush (pc := 122) (v := 80) d_X12_init_122 rfl ?_
  refine wp_newa (pc := 124) (t0 := 1) (kd := 14) d_X12_init_124 rfl (fun _ q => by cases q) ac_int (by decide) (fun _ => rfl) rfl (by decide) (by decide) (by decide) ?_
  refine wp_nm (fun G149 eG149 => ?_)
  have h := h G149 eG149
  have ho150 := isO_nwE eG149 ho144
  have hb151 := base_nwE eG149 hb145
  have ho152 := isO_newE eG149 hb145
  refine wp_putR (pc := 126) d_X12_init_126 fl_X12_61 (fun _ _ _ => rfl) (Or.inr ⟨_, rfl⟩) (Or.inr ⟨rfl, rfl, rfl⟩) ho150 ?_
  refine wp_nm (fun G153 eG153 => ?_)
  have h := h G153 eG153
  have ho154 := isO_sR eG153 ho150
  have hb155 := base_sR eG153 hb151
  refine wp_aload_n (pc := 129) d_X12_init_129 rfl ?_
  refine wp_bipush (pc := 130) (v := 60) d_X12_init_130 rfl ?_
  refine wp_newa (pc := 132) (t0 := 1) (kd := 14) d_X12_init_132 rfl (fun _ q => by cases q) ac_int (by decide) (fun _ => rfl) rfl (by decide) (by decide) (by decide) ?_
  refine wp_nm (fun G159 eG159 => ?_)
  have h := h G159 eG159
  have ho160 := isO_nwE eG159 ho154
  have hb161 := base_nwE eG159 hb155
  have ho162 := isO_newE eG159 hb155
  refine wp_putR (pc := 134) d_X12_init_134 fl_X12_64 (fun _ _ _ => rfl) (Or.inr ⟨_, rfl⟩) (Or.inr ⟨rfl, rfl, rfl⟩) ho160 ?_
  refine wp_nm (fun G163 eG163 => ?_)
  have h := h G163 eG163
  have ho164 := isO_sR eG163 ho160
  have hb165 := base_sR eG163 hb161
  refine wp_aload_n (pc := 137) d_X12_init_137 rfl ?_
  refine wp_bipush (pc := 138) (v := 60) d_X12_init_138 rfl ?_
  refine wp_newa (pc := 140) (t0 := 1) (kd := 14) d_X12_init_140 rfl (fun _ q => by cases q) ac_int (by decide) (fun _ => rfl) rfl (by decide) (by decide) (by decide) ?_
  refine wp_nm (fun G169 eG169 => ?_)
  have h := h G169 eG169
  have ho170 := isO_nwE eG169 ho164
  have hb171 := base_nwE eG169 hb165
  have ho172 := isO_newE eG169 hb165
  refine wp_putR (pc := 142) d_X12_init_142 fl_X12_67 (fun _ _ _ => rfl) (Or.inr ⟨_, rfl⟩) (Or.inr ⟨rfl, rfl, rfl⟩) ho170 ?_
  refine wp_nm (fun G173 eG173 => ?_)
  have h := h G173 eG173
  have ho174 := isO_sR eG173 ho170
  have hb175 := base_sR eG173 hb171
  refine wp_aload_n (pc := 145) d_X12_init_145 rfl ?_
  refine wp_sipush (pc := 146) (v := 1200) d_X12_init_146 rfl ?_
  refine wp_newa (pc := 149) (t0 := 1) (kd := 14) d_X12_init_149 rfl (fun _ q => by cases q) ac_int (by decide) (fun _ => rfl) rfl (by decide) (by decide) (by decide) ?_
  refine wp_nm (fun G179 eG179 => ?_)
  have h := h G179 eG179
  have ho180 := isO_nwE eG179 ho174
  have hb181 := base_nwE eG179 hb175
  have ho182 := isO_newE eG179 hb175
  refine wp_putR (pc := 151) d_X12_init_151 fl_X12_70 (fun _ _ _ => rfl) (Or.inr ⟨_, rfl⟩) (Or.inr ⟨rfl, rfl, rfl⟩) ho180 ?_
  refine wp_nm (fun G183 eG183 => ?_)
  have h := h G183 eG183
  have ho184 := isO_sR eG183 ho180
  have hb185 := base_sR eG183 hb181
  refine wp_aload_n (pc := 154) d_X12_init_154 rfl ?_
  refine wp_bipush (pc := 155) (v := 60) d_X12_init_155 rfl ?_
  refine wp_newa (pc := 157) (t0 := 1) (kd := 14) d_X12_init_157 rfl (fun _ q => by cases q) ac_int (by decide) (fun _ => rfl) rfl (by decide) (by decide) (by decide) ?_
  refine wp_nm (fun G189 eG189 => ?_)
  have h := h G189 eG189
  have ho190 := isO_nwE eG189 ho184
  have hb191 := base_nwE eG189 hb185
  have ho192 := isO_newE eG189 hb185
  refine wp_putR (pc := 159) d_X12_init_159 fl_X12_73 (fun _ _ _ => rfl) (Or.inr ⟨_, rfl⟩) (Or.inr ⟨rfl, rfl, rfl⟩) ho190 ?_
  refine wp_nm (fun G193 eG193 => ?_)
  have h := h G193 eG193
  have ho194 := isO_sR eG193 ho190
  have hb195 := base_sR eG193 hb191
  refine wp_aload_n (pc := 162) d_X12_init_162 rfl ?_
  refine wp_bipush (pc := 163) (v := 60) d_X12_init_163 rfl ?_
  refine wp_newa (pc := 165) (t0 := 1) (kd := 14) d_X12_init_165 rfl (fun _ q => by cases q) ac_int (by decide) (fun _ => rfl) rfl (by decide) (by decide) (by decide) ?_
  refine wp_nm (fun G199 eG199 => ?_)
  have h := h G199 eG199
  have ho200 := isO_nwE eG199 ho194
  have hb201 := base_nwE eG199 hb195
  have ho202 := isO_newE eG199 hb195
  refine wp_putR (pc := 167) d_X12_init_167 fl_X12_76 (fun _ _ _ => rfl) (Or.inr ⟨_, rfl⟩) (Or.inr ⟨rfl, rfl, rfl⟩) ho200 ?_
  refine wp_nm (fun G203 eG203 => ?_)
  have h := h G203 eG203
  have ho204 := isO_sR eG203 ho200
  have hb205 := base_sR eG203 hb201
  refine wp_aload_n (pc := 170) d_X12_init_170 rfl ?_
  refine wp_bipush (pc := 171) (v := 60) d_X12_init_171 rfl ?_
  refine wp_newa (pc := 173) (t0 := 3) (kd := 16) d_X12_init_173 rfl (fun _ q => by cases q) ac_boolean (by decide) (fun _ => rfl) rfl (by decide) (by decide) (by decide) ?_
  refine wp_nm (fun G209 eG209 => ?_)
  have h := h G209 eG209
  have ho210 := isO_nwE eG209 ho204
  have hb211 := base_nwE eG209 hb205
  have ho212 := isO_newE eG209 hb205
  refine wp_putR (pc := 175) d_X12_init_175 fl_X12_79 (fun _ _ _ => rfl) (Or.inr ⟨_, rfl⟩) (Or.inr ⟨rfl, rfl, rfl⟩) ho210 ?_
  refine wp_nm (fun G213 eG213 => ?_)
  have h := h G213 eG213
  have ho214 := isO_sR eG213 ho210
  have hb215 := base_sR eG213 hb211
  refine wp_aload_n (pc := 178) d_X12_init_178 rfl ?_
  refine wp_iconst (pc := 179) (v := 5) d_X12_init_179 rfl ?_
  refine wp_newa (pc := 180) (t0 := 1) (kd := 14) d_X12_init_180 rfl (fun _ q => by cases q) ac_int (by decide) (fun _ => rfl) rfl (by decide) (by decide) (by decide) ?_
  refine wp_nm (fun G219 eG219 => ?_)
  have h := h G219 eG219
  have ho220 := isO_nwE eG219 ho214
  have hb221 := base_nwE eG219 hb215
  have ho222 := isO_newE eG219 hb215
  refine wp_putR (pc := 182) d_X12_init_182 fl_X12_82 (fun _ _ _ => rfl) (Or.inr ⟨_, rfl⟩) (Or.inr ⟨rfl, rfl, rfl⟩) ho220 ?_
  refine wp_nm (fun G223 eG223 => ?_)
  have h := h G223 eG223
  have ho224 := isO_sR eG223 ho220
  have hb225 := base_sR eG223 hb221
  refine wp_aload_n (pc := 185) d_X12_init_185 rfl ?_
  refine wp_iconst (pc := 186) (v := 5) d_X12_init_186 rfl ?_
  refine wp_newa (pc := 187) (t0 := 1) (kd := 14) d_X12_init_187 rfl (fun _ q => by cases q) ac_int (by decide) (fun _ => rfl) rfl (by decide) (by decide) (by decide) ?_
  refine wp_nm (fun G229 eG229 => ?_)
  have h := h G229 eG229
  have ho230 := isO_nwE eG229 ho224
  have hb231 := base_nwE eG229 hb225
  have ho232 := isO_newE eG229 hb225
  refine wp_putR (pc := 189) d_X12_init_189 fl_X12_85 (fun _ _ _ => rfl) (Or.inr ⟨_, rfl⟩) (Or.inr ⟨rfl, rfl, rfl⟩) ho230 ?_
  refine wp_nm (fun G233 eG233 => ?_)
  have h := h G233 eG233
  have ho234 := isO_sR eG233 ho230
  have hb235 := base_sR eG233 hb231
  refine wp_aload_n (pc := 192) d_X12_init_192 rfl ?_
  refine wp_bipush (pc := 193) (v := 120) d_X12_init_193 rfl ?_
  refine wp_newa (pc := 195) (t0 := 1) (kd := 14) d_X12_init_195 rfl (fun _ q => by cases q) ac_int (by decide) (fun _ => rfl) rfl (by decide) (by decide) (by decide) ?_
  refine wp_nm (fun G239 eG239 => ?_)
  have h := h G239 eG239
  have ho240 := isO_nwE eG239 ho234
  have hb241 := base_nwE eG239 hb235
  have ho242 := isO_newE eG239 hb235
  refine wp_putR (pc := 197) d_X12_init_197 fl_X12_88 (fun _ _ _ => rfl) (Or.inr ⟨_, rfl⟩) (Or.inr ⟨rfl, rfl, rfl⟩) ho240 ?_
  refine wp_nm (fun G243 eG243 => ?_)
  have h := h G243 eG243
  have ho244 := isO_sR eG243 ho240
  have hb245 := base_sR eG243 hb241
  refine wp_aload_n (pc := 200) d_X12_init_200 rfl ?_
  refine wp_bipush (pc := 201) (v := 120) d_X12_init_201 rfl ?_
  refine wp_newa (pc := 203) (t0 := 1) (kd := 14) d_X12_init_203 rfl (fun _ q => by cases q) ac_int (by decide) (fun _ => rfl) rfl (by decide) (by decide) (by decide) ?_
  refine wp_nm (fun G249 eG249 => ?_)
  have h := h G249 eG249
  have ho250 := isO_nwE eG249 ho244
  have hb251 := base_nwE eG249 hb245
  have ho252 := isO_newE eG249 hb245
  refine wp_putR (pc := 205) d_X12_init_205 fl_X12_91 (fun _ _ _ => rfl) (Or.inr ⟨_, rfl⟩) (Or.inr ⟨rfl, rfl, rfl⟩) ho250 ?_
  refine wp_nm (fun G253 eG253 => ?_)
  have h := h G253 eG253
  have ho254 := isO_sR eG253 ho250
  have hb255 := base_sR eG253 hb251
  refine wp_aload_n (pc := 208) d_X12_init_208 rfl ?_
  refine wp_bipush (pc := 209) (v := 120) d_X12_init_209 rfl ?_
  refine wp_newa (pc := 211) (t0 := 1) (kd := 14) d_X12_init_211 rfl (fun _ q => by cases q) ac_int (by decide) (fun _ => rfl) rfl (by decide) (by decide) (by decide) ?_
  refine wp_nm (fun G259 eG259 => ?_)
  have h := h G259 eG259
  have ho260 := isO_nwE eG259 ho254
  have hb261 := base_nwE eG259 hb255
  have ho262 := isO_newE eG259 hb255
  refine wp_putR (pc := 213) d_X12_init_213 fl_X12_94 (fun _ _ _ => rfl) (Or.inr ⟨_, rfl⟩) (Or.inr ⟨rfl, rfl, rfl⟩) ho260 ?_
  refine wp_nm (fun G263 eG263 => ?_)
  have h := h G263 eG263
  have ho264 := isO_sR eG263 ho260
  have hb265 := base_sR eG263 hb261
  refine wp_aload_n (pc := 216) d_X12_init_216 rfl ?_
  refine wp_bipush (pc := 217) (v := 30) d_X12_init_217 rfl ?_
  refine wp_newa (pc := 219) (t0 := 1) (kd := 14) d_X12_init_219 rfl (fun _ q => by cases q) ac_int (by decide) (fun _ => rfl) rfl (by decide) (by decide) (by decide) ?_
  refine wp_nm (fun G269 eG269 => ?_)
  have h := h G269 eG269
  have ho270 := isO_nwE eG269 ho264
  have hb271 := base_nwE eG269 hb265
  have ho272 := isO_newE eG269 hb265
  refine wp_putR (pc := 221) d_X12_init_221 fl_X12_97 (fun _ _ _ => rfl) (Or.inr ⟨_, rfl⟩) (Or.inr ⟨rfl, rfl, rfl⟩) ho270 ?_
  refine wp_nm (fun G273 eG273 => ?_)
  have h := h G273 eG273
  have ho274 := isO_sR eG273 ho270
  have hb275 := base_sR eG273 hb271
  refine wp_aload_n (pc := 224) d_X12_init_224 rfl ?_
  refine wp_bipush (pc := 225) (v := 30) d_X12_init_225 rfl ?_
  refine wp_newa (pc := 227) (t0 := 1) (kd := 14) d_X12_init_227 rfl (fun _ q => by cases q) ac_int (by decide) (fun _ => rfl) rfl (by decide) (by decide) (by decide) ?_
  refine wp_nm (fun G279 eG279 => ?_)
  have h := h G279 eG279
  have ho280 := isO_nwE eG279 ho274
  have hb281 := base_nwE eG279 hb275
  have ho282 := isO_newE eG279 hb275
  refine wp_putR (pc := 229) d_X12_init_229 fl_X12_100 (fun _ _ _ => rfl) (Or.inr ⟨_, rfl⟩) (Or.inr ⟨rfl, rfl, rfl⟩) ho280 ?_
  refine wp_nm (fun G283 eG283 => ?_)
  have h := h G283 eG283
  have ho284 := isO_sR eG283 ho280
  have hb285 := base_sR eG283 hb281
  refine wp_aload_n (pc := 232) d_X12_init_232 rfl ?_
  refine wp_iconst (pc := 233) (v := 5) d_X12_init_233 rfl ?_
  refine wp_newa (pc := 234) (t0 := 1) (kd := 14) d_X12_init_234 rfl (fun _ q => by cases q) ac_int (by decide) (fun _ => rfl) rfl (by decide) (by decide) (by decide) ?_
  refine wp_nm (fun G289 eG289 => ?_)
  have h := h G289 eG289
  have ho290 := isO_nwE eG289 ho284
  have hb291 := base_nwE eG289 hb285
  have ho292 := isO_newE eG289 hb285
  refine wp_putR (pc := 236) d_X12_init_236 fl_X12_103 (fun _ _ _ => rfl) (Or.inr ⟨_, rfl⟩) (Or.inr ⟨rfl, rfl, rfl⟩) ho290 ?_
  refine wp_nm (fun G293 eG293 => ?_)
  have h := h G293 eG293
  have ho294 := isO_sR eG293 ho290
  have hb295 := base_sR eG293 hb291
  refine wp_aload_n (pc := 239) d_X12_init_239 rfl ?_
  refine wp_bipush (pc := 240) (v := 30) d_X12_init_240 rfl ?_
  refine wp_newa (pc := 242) (t0 := 1) (kd := 14) d_X12_init_242 rfl (fun _ q => by cases q) ac_int (by decide) (fun _ => rfl) rfl (by decide) (by decide) (by decide) ?_
  refine wp_nm (fun G299 eG299 => ?_)
  have h := h G299 eG299
  have ho300 := isO_nwE eG299 ho294
  have hb301 := base_nwE eG299 hb295
  have ho302 := isO_newE eG299 hb295
  refine wp_putR (pc := 244) d_X12_init_244 fl_X12_106 (fun _ _ _ => rfl) (Or.inr ⟨_, rfl⟩) (Or.inr ⟨rfl, rfl, rfl⟩) ho300 ?_
  refine wp_nm (fun G303 eG303 => ?_)
  have h := h G303 eG303
  have ho304 := isO_sR eG303 ho300
  have hb305 := base_sR eG303 hb301
  refine wp_aload_n (pc := 247) d_X12_init_247 rfl ?_
  refine wp_sipush (pc := 248) (v := 480) d_X12_init_248 rfl ?_
  refine wp_newa (pc := 251) (t0 := 3) (kd := 16) d_X12_init_251 rfl (fun _ q => by cases q) ac_boolean (by decide) (fun _ => rfl) rfl (by decide) (by decide) (by decide) ?_
  refine wp_nm (fun G309 eG309 => ?_)
  have h := h G309 eG309
  have ho310 := isO_nwE eG309 ho304
  have hb311 := base_nwE eG309 hb305
  have ho312 := isO_newE eG309 hb305
  refine wp_putR (pc := 253) d_X12_init_253 fl_X12_109 (fun _ _ _ => rfl) (Or.inr ⟨_, rfl⟩) (Or.inr ⟨rfl, rfl, rfl⟩) ho310 ?_
  refine wp_nm (fun G313 eG313 => ?_)
  have h := h G313 eG313
  have ho314 := isO_sR eG313 ho310
  have hb315 := base_sR eG313 hb311
  refine wp_aload_n (pc := 256) d_X12_init_256 rfl ?_
  refine wp_sipush (pc := 257) (v := 480) d_X12_init_257 rfl ?_
  refine wp_newa (pc := 260) (t0 := 1) (kd := 14) d_X12_init_260 rfl (fun _ q => by cases q) ac_int (by decide) (fun _ => rfl) rfl (by decide) (by decide) (by decide) ?_
  refine wp_nm (fun G319 eG319 => ?_)
  have h := h G319 eG319
  have ho320 := isO_nwE eG319 ho314
  have hb321 := base_nwE eG319 hb315
  have ho322 := isO_newE eG319 hb315
  refine wp_putR (pc := 262) d_X12_init_262 fl_X12_112 (fun _ _ _ => rfl) (Or.inr ⟨_, rfl⟩) (Or.inr ⟨rfl, rfl, rfl⟩) ho320 ?_
  refine wp_nm (fun G323 eG323 => ?_)
  have h := h G323 eG323
  have ho324 := isO_sR eG323 ho320
  have hb325 := base_sR eG323 hb321
  refine wp_aload_n (pc := 265) d_X12_init_265 rfl ?_
  refine wp_iconst (pc := 266) (v := 5) d_X12_init_266 rfl ?_
  refine wp_newa (pc := 267) (t0 := 1) (kd := 14) d_X12_init_267 rfl (fun _ q => by cases q) ac_int (by decide) (fun _ => rfl) rfl (by decide) (by decide) (by decide) ?_
  refine wp_nm (fun G329 eG329 => ?_)
  have h := h G329 eG329
  have ho330 := isO_nwE eG329 ho324
  have hb331 := base_nwE eG329 hb325
  have ho332 := isO_newE eG329 hb325
  refine wp_putR (pc := 269) d_X12_init_269 fl_X12_115 (fun _ _ _ => rfl) (Or.inr ⟨_, rfl⟩) (Or.inr ⟨rfl, rfl, rfl⟩) ho330 ?_
  refine wp_nm (fun G333 eG333 => ?_)
  have h := h G333 eG333
  have ho334 := isO_sR eG333 ho330
  have hb335 := base_sR eG333 hb331
  refine wp_aload_n (pc := 272) d_X12_init_272 rfl ?_
  refine wp_sipush (pc := 273) (v := 200) d_X12_init_273 rfl ?_
  refine wp_newa (pc := 276) (t0 := 1) (kd := 14) d_X12_init_276 rfl (fun _ q => by cases q) ac_int (by decide) (fun _ => rfl) rfl (by decide) (by decide) (by decide) ?_
  refine wp_nm (fun G339 eG339 => ?_)
  have h := h G339 eG339
  have ho340 := isO_nwE eG339 ho334
  have hb341 := base_nwE eG339 hb335
  have ho342 := isO_newE eG339 hb335
  refine wp_putR (pc := 278) d_X12_init_278 fl_X12_118 (fun _ _ _ => rfl) (Or.inr ⟨_, rfl⟩) (Or.inr ⟨rfl, rfl, rfl⟩) ho340 ?_
  refine wp_nm (fun G343 eG343 => ?_)
  have h := h G343 eG343
  have ho344 := isO_sR eG343 ho340
  have hb345 := base_sR eG343 hb341
  refine wp_aload_n (pc := 281) d_X12_init_281 rfl ?_
  refine wp_bipush (pc := 282) (v := 12) d_X12_init_282 rfl ?_
  refine wp_newa (pc := 284) (t0 := 1) (kd := 14) d_X12_init_284 rfl (fun _ q => by cases q) ac_int (by decide) (fun _ => rfl) rfl (by decide) (by decide) (by decide) ?_
  refine wp_nm (fun G349 eG349 => ?_)
  have h := h G349 eG349
  have ho350 := isO_nwE eG349 ho344
  have hb351 := base_nwE eG349 hb345
  have ho352 := isO_newE eG349 hb345
  refine wp_putR (pc := 286) d_X12_init_286 fl_X12_121 (fun _ _ _ => rfl) (Or.inr ⟨_, rfl⟩) (Or.inr ⟨rfl, rfl, rfl⟩) ho350 ?_
  refine wp_nm (fun G353 eG353 => ?_)
  have h := h G353 eG353
  have ho354 := isO_sR eG353 ho350
  have hb355 := base_sR eG353 hb351
  refine wp_aload_n (pc := 289) d_X12_init_289 rfl ?_
  refine wp_bipush (pc := 290) (v := 16) d_X12_init_290 rfl ?_
  refine wp_newa (pc := 292) (t0 := 1) (kd := 14) d_X12_init_292 rfl (fun _ q => by cases q) ac_int (by decide) (fun _ => rfl) rfl (by decide) (by decide) (by decide) ?_
  refine wp_nm (fun G359 eG359 => ?_)
  have h := h G359 eG359
  have ho360 := isO_nwE eG359 ho354
  have hb361 := base_nwE eG359 hb355
  have ho362 := isO_newE eG359 hb355
  refine wp_putR (pc := 294) d_X12_init_294 fl_X12_124 (fun _ _ _ => rfl) (Or.inr ⟨_, rfl⟩) (Or.inr ⟨rfl, rfl, rfl⟩) ho360 ?_
  refine wp_nm (fun G363 eG363 => ?_)
  have h := h G363 eG363
  have ho364 := isO_sR eG363 ho360
  have hb365 := base_sR eG363 hb361
  refine wp_aload_n (pc := 297) d_X12_init_297 rfl ?_
  refine wp_bipush (pc := 298) (v := 12) d_X12_init_298 rfl ?_
  refine wp_newa (pc := 300) (t0 := 2) (kd := 15) d_X12_init_300 rfl (fun _ q => by cases q) ac_long (by decide) (fun _ => rfl) rfl (by decide) (by decide) (by decide) ?_
  refine wp_nm (fun G369 eG369 => ?_)
  have h := h G369 eG369
  have ho370 := isO_nwE eG369 ho364
  have hb371 := base_nwE eG369 hb365
  have ho372 := isO_newE eG369 hb365
  refine wp_putR (pc := 302) d_X12_init_302 fl_X12_127 (fun _ _ _ => rfl) (Or.inr ⟨_, rfl⟩) (Or.inr ⟨rfl, rfl, rfl⟩) ho370 ?_
  refine wp_nm (fun G373 eG373 => ?_)
  have h := h G373 eG373
  have ho374 := isO_sR eG373 ho370
  have hb375 := base_sR eG373 hb371
  refine wp_aload_n (pc := 305) d_X12_init_305 rfl ?_
  refine wp_bipush (pc := 306) (v := 12) d_X12_init_306 rfl ?_
  refine wp_newa (pc := 308) (t0 := 2) (kd := 15) d_X12_init_308 rfl (fun _ q => by cases q) ac_long (by decide) (fun _ => rfl) rfl (by decide) (by decide) (by decide) ?_
  refine wp_nm (fun G379 eG379 => ?_)
  have h := h G379 eG379
  have ho380 := isO_nwE eG379 ho374
  have hb381 := base_nwE eG379 hb375
  have ho382 := isO_newE eG379 hb375
  refine wp_putR (pc := 310) d_X12_init_310 fl_X12_131 (fun _ _ _ => rfl) (Or.inr ⟨_, rfl⟩) (Or.inr ⟨rfl, rfl, rfl⟩) ho380 ?_
  refine wp_nm (fun G383 eG383 => ?_)
  have h := h G383 eG383
  have ho384 := isO_sR eG383 ho380
  have hb385 := base_sR eG383 hb381
  refine wp_aload_n (pc := 313) d_X12_init_313 rfl ?_
  refine wp_bipush (pc := 314) (v := 40) d_X12_init_314 rfl ?_
  refine wp_newa (pc := 316) (t0 := 2) (kd := 15) d_X12_init_316 rfl (fun _ q => by cases q) ac_long (by decide) (fun _ => rfl) rfl (by decide) (by decide) (by decide) ?_
  refine wp_nm (fun G389 eG389 => ?_)
  have h := h G389 eG389
  have ho390 := isO_nwE eG389 ho384
  have hb391 := base_nwE eG389 hb385
  have ho392 := isO_newE eG389 hb385
  refine wp_putR (pc := 318) d_X12_init_318 fl_X12_134 (fun _ _ _ => rfl) (Or.inr ⟨_, rfl⟩) (Or.inr ⟨rfl, rfl, rfl⟩) ho390 ?_
  refine wp_nm (fun G393 eG393 => ?_)
  have h := h G393 eG393
  have ho394 := isO_sR eG393 ho390
  have hb395 := base_sR eG393 hb391
  refine wp_aload_n (pc := 321) d_X12_init_321 rfl ?_
  refine wp_bipush (pc := 322) (v := 40) d_X12_init_322 rfl ?_
  refine wp_newa (pc := 324) (t0 := 2) (kd := 15) d_X12_init_324 rfl (fun _ q => by cases q) ac_long (by decide) (fun _ => rfl) rfl (by decide) (by decide) (by decide) ?_
  refine wp_nm (fun G399 eG399 => ?_)
  have h := h G399 eG399
  have ho400 := isO_nwE eG399 ho394
  have hb401 := base_nwE eG399 hb395
  have ho402 := isO_newE eG399 hb395
  refine wp_putR (pc := 326) d_X12_init_326 fl_X12_137 (fun _ _ _ => rfl) (Or.inr ⟨_, rfl⟩) (Or.inr ⟨rfl, rfl, rfl⟩) ho400 ?_
  refine wp_nm (fun G403 eG403 => ?_)
  have h := h G403 eG403
  have ho404 := isO_sR eG403 ho400
  have hb405 := base_sR eG403 hb401
  refine wp_aload_n (pc := 329) d_X12_init_329 rfl ?_
  refine wp_bipush (pc := 330) (v := 40) d_X12_init_330 rfl ?_
  refine wp_newa (pc := 332) (t0 := 2) (kd := 15) d_X12_init_332 rfl (fun _ q => by cases q) ac_long (by decide) (fun _ => rfl) rfl (by decide) (by decide) (by decide) ?_
  refine wp_nm (fun G409 eG409 => ?_)
  have h := h G409 eG409
  have ho410 := isO_nwE eG409 ho404
  have hb411 := base_nwE eG409 hb405
  have ho412 := isO_newE eG409 hb405
  refine wp_putR (pc := 334) d_X12_init_334 fl_X12_140 (fun _ _ _ => rfl) (Or.inr ⟨_, rfl⟩) (Or.inr ⟨rfl, rfl, rfl⟩) ho410 ?_
  refine wp_nm (fun G413 eG413 => ?_)
  have h := h G413 eG413
  have ho414 := isO_sR eG413 ho410
  have hb415 := base_sR eG413 hb411
  refine wp_aload_n (pc := 337) d_X12_init_337 rfl ?_
  refine wp_bipush (pc := 338) (v := 40) d_X12_init_338 rfl ?_
  refine wp_newa (pc := 340) (t0 := 2) (kd := 15) d_X12_init_340 rfl (fun _ q => by cases q) ac_long (by decide) (fun _ => rfl) rfl (by decide) (by decide) (by decide) ?_
  refine wp_nm (fun G419 eG419 => ?_)
  have h := h G419 eG419
  have ho420 := isO_nwE eG419 ho414
  have hb421 := base_nwE eG419 hb415
  have ho422 := isO_newE eG419 hb415
  refine wp_putR (pc := 342) d_X12_init_342 fl_X12_143 (fun _ _ _ => rfl) (Or.inr ⟨_, rfl⟩) (Or.inr ⟨rfl, rfl, rfl⟩) ho420 ?_
  refine wp_nm (fun G423 eG423 => ?_)
  have h := h G423 eG423
  have ho424 := isO_sR eG423 ho420
  have hb425 := base_sR eG423 hb421
  refine wp_aload_n (pc := 345) d_X12_init_345 rfl ?_
  refine wp_iconst (pc := 346) (v := (-1)) d_X12_init_346 rfl ?_
  refine wp_putI (pc := 347) d_X12_init_347 fl_X12_146 (fun _ _ _ => rfl) (Or.inl rfl) ho424 (okI_int _) ?_
  refine wp_nm (fun G426 eG426 => ?_)
  have h := h G426 eG426
  have ho427 := isO_sI eG426 ho424
  have hb428 := base_sI eG426 hb425
  refine wp_aload_n (pc := 350) d_X12_init_350 rfl ?_
  refine wp_ldc (pc := 351) (v := 480000) d_X12_init_351 ci_X12_150 ?_
  refine wp_newa (pc := 353) (t0 := 1) (kd := 14) d_X12_init_353 rfl (fun _ q => by cases q) ac_int (by decide) (fun _ => rfl) rfl (by decide) (by decide) (by decide) ?_
  refine wp_nm (fun G432 eG432 => ?_)
  have h := h G432 eG432
  have ho433 := isO_nwE eG432 ho427
  have hb434 := base_nwE eG432 hb428
  have ho435 := isO_newE eG432 hb428
  refine wp_putR (pc := 355) d_X12_init_355 fl_X12_151 (fun _ _ _ => rfl) (Or.inr ⟨_, rfl⟩) (Or.inr ⟨rfl, rfl, rfl⟩) ho433 ?_
  refine wp_nm (fun G436 eG436 => ?_)
  have h := h G436 eG436
  have ho437 := isO_sR eG436 ho433
  have hb438 := base_sR eG436 hb434
  refine wp_aload_n (pc := 358) d_X12_init_358 rfl ?_
  refine wp_ldc (pc := 359) (v := 120000) d_X12_init_359 ci_X12_154 ?_
  refine wp_newa (pc := 361) (t0 := 1) (kd := 14) d_X12_init_361 rfl (fun _ q => by cases q) ac_int (by decide) (fun _ => rfl) rfl (by decide) (by decide) (by decide) ?_
  refine wp_nm (fun G442 eG442 => ?_)
  have h := h G442 eG442
  have ho443 := isO_nwE eG442 ho437
  have hb444 := base_nwE eG442 hb438
  have ho445 := isO_newE eG442 hb438
  refine wp_putR (pc := 363) d_X12_init_363 fl_X12_155 (fun _ _ _ => rfl) (Or.inr ⟨_, rfl⟩) (Or.inr ⟨rfl, rfl, rfl⟩) ho443 ?_
  refine wp_nm (fun G446 eG446 => ?_)
  have h := h G446 eG446
  have ho447 := isO_sR eG446 ho443
  have hb448 := base_sR eG446 hb444
  refine wp_aload_n (pc := 366) d_X12_init_366 rfl ?_
  refine wp_ldc (pc := 367) (v := 60000) d_X12_init_367 ci_X12_158 ?_
  refine wp_newa (pc := 369) (t0 := 2) (kd := 15) d_X12_init_369 rfl (fun _ q => by cases q) ac_long (by decide) (fun _ => rfl) rfl (by decide) (by decide) (by decide) ?_
  refine wp_nm (fun G452 eG452 => ?_)
  have h := h G452 eG452
  have ho453 := isO_nwE eG452 ho447
  have hb454 := base_nwE eG452 hb448
  have ho455 := isO_newE eG452 hb448
  refine wp_putR (pc := 371) d_X12_init_371 fl_X12_159 (fun _ _ _ => rfl) (Or.inr ⟨_, rfl⟩) (Or.inr ⟨rfl, rfl, rfl⟩) ho453 ?_
  refine wp_nm (fun G456 eG456 => ?_)
  have h := h G456 eG456
  have ho457 := isO_sR eG456 ho453
  have hb458 := base_sR eG456 hb454
  refine wp_aload_n (pc := 374) d_X12_init_374 rfl ?_
  refine wp_sipush (pc := 375) (v := 240) d_X12_init_375 rfl ?_
  refine wp_newa (pc := 378) (t0 := 3) (kd := 16) d_X12_init_378 rfl (fun _ q => by cases q) ac_boolean (by decide) (fun _ => rfl) rfl (by decide) (by decide) (by decide) ?_
  refine wp_nm (fun G462 eG462 => ?_)
  have h := h G462 eG462
  have ho463 := isO_nwE eG462 ho457
  have hb464 := base_nwE eG462 hb458
  have ho465 := isO_newE eG462 hb458
  refine wp_putR (pc := 380) d_X12_init_380 fl_X12_162 (fun _ _ _ => rfl) (Or.inr ⟨_, rfl⟩) (Or.inr ⟨rfl, rfl, rfl⟩) ho463 ?_
  refine wp_nm (fun G466 eG466 => ?_)
  have h := h G466 eG466
  have ho467 := isO_sR eG466 ho463
  have hb468 := base_sR eG466 hb464
  refine wp_aload_n (pc := 383) d_X12_init_383 rfl ?_
  refine wp_sipush (pc := 384) (v := 240) d_X12_init_384 rfl ?_
  refine wp_newa (pc := 387) (t0 := 3) (kd := 16) d_X12_init_387 rfl (fun _ q => by cases q) ac_boolean (by decide) (fun _ => rfl) rfl (by decide) (by decide) (by decide) ?_
  refine wp_nm (fun G472 eG472 => ?_)
  have h := h G472 eG472
  have ho473 := isO_nwE eG472 ho467
  have hb474 := base_nwE eG472 hb468
  have ho475 := isO_newE eG472 hb468
  refine wp_putR (pc := 389) d_X12_init_389 fl_X12_165 (fun _ _ _ => rfl) (Or.inr ⟨_, rfl⟩) (Or.inr ⟨rfl, rfl, rfl⟩) ho473 ?_
  refine wp_nm (fun G476 eG476 => ?_)
  have h := h G476 eG476
  have ho477 := isO_sR eG476 ho473
  have hb478 := base_sR eG476 hb474
  refine wp_aload_n (pc := 392) d_X12_init_392 rfl ?_
  refine wp_sipush (pc := 393) (v := 4096) d_X12_init_393 rfl ?_
  refine wp_newa (pc := 396) (t0 := 3) (kd := 16) d_X12_init_396 rfl (fun _ q => by cases q) ac_boolean (by decide) (fun _ => rfl) rfl (by decide) (by decide) (by decide) ?_
  refine wp_nm (fun G482 eG482 => ?_)
  have h := h G482 eG482
  have ho483 := isO_nwE eG482 ho477
  have hb484 := base_nwE eG482 hb478
  have ho485 := isO_newE eG482 hb478
  refine wp_putR (pc := 398) d_X12_init_398 fl_X12_168 (fun _ _ _ => rfl) (Or.inr ⟨_, rfl⟩) (Or.inr ⟨rfl, rfl, rfl⟩) ho483 ?_
  refine wp_nm (fun G486 eG486 => ?_)
  have h := h G486 eG486
  have ho487 := isO_sR eG486 ho483
  have hb488 := base_sR eG486 hb484
  refine wp_aload_n (pc := 401) d_X12_init_401 rfl ?_
  refine wp_bipush (pc := 402) (v := 12) d_X12_init_402 rfl ?_
  refine wp_newa (pc := 404) (t0 := 1) (kd := 14) d_X12_init_404 rfl (fun _ q => by cases q) ac_int (by decide) (fun _ => rfl) rfl (by decide) (by decide) (by decide) ?_
  refine wp_nm (fun G492 eG492 => ?_)
  have h := h G492 eG492
  have ho493 := isO_nwE eG492 ho487
  have hb494 := base_nwE eG492 hb488
  have ho495 := isO_newE eG492 hb488
  refine wp_putR (pc := 406) d_X12_init_406 fl_X12_171 (fun _ _ _ => rfl) (Or.inr ⟨_, rfl⟩) (Or.inr ⟨rfl, rfl, rfl⟩) ho493 ?_
  refine wp_nm (fun G496 eG496 => ?_)
  have h := h G496 eG496
  have ho497 := isO_sR eG496 ho493
  have hb498 := base_sR eG496 hb494
  refine wp_aload_n (pc := 409) d_X12_init_409 rfl ?_
  refine wp_ldc (pc := 410) (v := 40000) d_X12_init_410 ci_X12_174 ?_
  refine wp_newa (pc := 412) (t0 := 2) (kd := 15) d_X12_init_412 rfl (fun _ q => by cases q) ac_long (by decide) (fun _ => rfl) rfl (by decide) (by decide) (by decide) ?_
  refine wp_nm (fun G502 eG502 => ?_)
  have h := h G502 eG502
  have ho503 := isO_nwE eG502 ho497
  have hb504 := base_nwE eG502 hb498
  have ho505 := isO_newE eG502 hb498
  refine wp_putR (pc := 414) d_X12_init_414 fl_X12_175 (fun _ _ _ => rfl) (Or.inr ⟨_, rfl⟩) (Or.inr ⟨rfl, rfl, rfl⟩) ho503 ?_
  refine wp_nm (fun G506 eG506 => ?_)
  have h := h G506 eG506
  have ho507 := isO_sR eG506 ho503
  have hb508 := base_sR eG506 hb504
  refine wp_aload_n (pc := 417) d_X12_init_417 rfl ?_
  refine wp_sipush (pc := 418) (v := 20000) d_X12_init_418 rfl ?_
  refine wp_newa (pc := 421) (t0 := 3) (kd := 16) d_X12_init_421 rfl (fun _ q => by cases q) ac_boolean (by decide) (fun _ => rfl) rfl (by decide) (by decide) (by decide) ?_
  refine wp_nm (fun G512 eG512 => ?_)
  have h := h G512 eG512
  have ho513 := isO_nwE eG512 ho507
  have hb514 := base_nwE eG512 hb508
  have ho515 := isO_newE eG512 hb508
  refine wp_putR (pc := 423) d_X12_init_423 fl_X12_178 (fun _ _ _ => rfl) (Or.inr ⟨_, rfl⟩) (Or.inr ⟨rfl, rfl, rfl⟩) ho513 ?_
  refine wp_nm (fun G516 eG516 => ?_)
  have h := h G516 eG516
  have ho517 := isO_sR eG516 ho513
  have hb518 := base_sR eG516 hb514
  refine wp_aload_n (pc := 426) d_X12_init_426 rfl ?_
  refine wp_iconst (pc := 427) (v := (-1)) d_X12_init_427 rfl ?_
  refine wp_putI (pc := 428) d_X12_init_428 fl_X12_181 (fun _ _ _ => rfl) (Or.inl rfl) ho517 (okI_int _) ?_
  refine wp_nm (fun G519 eG519 => ?_)
  have h := h G519 eG519
  have ho520 := isO_sI eG519 ho517
  have hb521 := base_sI eG519 hb518
  refine wp_aload_n (pc := 431) d_X12_init_431 rfl ?_
  refine wp_bipush (pc := 432) (v := 12) d_X12_init_432 rfl ?_
  refine wp_newa (pc := 434) (t0 := 1) (kd := 14) d_X12_init_434 rfl (fun _ q => by cases q) ac_int (by decide) (fun _ => rfl) rfl (by decide) (by decide) (by decide) ?_
  refine wp_nm (fun G525 eG525 => ?_)
  have h := h G525 eG525
  have ho526 := isO_nwE eG525 ho520
  have hb527 := base_nwE eG525 hb521
  have ho528 := isO_newE eG525 hb521
  refine wp_putR (pc := 436) d_X12_init_436 fl_X12_184 (fun _ _ _ => rfl) (Or.inr ⟨_, rfl⟩) (Or.inr ⟨rfl, rfl, rfl⟩) ho526 ?_
  refine wp_nm (fun G529 eG529 => ?_)
  have h := h G529 eG529
  have ho530 := isO_sR eG529 ho526
  have hb531 := base_sR eG529 hb527
  refine wp_aload_n (pc := 439) d_X12_init_439 rfl ?_
  refine wp_bipush (pc := 440) (v := 12) d_X12_init_440 rfl ?_
  refine wp_newa (pc := 442) (t0 := 1) (kd := 14) d_X12_init_442 rfl (fun _ q => by cases q) ac_int (by decide) (fun _ => rfl) rfl (by decide) (by decide) (by decide) ?_
  refine wp_nm (fun G535 eG535 => ?_)
  have h := h G535 eG535
  have ho536 := isO_nwE eG535 ho530
  have hb537 := base_nwE eG535 hb531
  have ho538 := isO_newE eG535 hb531
  refine wp_putR (pc := 444) d_X12_init_444 fl_X12_187 (fun _ _ _ => rfl) (Or.inr ⟨_, rfl⟩) (Or.inr ⟨rfl, rfl, rfl⟩) ho536 ?_
  refine wp_nm (fun G539 eG539 => ?_)
  have h := h G539 eG539
  have ho540 := isO_sR eG539 ho536
  have hb541 := base_sR eG539 hb537
  refine wp_aload_n (pc := 447) d_X12_init_447 rfl ?_
  refine wp_bipush (pc := 448) (v := 20) d_X12_init_448 rfl ?_
  refine wp_newa (pc := 450) (t0 := 1) (kd := 14) d_X12_init_450 rfl (fun _ q => by cases q) ac_int (by decide) (fun _ => rfl) rfl (by decide) (by decide) (by decide) ?_
  refine wp_nm (fun G545 eG545 => ?_)
  have h := h G545 eG545
  have ho546 := isO_nwE eG545 ho540
  have hb547 := base_nwE eG545 hb541
  have ho548 := isO_newE eG545 hb541
  refine wp_putR (pc := 452) d_X12_init_452 fl_X12_190 (fun _ _ _ => rfl) (Or.inr ⟨_, rfl⟩) (Or.inr ⟨rfl, rfl, rfl⟩) ho546 ?_
  refine wp_nm (fun G549 eG549 => ?_)
  have h := h G549 eG549
  have ho550 := isO_sR eG549 ho546
  have hb551 := base_sR eG549 hb547
  refine wp_aload_n (pc := 455) d_X12_init_455 rfl ?_
  refine wp_bipush (pc := 456) (v := 12) d_X12_init_456 rfl ?_
  refine wp_newa (pc := 458) (t0 := 1) (kd := 14) d_X12_init_458 rfl (fun _ q => by cases q) ac_int (by decide) (fun _ => rfl) rfl (by decide) (by decide) (by decide) ?_
  refine wp_nm (fun G555 eG555 => ?_)
  have h := h G555 eG555
  have ho556 := isO_nwE eG555 ho550
  have hb557 := base_nwE eG555 hb551
  have ho558 := isO_newE eG555 hb551
  refine wp_putR (pc := 460) d_X12_init_460 fl_X12_193 (fun _ _ _ => rfl) (Or.inr ⟨_, rfl⟩) (Or.inr ⟨rfl, rfl, rfl⟩) ho556 ?_
  refine wp_nm (fun G559 eG559 => ?_)
  have h := h G559 eG559
  have ho560 := isO_sR eG559 ho556
  have hb561 := base_sR eG559 hb557
  refine wp_aload_n (pc := 463) d_X12_init_463 rfl ?_
  refine wp_iconst (pc := 464) (v := 3) d_X12_init_464 rfl ?_
  refine wp_newa (pc := 465) (t0 := 2) (kd := 15) d_X12_init_465 rfl (fun _ q => by cases q) ac_long (by decide) (fun _ => rfl) rfl (by decide) (by decide) (by decide) ?_
  refine wp_nm (fun G565 eG565 => ?_)
  have h := h G565 eG565
  have ho566 := isO_nwE eG565 ho560
  have hb567 := base_nwE eG565 hb561
  have ho568 := isO_newE eG565 hb561
  refine wp_putR (pc := 467) d_X12_init_467 fl_X12_196 (fun _ _ _ => rfl) (Or.inr ⟨_, rfl⟩) (Or.inr ⟨rfl, rfl, rfl⟩) ho566 ?_
  refine wp_nm (fun G569 eG569 => ?_)
  have h := h G569 eG569
  have ho570 := isO_sR eG569 ho566
  have hb571 := base_sR eG569 hb567
  refine wp_aload_n (pc := 470) d_X12_init_470 rfl ?_
  refine wp_bipush (pc := 471) (v := 30) d_X12_init_471 rfl ?_
  refine wp_newa (pc := 473) (t0 := 2) (kd := 15) d_X12_init_473 rfl (fun _ q => by cases q) ac_long (by decide) (fun _ => rfl) rfl (by decide) (by decide) (by decide) ?_
  refine wp_nm (fun G575 eG575 => ?_)
  have h := h G575 eG575
  have ho576 := isO_nwE eG575 ho570
  have hb577 := base_nwE eG575 hb571
  have ho578 := isO_newE eG575 hb571
  refine wp_putR (pc := 475) d_X12_init_475 fl_X12_199 (fun _ _ _ => rfl) (Or.inr ⟨_, rfl⟩) (Or.inr ⟨rfl, rfl, rfl⟩) ho576 ?_
  refine wp_nm (fun G579 eG579 => ?_)
  have h := h G579 eG579
  have ho580 := isO_sR eG579 ho576
  have hb581 := base_sR eG579 hb577
  refine wp_aload_n (pc := 478) d_X12_init_478 rfl ?_
  refine wp_sipush (pc := 479) (v := 20001) d_X12_init_479 rfl ?_
  refine wp_newa (pc := 482) (t0 := 0) (kd := 13) d_X12_init_482 rfl (fun _ q => by cases q) ac_byte (by decide) (fun _ => rfl) rfl (by decide) (by decide) (by decide) ?_
  refine wp_nm (fun G585 eG585 => ?_)
  have h := h G585 eG585
  have ho586 := isO_nwE eG585 ho580
  have hb587 := base_nwE eG585 hb581
  have ho588 := isO_newE eG585 hb581
  refine wp_putR (pc := 484) d_X12_init_484 fl_X12_202 (fun _ _ _ => rfl) (Or.inr ⟨_, rfl⟩) (Or.inr ⟨rfl, rfl, rfl⟩) ho586 ?_
  refine wp_nm (fun G589 eG589 => ?_)
  have h := h G589 eG589
  have ho590 := isO_sR eG589 ho586
  have hb591 := base_sR eG589 hb587
  refine wp_aload_n (pc := 487) d_X12_init_487 rfl ?_
  refine wp_sipush (pc := 488) (v := 20000) d_X12_init_488 rfl ?_
  refine wp_newa (pc := 491) (t0 := 0) (kd := 13) d_X12_init_491 rfl (fun _ q => by cases q) ac_byte (by decide) (fun _ => rfl) rfl (by decide) (by decide) (by decide) ?_
  refine wp_nm (fun G595 eG595 => ?_)
  have h := h G595 eG595
  have ho596 := isO_nwE eG595 ho590
  have hb597 := base_nwE eG595 hb591
  have ho598 := isO_newE eG595 hb591
  refine wp_putR (pc := 493) d_X12_init_493 fl_X12_205 (fun _ _ _ => rfl) (Or.inr ⟨_, rfl⟩) (Or.inr ⟨rfl, rfl, rfl⟩) ho596 ?_
  refine wp_nm (fun G599 eG599 => ?_)
  have h := h G599 eG599
  have ho600 := isO_sR eG599 ho596
  have hb601 := base_sR eG599 hb597
  refine wp_aload_n (pc := 496) d_X12_init_496 rfl ?_
  refine wp_bipush (pc := 497) (v := 101) d_X12_init_497 rfl ?_
  refine wp_newa (pc := 499) (t0 := 1) (kd := 14) d_X12_init_499 rfl (fun _ q => by cases q) ac_int (by decide) (fun _ => rfl) rfl (by decide) (by decide) (by decide) ?_
  refine wp_nm (fun G605 eG605 => ?_)
  have h := h G605 eG605
  have ho606 := isO_nwE eG605 ho600
  have hb607 := base_nwE eG605 hb601
  have ho608 := isO_newE eG605 hb601
  refine wp_putR (pc := 501) d_X12_init_501 fl_X12_208 (fun _ _ _ => rfl) (Or.inr ⟨_, rfl⟩) (Or.inr ⟨rfl, rfl, rfl⟩) ho606 ?_
  refine wp_nm (fun G609 eG609 => ?_)
  have h := h G609 eG609
  have ho610 := isO_sR eG609 ho606
  have hb611 := base_sR eG609 hb607
  refine wp_aload_n (pc := 504) d_X12_init_504 rfl ?_
  refine wp_iconst (pc := 505) (v := (-1)) d_X12_init_505 rfl ?_
  refine wp_putI (pc := 506) d_X12_init_506 fl_X12_211 (fun _ _ _ => rfl) (Or.inl rfl) ho610 (okI_int _) ?_
  refine wp_nm (fun G612 eG612 => ?_)
  have h := h G612 eG612
  have ho613 := isO_sI eG612 ho610
  have hb614 := base_sI eG612 hb611
  refine wp_aload_n (pc := 509) d_X12_init_509 rfl ?_
  refine wp_sipush (pc := 510) (v := 2048) d_X12_init_510 rfl ?_
  refine wp_newa (pc := 513) (t0 := 1) (kd := 14) d_X12_init_513 rfl (fun _ q => by cases q) ac_int (by decide) (fun _ => rfl) rfl (by decide) (by decide) (by decide) ?_
  refine wp_nm (fun G618 eG618 => ?_)
  have h := h G618 eG618
  have ho619 := isO_nwE eG618 ho613
  have hb620 := base_nwE eG618 hb614
  have ho621 := isO_newE eG618 hb614
  refine wp_putR (pc := 515) d_X12_init_515 fl_X12_214 (fun _ _ _ => rfl) (Or.inr ⟨_, rfl⟩) (Or.inr ⟨rfl, rfl, rfl⟩) ho619 ?_
  refine wp_nm (fun G622 eG622 => ?_)
  have h := h G622 eG622
  have ho623 := isO_sR eG622 ho619
  have hb624 := base_sR eG622 hb620
  exact wp_vret (pc := 518) d_X12_init_518 rfl h
theorem d_X12_bring_0 : decode prog_14_method_183_code 0 = .ok (.aload_n 0, 1) := by decide +kernel
theorem d_X12_bring_1 : decode prog_14_method_183_code 1 = .ok (.getfield 217, 3) := by decide +kernel
theorem d_X12_bring_4 : decode prog_14_method_183_code 4 = .ok (.bipush 10, 2) := by decide +kernel
theorem d_X12_bring_6 : decode prog_14_method_183_code 6 = .ok (.if_icmp .ge 5, 3) := by decide +kernel
theorem d_X12_bring_9 : decode prog_14_method_183_code 9 = .ok (.iconst (-1), 1) := by decide +kernel
theorem d_X12_bring_10 : decode prog_14_method_183_code 10 = .ok (.ireturn, 1) := by decide +kernel
theorem d_X12_bring_11 : decode prog_14_method_183_code 11 = .ok (.aload_n 0, 1) := by decide +kernel
theorem d_X12_bring_12 : decode prog_14_method_183_code 12 = .ok (.iconst 0, 1) := by decide +kernel
theorem d_X12_bring_13 : decode prog_14_method_183_code 13 = .ok (.putfield 729, 3) := by decide +kernel
theorem d_X12_bring_16 : decode prog_14_method_183_code 16 = .ok (.aload_n 0, 1) := by decide +kernel
theorem d_X12_bring_17 : decode prog_14_method_183_code 17 = .ok (.iconst 0, 1) := by decide +kernel
theorem d_X12_bring_18 : decode prog_14_method_183_code 18 = .ok (.iconst 2, 1) := by decide +kernel
theorem d_X12_bring_19 : decode prog_14_method_183_code 19 = .ok (.invokevirtual 735, 3) := by decide +kernel
theorem d_X12_bring_22 : decode prog_14_method_183_code 22 = .ok (.l2i, 1) := by decide +kernel
theorem d_X12_bring_23 : decode prog_14_method_183_code 23 = .ok (.istore_n 1, 1) := by decide +kernel
theorem d_X12_bring_24 : decode prog_14_method_183_code 24 = .ok (.aload_n 0, 1) := by decide +kernel
theorem d_X12_bring_25 : decode prog_14_method_183_code 25 = .ok (.getfield 217, 3) := by decide +kernel
theorem d_X12_bring_28 : decode prog_14_method_183_code 28 = .ok (.bipush 8, 2) := by decide +kernel
theorem d_X12_bring_30 : decode prog_14_method_183_code 30 = .ok (.isub, 1) := by decide +kernel
theorem d_X12_bring_31 : decode prog_14_method_183_code 31 = .ok (.istore_n 2, 1) := by decide +kernel
theorem d_X12_bring_32 : decode prog_14_method_183_code 32 = .ok (.lconst 0, 1) := by decide +kernel
theorem d_X12_bring_33 : decode prog_14_method_183_code 33 = .ok (.lstore_n 3, 1) := by decide +kernel
theorem d_X12_bring_34 : decode prog_14_method_183_code 34 = .ok (.iconst 0, 1) := by decide +kernel
theorem d_X12_bring_35 : decode prog_14_method_183_code 35 = .ok (.istore 5, 2) := by decide +kernel
theorem v_X12_bring_0 {E : EE} {d : Nat} {Q : Option AV → AH → Prop} {x0 : Nat} {G : AH} (h0 : 0 < d) (h : isO E G x0 12 ∧ ((10 ≤ (gI G x0 1) → wpJ E (d - 1) M_X12_numberAt [vr x0, vi 0, vi 2] (sI G x0 93 0) (fun r2 G3 => isO E G3 x0 12 ∧ (wp E d M_X12_bring 37 [some (vr x0), some (vi (Int64.toInt32 r2)), some (vi ((gI G3 x0 1) - 8)), some (vj 0), none, some (vi 0), none, none] [] G3 Q))) ∧ (¬ (10 ≤ (gI G x0 1)) → Q (some (vi (-1))) G))) : wp E d M_X12_bring 0 [some (vr x0), none, none, none, none, none, none, none] [] G Q := by
  refine wp_aload_n (pc := 0) d_X12_bring_0 rfl ?_
  obtain ⟨ho1, h⟩ := h
  refine wp_getI (pc := 1) d_X12_bring_1 fl_X12_217 (fun _ _ _ => rfl) ho1 ?_
  refine wp_bipush (pc := 4) (v := 10) d_X12_bring_4 rfl ?_
  refine wp_icmp_ge (pc := 6) (tgt := 11) d_X12_bring_6 (by decide) (fun hc => ?_) (fun hc => ?_)
  · have h := h.1 hc
    refine wp_aload_n (pc := 11) d_X12_bring_11 rfl ?_
    refine wp_iconst (pc := 12) (v := 0) d_X12_bring_12 rfl ?_
    refine wp_putI (pc := 13) d_X12_bring_13 fl_X12_729 (fun _ _ _ => rfl) (Or.inl rfl) ho1 okI_z0 ?_
    refine wp_aload_n (pc := 16) d_X12_bring_16 rfl ?_
    refine wp_iconst (pc := 17) (v := 0) d_X12_bring_17 rfl ?_
    refine wp_iconst (pc := 18) (v := 2) d_X12_bring_18 rfl ?_
    refine wp_invV (pc := 19) (N := M_X12_numberAt) (As := [vi _, vi _]) (rest := []) (r := (cn_12, ct_12, 95)) d_X12_bring_19 ml_X12_735 mk_X12_numberAt mv_X12_numberAt h0 ho1 rfl rfl (Nat.le_of_ble_eq_true rfl) ?_
    refine wpM.mono h (fun rr G3 hr => ?_)
    obtain ⟨r2, rfl, h⟩ := hr
    show wp E d M_X12_bring 22 [some (vr _), none, none, none, none, none, none, none] [vj _] G3 Q
    refine wp_l2i (pc := 22) d_X12_bring_22 ?_
    refine wp_istore_n (pc := 23) (lv' := [some (vr _), some (vi _), none, none, none, none, none, none]) d_X12_bring_23 (by decide) rfl ?_
    refine wp_aload_n (pc := 24) d_X12_bring_24 rfl ?_
    obtain ⟨ho4, h⟩ := h
    refine wp_getI (pc := 25) d_X12_bring_25 fl_X12_217 (fun _ _ _ => rfl) ho4 ?_
    refine wp_bipush (pc := 28) (v := 8) d_X12_bring_28 rfl ?_
    refine wp_isub (pc := 30) d_X12_bring_30 ?_
    refine wp_istore_n (pc := 31) (lv' := [some (vr _), some (vi _), some (vi _), none, none, none, none, none]) d_X12_bring_31 (by decide) rfl ?_
    refine wp_lconst (pc := 32) (v := 0) d_X12_bring_32 rfl ?_
    refine wp_lstore_n (pc := 33) (lv' := [some (vr _), some (vi _), some (vi _), some (vj _), none, none, none, none]) d_X12_bring_33 (by decide) rfl ?_
    refine wp_iconst (pc := 34) (v := 0) d_X12_bring_34 rfl ?_
    refine wp_istore (pc := 35) (lv' := [some (vr _), some (vi _), some (vi _), some (vj _), none, some (vi _), none, none]) d_X12_bring_35 (by decide) rfl ?_
    refine wp_sub ?_ h
    exact ⟨rfl, ⟨rfl, ⟨rfl, ⟨rfl, ⟨rfl, trivial⟩⟩⟩⟩⟩
  · have h := h.2 hc
    refine wp_iconst (pc := 9) (v := (-1)) d_X12_bring_9 rfl ?_
    exact wp_iret (pc := 10) d_X12_bring_10 rfl h
theorem d_X12_mixed_0 : decode prog_14_method_171_code 0 = .ok (.lload_n 0, 1) := by decide +kernel
theorem d_X12_mixed_1 : decode prog_14_method_171_code 1 = .ok (.iload_n 2, 1) := by decide +kernel
theorem d_X12_mixed_2 : decode prog_14_method_171_code 2 = .ok (.sipush 255, 3) := by decide +kernel
theorem d_X12_mixed_5 : decode prog_14_method_171_code 5 = .ok (.iand, 1) := by decide +kernel
theorem d_X12_mixed_6 : decode prog_14_method_171_code 6 = .ok (.i2l, 1) := by decide +kernel
theorem d_X12_mixed_7 : decode prog_14_method_171_code 7 = .ok (.lxor, 1) := by decide +kernel
theorem d_X12_mixed_8 : decode prog_14_method_171_code 8 = .ok (.lstore_n 3, 1) := by decide +kernel
theorem d_X12_mixed_9 : decode prog_14_method_171_code 9 = .ok (.lload_n 3, 1) := by decide +kernel
theorem d_X12_mixed_10 : decode prog_14_method_171_code 10 = .ok (.bipush 53, 2) := by decide +kernel
theorem d_X12_mixed_12 : decode prog_14_method_171_code 12 = .ok (.lshl, 1) := by decide +kernel
theorem d_X12_mixed_13 : decode prog_14_method_171_code 13 = .ok (.lload_n 3, 1) := by decide +kernel
theorem d_X12_mixed_14 : decode prog_14_method_171_code 14 = .ok (.bipush 11, 2) := by decide +kernel
theorem d_X12_mixed_16 : decode prog_14_method_171_code 16 = .ok (.lushr, 1) := by decide +kernel
theorem d_X12_mixed_17 : decode prog_14_method_171_code 17 = .ok (.lor, 1) := by decide +kernel
theorem d_X12_mixed_18 : decode prog_14_method_171_code 18 = .ok (.ldc2_w 711, 3) := by decide +kernel
theorem d_X12_mixed_21 : decode prog_14_method_171_code 21 = .ok (.lmul, 1) := by decide +kernel
theorem d_X12_mixed_22 : decode prog_14_method_171_code 22 = .ok (.lreturn, 1) := by decide +kernel
theorem v_X12_mixed_0 {E : EE} {d : Nat} {Q : Option AV → AH → Prop} {x0 : Int64} {x2 : Int32} {G : AH} (h : Q (some (vj ((((x0 ^^^ (Int32.toInt64 (x2 &&& 255))) <<< (Int32.toInt64 53 &&& 63)) ||| (lushr (x0 ^^^ (Int32.toInt64 (x2 &&& 255))) 11)) * (-4417276706812531889)))) G) : wp E d M_X12_mixed 0 [some (vj x0), none, some (vi x2), none, none] [] G Q := by
  refine wp_lload_n (pc := 0) d_X12_mixed_0 rfl ?_
  refine wp_iload_n (pc := 1) d_X12_mixed_1 rfl ?_
  refine wp_sipush (pc := 2) (v := 255) d_X12_mixed_2 rfl ?_
  refine wp_iand (pc := 5) d_X12_mixed_5 ?_
  refine wp_i2l (pc := 6) d_X12_mixed_6 ?_
  refine wp_lxor (pc := 7) d_X12_mixed_7 ?_
  refine wp_lstore_n (pc := 8) (lv' := [some (vj _), none, some (vi _), some (vj _), none]) d_X12_mixed_8 (by decide) rfl ?_
  refine wp_lload_n (pc := 9) d_X12_mixed_9 rfl ?_
  refine wp_bipush (pc := 10) (v := 53) d_X12_mixed_10 rfl ?_
  refine wp_lshl (pc := 12) d_X12_mixed_12 ?_
  refine wp_lload_n (pc := 13) d_X12_mixed_13 rfl ?_
  refine wp_bipush (pc := 14) (v := 11) d_X12_mixed_14 rfl ?_
  refine wp_lushr (pc := 16) d_X12_mixed_16 ?_
  refine wp_lor (pc := 17) d_X12_mixed_17 ?_
  refine wp_ldc2 (pc := 18) (v := (-4417276706812531889)) d_X12_mixed_18 cj_X12_711 ?_
  refine wp_lmul (pc := 21) d_X12_mixed_21 ?_
  exact wp_lret (pc := 22) d_X12_mixed_22 rfl h
