theorem d_X12_fewest_0 : decode prog_14_method_138_code 0 = .ok (.aload_n 0, 1) := by decide +kernel
theorem d_X12_fewest_1 : decode prog_14_method_138_code 1 = .ok (.iload_n 1, 1) := by decide +kernel
theorem d_X12_fewest_2 : decode prog_14_method_138_code 2 = .ok (.invokevirtual 453, 3) := by decide +kernel
theorem d_X12_fewest_5 : decode prog_14_method_138_code 5 = .ok (.ifCond .ne 5, 3) := by decide +kernel
theorem d_X12_fewest_8 : decode prog_14_method_138_code 8 = .ok (.iconst (-1), 1) := by decide +kernel
theorem d_X12_fewest_9 : decode prog_14_method_138_code 9 = .ok (.ireturn, 1) := by decide +kernel
theorem d_X12_fewest_10 : decode prog_14_method_138_code 10 = .ok (.aload_n 0, 1) := by decide +kernel
theorem d_X12_fewest_11 : decode prog_14_method_138_code 11 = .ok (.iload_n 1, 1) := by decide +kernel
theorem d_X12_fewest_12 : decode prog_14_method_138_code 12 = .ok (.invokevirtual 631, 3) := by decide +kernel
theorem d_X12_fewest_15 : decode prog_14_method_138_code 15 = .ok (.iconst 0, 1) := by decide +kernel
theorem d_X12_fewest_16 : decode prog_14_method_138_code 16 = .ok (.istore_n 2, 1) := by decide +kernel
theorem d_X12_fewest_17 : decode prog_14_method_138_code 17 = .ok (.iconst 0, 1) := by decide +kernel
theorem d_X12_fewest_18 : decode prog_14_method_138_code 18 = .ok (.istore_n 3, 1) := by decide +kernel
theorem d_X12_fewest_19 : decode prog_14_method_138_code 19 = .ok (.iconst 0, 1) := by decide +kernel
theorem d_X12_fewest_20 : decode prog_14_method_138_code 20 = .ok (.istore 4, 2) := by decide +kernel
theorem v_X12_fewest_0 {E : EE} {d : Nat} {Q : Option AV → AH → Prop} {x0 : Nat} {x1 : Int32} {G : AH} (h0 : 0 < d) (h : isO E G x0 12 ∧ (wpI E (d - 1) M_X12_isProblem [vr x0, vi x1] G (fun r1 G2 => (¬ r1 = 0 → isO E G2 x0 12 ∧ (wpV E (d - 1) M_X12_findMasks [vr x0, vi x1] G2 (fun G3 => wp E d M_X12_fewest 22 [some (vr x0), some (vi x1), some (vi 0), some (vi 0), some (vi 0)] [] G3 Q))) ∧ (r1 = 0 → Q (some (vi (-1))) G2)))) : wp E d M_X12_fewest 0 [some (vr x0), some (vi x1), none, none, none] [] G Q := by
  refine wp_aload_n (pc := 0) d_X12_fewest_0 rfl ?_
  refine wp_iload_n (pc := 1) d_X12_fewest_1 rfl ?_
  obtain ⟨ho5, h⟩ := h
  refine wp_invV (pc := 2) (N := M_X12_isProblem) (As := [vi _]) (rest := []) (r := (cn_12, ct_12, 95)) d_X12_fewest_2 ml_X12_453 mk_X12_isProblem mv_X12_isProblem h0 ho5 rfl rfl (Nat.le_of_ble_eq_true rfl) ?_
  refine wpM.mono h (fun rr G2 hr => ?_)
  obtain ⟨r1, rfl, h⟩ := hr
  show wp E d M_X12_fewest 5 [some (vr _), some (vi _), none, none, none] [vi _] G2 Q
  refine wp_if_ne (pc := 5) (tgt := 10) d_X12_fewest_5 (by decide) (fun hc => ?_) (fun hc => ?_)
  · have h := h.1 hc
    refine wp_aload_n (pc := 10) d_X12_fewest_10 rfl ?_
    refine wp_iload_n (pc := 11) d_X12_fewest_11 rfl ?_
    obtain ⟨ho4, h⟩ := h
    refine wp_invV (pc := 12) (N := M_X12_findMasks) (As := [vi _]) (rest := []) (r := (cn_12, ct_12, 95)) d_X12_fewest_12 ml_X12_631 mk_X12_findMasks mv_X12_findMasks h0 ho4 rfl rfl (Nat.le_of_ble_eq_true rfl) ?_
    refine wpM.mono h (fun rr G3 hr => ?_)
    obtain ⟨rfl, h⟩ := hr
    show wp E d M_X12_fewest 15 [some (vr _), some (vi _), none, none, none] [] G3 Q
    refine wp_iconst (pc := 15) (v := 0) d_X12_fewest_15 rfl ?_
    refine wp_istore_n (pc := 16) (lv' := [some (vr _), some (vi _), some (vi _), none, none]) d_X12_fewest_16 (by decide) rfl ?_
    refine wp_iconst (pc := 17) (v := 0) d_X12_fewest_17 rfl ?_
    refine wp_istore_n (pc := 18) (lv' := [some (vr _), some (vi _), some (vi _), some (vi _), none]) d_X12_fewest_18 (by decide) rfl ?_
    refine wp_iconst (pc := 19) (v := 0) d_X12_fewest_19 rfl ?_
    refine wp_istore (pc := 20) (lv' := [some (vr _), some (vi _), some (vi _), some (vi _), some (vi _)]) d_X12_fewest_20 (by decide) rfl ?_
    refine wp_sub ?_ h
    exact ⟨rfl, ⟨rfl, ⟨rfl, ⟨rfl, ⟨rfl, trivial⟩⟩⟩⟩⟩
  · have h := h.2 hc
    refine wp_iconst (pc := 8) (v := (-1)) d_X12_fewest_8 rfl ?_
    exact wp_iret (pc := 9) d_X12_fewest_9 rfl h
theorem d_X12_clash_0 : decode prog_14_method_136_code 0 = .ok (.aload_n 0, 1) := by decide +kernel
theorem d_X12_clash_1 : decode prog_14_method_136_code 1 = .ok (.iload_n 1, 1) := by decide +kernel
theorem d_X12_clash_2 : decode prog_14_method_136_code 2 = .ok (.invokevirtual 453, 3) := by decide +kernel
theorem d_X12_clash_5 : decode prog_14_method_136_code 5 = .ok (.ifCond .ne 5, 3) := by decide +kernel
theorem d_X12_clash_8 : decode prog_14_method_136_code 8 = .ok (.iconst (-1), 1) := by decide +kernel
theorem d_X12_clash_9 : decode prog_14_method_136_code 9 = .ok (.ireturn, 1) := by decide +kernel
theorem d_X12_clash_10 : decode prog_14_method_136_code 10 = .ok (.aload_n 0, 1) := by decide +kernel
theorem d_X12_clash_11 : decode prog_14_method_136_code 11 = .ok (.iload_n 1, 1) := by decide +kernel
theorem d_X12_clash_12 : decode prog_14_method_136_code 12 = .ok (.invokevirtual 631, 3) := by decide +kernel
theorem d_X12_clash_15 : decode prog_14_method_136_code 15 = .ok (.iconst 1, 1) := by decide +kernel
theorem d_X12_clash_16 : decode prog_14_method_136_code 16 = .ok (.aload_n 0, 1) := by decide +kernel
theorem d_X12_clash_17 : decode prog_14_method_136_code 17 = .ok (.getfield 628, 3) := by decide +kernel
theorem d_X12_clash_20 : decode prog_14_method_136_code 20 = .ok (.ishl, 1) := by decide +kernel
theorem d_X12_clash_21 : decode prog_14_method_136_code 21 = .ok (.iconst 1, 1) := by decide +kernel
theorem d_X12_clash_22 : decode prog_14_method_136_code 22 = .ok (.isub, 1) := by decide +kernel
theorem d_X12_clash_23 : decode prog_14_method_136_code 23 = .ok (.istore_n 2, 1) := by decide +kernel
theorem d_X12_clash_24 : decode prog_14_method_136_code 24 = .ok (.aload_n 0, 1) := by decide +kernel
theorem d_X12_clash_25 : decode prog_14_method_136_code 25 = .ok (.iload_n 2, 1) := by decide +kernel
theorem d_X12_clash_26 : decode prog_14_method_136_code 26 = .ok (.invokevirtual 634, 3) := by decide +kernel
theorem d_X12_clash_29 : decode prog_14_method_136_code 29 = .ok (.ifCond .ne 5, 3) := by decide +kernel
theorem d_X12_clash_32 : decode prog_14_method_136_code 32 = .ok (.iconst 0, 1) := by decide +kernel
theorem d_X12_clash_33 : decode prog_14_method_136_code 33 = .ok (.ireturn, 1) := by decide +kernel
theorem d_X12_clash_34 : decode prog_14_method_136_code 34 = .ok (.iconst 0, 1) := by decide +kernel
theorem d_X12_clash_35 : decode prog_14_method_136_code 35 = .ok (.istore_n 3, 1) := by decide +kernel
theorem v_X12_clash_0 {E : EE} {d : Nat} {Q : Option AV → AH → Prop} {x0 : Nat} {x1 : Int32} {G : AH} (h0 : 0 < d) (h : isO E G x0 12 ∧ (wpI E (d - 1) M_X12_isProblem [vr x0, vi x1] G (fun r1 G2 => (¬ r1 = 0 → isO E G2 x0 12 ∧ (wpV E (d - 1) M_X12_findMasks [vr x0, vi x1] G2 (fun G3 => isO E G3 x0 12 ∧ (wpI E (d - 1) M_X12_clashes [vr x0, vi ((1 <<< ((gI G3 x0 73) &&& 31)) - 1)] G3 (fun r5 G6 => (¬ r5 = 0 → wp E d M_X12_clash 36 [some (vr x0), some (vi x1), some (vi ((1 <<< ((gI G3 x0 73) &&& 31)) - 1)), some (vi 0), none] [] G6 Q) ∧ (r5 = 0 → Q (some (vi 0)) G6)))))) ∧ (r1 = 0 → Q (some (vi (-1))) G2)))) : wp E d M_X12_clash 0 [some (vr x0), some (vi x1), none, none, none] [] G Q := by
  refine wp_aload_n (pc := 0) d_X12_clash_0 rfl ?_
  refine wp_iload_n (pc := 1) d_X12_clash_1 rfl ?_
  obtain ⟨ho8, h⟩ := h
  refine wp_invV (pc := 2) (N := M_X12_isProblem) (As := [vi _]) (rest := []) (r := (cn_12, ct_12, 95)) d_X12_clash_2 ml_X12_453 mk_X12_isProblem mv_X12_isProblem h0 ho8 rfl rfl (Nat.le_of_ble_eq_true rfl) ?_
  refine wpM.mono h (fun rr G2 hr => ?_)
  obtain ⟨r1, rfl, h⟩ := hr
  show wp E d M_X12_clash 5 [some (vr _), some (vi _), none, none, none] [vi _] G2 Q
  refine wp_if_ne (pc := 5) (tgt := 10) d_X12_clash_5 (by decide) (fun hc => ?_) (fun hc => ?_)
  · have h := h.1 hc
    refine wp_aload_n (pc := 10) d_X12_clash_10 rfl ?_
    refine wp_iload_n (pc := 11) d_X12_clash_11 rfl ?_
    obtain ⟨ho7, h⟩ := h
    refine wp_invV (pc := 12) (N := M_X12_findMasks) (As := [vi _]) (rest := []) (r := (cn_12, ct_12, 95)) d_X12_clash_12 ml_X12_631 mk_X12_findMasks mv_X12_findMasks h0 ho7 rfl rfl (Nat.le_of_ble_eq_true rfl) ?_
    refine wpM.mono h (fun rr G3 hr => ?_)
    obtain ⟨rfl, h⟩ := hr
    show wp E d M_X12_clash 15 [some (vr _), some (vi _), none, none, none] [] G3 Q
    refine wp_iconst (pc := 15) (v := 1) d_X12_clash_15 rfl ?_
    refine wp_aload_n (pc := 16) d_X12_clash_16 rfl ?_
    obtain ⟨ho4, h⟩ := h
    refine wp_getI (pc := 17) d_X12_clash_17 fl_X12_628 (fun _ _ _ => rfl) ho4 ?_
    refine wp_ishl (pc := 20) d_X12_clash_20 ?_
    refine wp_iconst (pc := 21) (v := 1) d_X12_clash_21 rfl ?_
    refine wp_isub (pc := 22) d_X12_clash_22 ?_
    refine wp_istore_n (pc := 23) (lv' := [some (vr _), some (vi _), some (vi _), none, none]) d_X12_clash_23 (by decide) rfl ?_
    refine wp_aload_n (pc := 24) d_X12_clash_24 rfl ?_
    refine wp_iload_n (pc := 25) d_X12_clash_25 rfl ?_
    refine wp_invV (pc := 26) (N := M_X12_clashes) (As := [vi _]) (rest := []) (r := (cn_12, ct_12, 95)) d_X12_clash_26 ml_X12_634 mk_X12_clashes mv_X12_clashes h0 ho4 rfl rfl (Nat.le_of_ble_eq_true rfl) ?_
    refine wpM.mono h (fun rr G6 hr => ?_)
    obtain ⟨r5, rfl, h⟩ := hr
    show wp E d M_X12_clash 29 [some (vr _), some (vi _), some (vi _), none, none] [vi _] G6 Q
    refine wp_if_ne (pc := 29) (tgt := 34) d_X12_clash_29 (by decide) (fun hc => ?_) (fun hc => ?_)
    · have h := h.1 hc
      refine wp_iconst (pc := 34) (v := 0) d_X12_clash_34 rfl ?_
      refine wp_istore_n (pc := 35) (lv' := [some (vr _), some (vi _), some (vi _), some (vi _), none]) d_X12_clash_35 (by decide) rfl ?_
      refine wp_sub ?_ h
      exact ⟨rfl, ⟨rfl, ⟨rfl, ⟨rfl, trivial⟩⟩⟩⟩
    · have h := h.2 hc
      refine wp_iconst (pc := 32) (v := 0) d_X12_clash_32 rfl ?_
      exact wp_iret (pc := 33) d_X12_clash_33 rfl h
  · have h := h.2 hc
    refine wp_iconst (pc := 8) (v := (-1)) d_X12_clash_8 rfl ?_
    exact wp_iret (pc := 9) d_X12_clash_9 rfl h
theorem d_X12_near_0 : decode prog_14_method_132_code 0 = .ok (.aload_n 0, 1) := by decide +kernel
theorem d_X12_near_1 : decode prog_14_method_132_code 1 = .ok (.iload_n 1, 1) := by decide +kernel
theorem d_X12_near_2 : decode prog_14_method_132_code 2 = .ok (.invokevirtual 453, 3) := by decide +kernel
theorem d_X12_near_5 : decode prog_14_method_132_code 5 = .ok (.ifCond .ne 5, 3) := by decide +kernel
theorem d_X12_near_8 : decode prog_14_method_132_code 8 = .ok (.iconst (-1), 1) := by decide +kernel
theorem d_X12_near_9 : decode prog_14_method_132_code 9 = .ok (.ireturn, 1) := by decide +kernel
theorem d_X12_near_10 : decode prog_14_method_132_code 10 = .ok (.aload_n 0, 1) := by decide +kernel
theorem d_X12_near_11 : decode prog_14_method_132_code 11 = .ok (.iload_n 1, 1) := by decide +kernel
theorem d_X12_near_12 : decode prog_14_method_132_code 12 = .ok (.invokevirtual 571, 3) := by decide +kernel
theorem d_X12_near_15 : decode prog_14_method_132_code 15 = .ok (.aload_n 0, 1) := by decide +kernel
theorem d_X12_near_16 : decode prog_14_method_132_code 16 = .ok (.iload_n 1, 1) := by decide +kernel
theorem d_X12_near_17 : decode prog_14_method_132_code 17 = .ok (.iconst (-1), 1) := by decide +kernel
theorem d_X12_near_18 : decode prog_14_method_132_code 18 = .ok (.iconst 0, 1) := by decide +kernel
theorem d_X12_near_19 : decode prog_14_method_132_code 19 = .ok (.invokevirtual 592, 3) := by decide +kernel
theorem d_X12_near_22 : decode prog_14_method_132_code 22 = .ok (.istore_n 3, 1) := by decide +kernel
theorem d_X12_near_23 : decode prog_14_method_132_code 23 = .ok (.iconst (-1), 1) := by decide +kernel
theorem d_X12_near_24 : decode prog_14_method_132_code 24 = .ok (.istore 4, 2) := by decide +kernel
theorem d_X12_near_26 : decode prog_14_method_132_code 26 = .ok (.iconst 0, 1) := by decide +kernel
theorem d_X12_near_27 : decode prog_14_method_132_code 27 = .ok (.istore 5, 2) := by decide +kernel
theorem d_X12_near_29 : decode prog_14_method_132_code 29 = .ok (.iconst 0, 1) := by decide +kernel
theorem d_X12_near_30 : decode prog_14_method_132_code 30 = .ok (.istore 6, 2) := by decide +kernel
theorem v_X12_near_0 {E : EE} {d : Nat} {Q : Option AV → AH → Prop} {x0 : Nat} {x1 : Int32} {x2 : Int32} {G : AH} (h0 : 0 < d) (h : isO E G x0 12 ∧ (wpI E (d - 1) M_X12_isProblem [vr x0, vi x1] G (fun r1 G2 => (¬ r1 = 0 → isO E G2 x0 12 ∧ (wpV E (d - 1) M_X12_know [vr x0, vi x1] G2 (fun G3 => isO E G3 x0 12 ∧ (wpI E (d - 1) M_X12_firstBest [vr x0, vi x1, vi (-1), vi 0] G3 (fun r4 G5 => wp E d M_X12_near 32 [some (vr x0), some (vi x1), some (vi x2), some (vi r4), some (vi (-1)), some (vi 0), some (vi 0), none, none] [] G5 Q))))) ∧ (r1 = 0 → Q (some (vi (-1))) G2)))) : wp E d M_X12_near 0 [some (vr x0), some (vi x1), some (vi x2), none, none, none, none, none, none] [] G Q := by
  refine wp_aload_n (pc := 0) d_X12_near_0 rfl ?_
  refine wp_iload_n (pc := 1) d_X12_near_1 rfl ?_
  obtain ⟨ho8, h⟩ := h
  refine wp_invV (pc := 2) (N := M_X12_isProblem) (As := [vi _]) (rest := []) (r := (cn_12, ct_12, 95)) d_X12_near_2 ml_X12_453 mk_X12_isProblem mv_X12_isProblem h0 ho8 rfl rfl (Nat.le_of_ble_eq_true rfl) ?_
  refine wpM.mono h (fun rr G2 hr => ?_)
  obtain ⟨r1, rfl, h⟩ := hr
  show wp E d M_X12_near 5 [some (vr _), some (vi _), some (vi _), none, none, none, none, none, none] [vi _] G2 Q
  refine wp_if_ne (pc := 5) (tgt := 10) d_X12_near_5 (by decide) (fun hc => ?_) (fun hc => ?_)
  · have h := h.1 hc
    refine wp_aload_n (pc := 10) d_X12_near_10 rfl ?_
    refine wp_iload_n (pc := 11) d_X12_near_11 rfl ?_
    obtain ⟨ho7, h⟩ := h
    refine wp_invV (pc := 12) (N := M_X12_know) (As := [vi _]) (rest := []) (r := (cn_12, ct_12, 95)) d_X12_near_12 ml_X12_571 mk_X12_know mv_X12_know h0 ho7 rfl rfl (Nat.le_of_ble_eq_true rfl) ?_
    refine wpM.mono h (fun rr G3 hr => ?_)
    obtain ⟨rfl, h⟩ := hr
    show wp E d M_X12_near 15 [some (vr _), some (vi _), some (vi _), none, none, none, none, none, none] [] G3 Q
    refine wp_aload_n (pc := 15) d_X12_near_15 rfl ?_
    refine wp_iload_n (pc := 16) d_X12_near_16 rfl ?_
    refine wp_iconst (pc := 17) (v := (-1)) d_X12_near_17 rfl ?_
    refine wp_iconst (pc := 18) (v := 0) d_X12_near_18 rfl ?_
    obtain ⟨ho6, h⟩ := h
    refine wp_invV (pc := 19) (N := M_X12_firstBest) (As := [vi _, vi _, vi _]) (rest := []) (r := (cn_12, ct_12, 95)) d_X12_near_19 ml_X12_592 mk_X12_firstBest mv_X12_firstBest h0 ho6 rfl rfl (Nat.le_of_ble_eq_true rfl) ?_
    refine wpM.mono h (fun rr G5 hr => ?_)
    obtain ⟨r4, rfl, h⟩ := hr
    show wp E d M_X12_near 22 [some (vr _), some (vi _), some (vi _), none, none, none, none, none, none] [vi _] G5 Q
    refine wp_istore_n (pc := 22) (lv' := [some (vr _), some (vi _), some (vi _), some (vi _), none, none, none, none, none]) d_X12_near_22 (by decide) rfl ?_
    refine wp_iconst (pc := 23) (v := (-1)) d_X12_near_23 rfl ?_
    refine wp_istore (pc := 24) (lv' := [some (vr _), some (vi _), some (vi _), some (vi _), some (vi _), none, none, none, none]) d_X12_near_24 (by decide) rfl ?_
    refine wp_iconst (pc := 26) (v := 0) d_X12_near_26 rfl ?_
    refine wp_istore (pc := 27) (lv' := [some (vr _), some (vi _), some (vi _), some (vi _), some (vi _), some (vi _), none, none, none]) d_X12_near_27 (by decide) rfl ?_
    refine wp_iconst (pc := 29) (v := 0) d_X12_near_29 rfl ?_
    refine wp_istore (pc := 30) (lv' := [some (vr _), some (vi _), some (vi _), some (vi _), some (vi _), some (vi _), some (vi _), none, none]) d_X12_near_30 (by decide) rfl ?_
    refine wp_sub ?_ h
    exact ⟨rfl, ⟨rfl, ⟨rfl, ⟨rfl, ⟨rfl, ⟨rfl, ⟨rfl, trivial⟩⟩⟩⟩⟩⟩⟩
  · have h := h.2 hc
    refine wp_iconst (pc := 8) (v := (-1)) d_X12_near_8 rfl ?_
    exact wp_iret (pc := 9) d_X12_near_9 rfl h
theorem d_X12_frontPlan_0 : decode prog_14_method_131_code 0 = .ok (.aload_n 0, 1) := by decide +kernel
theorem d_X12_frontPlan_1 : decode prog_14_method_131_code 1 = .ok (.iload_n 1, 1) := by decide +kernel
theorem d_X12_frontPlan_2 : decode prog_14_method_131_code 2 = .ok (.invokevirtual 453, 3) := by decide +kernel
theorem d_X12_frontPlan_5 : decode prog_14_method_131_code 5 = .ok (.ifCond .ne 5, 3) := by decide +kernel
theorem d_X12_frontPlan_8 : decode prog_14_method_131_code 8 = .ok (.iconst 0, 1) := by decide +kernel
theorem d_X12_frontPlan_9 : decode prog_14_method_131_code 9 = .ok (.ireturn, 1) := by decide +kernel
theorem d_X12_frontPlan_10 : decode prog_14_method_131_code 10 = .ok (.aload_n 0, 1) := by decide +kernel
theorem d_X12_frontPlan_11 : decode prog_14_method_131_code 11 = .ok (.iload_n 1, 1) := by decide +kernel
theorem d_X12_frontPlan_12 : decode prog_14_method_131_code 12 = .ok (.invokevirtual 571, 3) := by decide +kernel
theorem d_X12_frontPlan_15 : decode prog_14_method_131_code 15 = .ok (.aload_n 0, 1) := by decide +kernel
theorem d_X12_frontPlan_16 : decode prog_14_method_131_code 16 = .ok (.iload_n 1, 1) := by decide +kernel
theorem d_X12_frontPlan_17 : decode prog_14_method_131_code 17 = .ok (.iload_n 2, 1) := by decide +kernel
theorem d_X12_frontPlan_18 : decode prog_14_method_131_code 18 = .ok (.invokevirtual 622, 3) := by decide +kernel
theorem d_X12_frontPlan_21 : decode prog_14_method_131_code 21 = .ok (.ifCond .ne 5, 3) := by decide +kernel
theorem d_X12_frontPlan_24 : decode prog_14_method_131_code 24 = .ok (.iconst 0, 1) := by decide +kernel
theorem d_X12_frontPlan_25 : decode prog_14_method_131_code 25 = .ok (.ireturn, 1) := by decide +kernel
theorem d_X12_frontPlan_26 : decode prog_14_method_131_code 26 = .ok (.iconst 0, 1) := by decide +kernel
theorem d_X12_frontPlan_27 : decode prog_14_method_131_code 27 = .ok (.istore_n 3, 1) := by decide +kernel
theorem v_X12_frontPlan_0 {E : EE} {d : Nat} {Q : Option AV → AH → Prop} {x0 : Nat} {x1 : Int32} {x2 : Int32} {G : AH} (h0 : 0 < d) (h : isO E G x0 12 ∧ (wpI E (d - 1) M_X12_isProblem [vr x0, vi x1] G (fun r1 G2 => (¬ r1 = 0 → isO E G2 x0 12 ∧ (wpV E (d - 1) M_X12_know [vr x0, vi x1] G2 (fun G3 => isO E G3 x0 12 ∧ (wpI E (d - 1) M_X12_findPair [vr x0, vi x1, vi x2] G3 (fun r4 G5 => (¬ r4 = 0 → wp E d M_X12_frontPlan 28 [some (vr x0), some (vi x1), some (vi x2), some (vi 0)] [] G5 Q) ∧ (r4 = 0 → Q (some (vi 0)) G5)))))) ∧ (r1 = 0 → Q (some (vi 0)) G2)))) : wp E d M_X12_frontPlan 0 [some (vr x0), some (vi x1), some (vi x2), none] [] G Q := by
  refine wp_aload_n (pc := 0) d_X12_frontPlan_0 rfl ?_
  refine wp_iload_n (pc := 1) d_X12_frontPlan_1 rfl ?_
  obtain ⟨ho8, h⟩ := h
  refine wp_invV (pc := 2) (N := M_X12_isProblem) (As := [vi _]) (rest := []) (r := (cn_12, ct_12, 95)) d_X12_frontPlan_2 ml_X12_453 mk_X12_isProblem mv_X12_isProblem h0 ho8 rfl rfl (Nat.le_of_ble_eq_true rfl) ?_
  refine wpM.mono h (fun rr G2 hr => ?_)
  obtain ⟨r1, rfl, h⟩ := hr
  show wp E d M_X12_frontPlan 5 [some (vr _), some (vi _), some (vi _), none] [vi _] G2 Q
  refine wp_if_ne (pc := 5) (tgt := 10) d_X12_frontPlan_5 (by decide) (fun hc => ?_) (fun hc => ?_)
  · have h := h.1 hc
    refine wp_aload_n (pc := 10) d_X12_frontPlan_10 rfl ?_
    refine wp_iload_n (pc := 11) d_X12_frontPlan_11 rfl ?_
    obtain ⟨ho7, h⟩ := h
    refine wp_invV (pc := 12) (N := M_X12_know) (As := [vi _]) (rest := []) (r := (cn_12, ct_12, 95)) d_X12_frontPlan_12 ml_X12_571 mk_X12_know mv_X12_know h0 ho7 rfl rfl (Nat.le_of_ble_eq_true rfl) ?_
    refine wpM.mono h (fun rr G3 hr => ?_)
    obtain ⟨rfl, h⟩ := hr
    show wp E d M_X12_frontPlan 15 [some (vr _), some (vi _), some (vi _), none] [] G3 Q
    refine wp_aload_n (pc := 15) d_X12_frontPlan_15 rfl ?_
    refine wp_iload_n (pc := 16) d_X12_frontPlan_16 rfl ?_
    refine wp_iload_n (pc := 17) d_X12_frontPlan_17 rfl ?_
    obtain ⟨ho6, h⟩ := h
    refine wp_invV (pc := 18) (N := M_X12_findPair) (As := [vi _, vi _]) (rest := []) (r := (cn_12, ct_12, 95)) d_X12_frontPlan_18 ml_X12_622 mk_X12_findPair mv_X12_findPair h0 ho6 rfl rfl (Nat.le_of_ble_eq_true rfl) ?_
    refine wpM.mono h (fun rr G5 hr => ?_)
    obtain ⟨r4, rfl, h⟩ := hr
    show wp E d M_X12_frontPlan 21 [some (vr _), some (vi _), some (vi _), none] [vi _] G5 Q
    refine wp_if_ne (pc := 21) (tgt := 26) d_X12_frontPlan_21 (by decide) (fun hc => ?_) (fun hc => ?_)
    · have h := h.1 hc
      refine wp_iconst (pc := 26) (v := 0) d_X12_frontPlan_26 rfl ?_
      refine wp_istore_n (pc := 27) (lv' := [some (vr _), some (vi _), some (vi _), some (vi _)]) d_X12_frontPlan_27 (by decide) rfl ?_
      refine wp_sub ?_ h
      exact ⟨rfl, ⟨rfl, ⟨rfl, ⟨rfl, trivial⟩⟩⟩⟩
    · have h := h.2 hc
      refine wp_iconst (pc := 24) (v := 0) d_X12_frontPlan_24 rfl ?_
      exact wp_zret (pc := 25) d_X12_frontPlan_25 rfl rfl h
  · have h := h.2 hc
    refine wp_iconst (pc := 8) (v := 0) d_X12_frontPlan_8 rfl ?_
    exact wp_zret (pc := 9) d_X12_frontPlan_9 rfl rfl h
theorem d_X12_frontAt_0 : decode prog_14_method_130_code 0 = .ok (.aload_n 0, 1) := by decide +kernel
theorem d_X12_frontAt_1 : decode prog_14_method_130_code 1 = .ok (.iload_n 1, 1) := by decide +kernel
theorem d_X12_frontAt_2 : decode prog_14_method_130_code 2 = .ok (.invokevirtual 453, 3) := by decide +kernel
theorem d_X12_frontAt_5 : decode prog_14_method_130_code 5 = .ok (.ifCond .eq 12, 3) := by decide +kernel
theorem d_X12_frontAt_8 : decode prog_14_method_130_code 8 = .ok (.iload_n 3, 1) := by decide +kernel
theorem d_X12_frontAt_9 : decode prog_14_method_130_code 9 = .ok (.ifCond .lt 8, 3) := by decide +kernel
theorem d_X12_frontAt_12 : decode prog_14_method_130_code 12 = .ok (.iload_n 3, 1) := by decide +kernel
theorem d_X12_frontAt_13 : decode prog_14_method_130_code 13 = .ok (.iconst 2, 1) := by decide +kernel
theorem d_X12_frontAt_14 : decode prog_14_method_130_code 14 = .ok (.if_icmp .le 7, 3) := by decide +kernel
theorem d_X12_frontAt_17 : decode prog_14_method_130_code 17 = .ok (.ldc2_w 466, 3) := by decide +kernel
theorem d_X12_frontAt_20 : decode prog_14_method_130_code 20 = .ok (.lreturn, 1) := by decide +kernel
theorem d_X12_frontAt_21 : decode prog_14_method_130_code 21 = .ok (.aload_n 0, 1) := by decide +kernel
theorem d_X12_frontAt_22 : decode prog_14_method_130_code 22 = .ok (.iload_n 1, 1) := by decide +kernel
theorem d_X12_frontAt_23 : decode prog_14_method_130_code 23 = .ok (.invokevirtual 571, 3) := by decide +kernel
theorem d_X12_frontAt_26 : decode prog_14_method_130_code 26 = .ok (.aload_n 0, 1) := by decide +kernel
theorem d_X12_frontAt_27 : decode prog_14_method_130_code 27 = .ok (.iload_n 1, 1) := by decide +kernel
theorem d_X12_frontAt_28 : decode prog_14_method_130_code 28 = .ok (.iload_n 2, 1) := by decide +kernel
theorem d_X12_frontAt_29 : decode prog_14_method_130_code 29 = .ok (.invokevirtual 622, 3) := by decide +kernel
theorem d_X12_frontAt_32 : decode prog_14_method_130_code 32 = .ok (.ifCond .ne 7, 3) := by decide +kernel
theorem d_X12_frontAt_35 : decode prog_14_method_130_code 35 = .ok (.ldc2_w 466, 3) := by decide +kernel
theorem d_X12_frontAt_38 : decode prog_14_method_130_code 38 = .ok (.lreturn, 1) := by decide +kernel
theorem d_X12_frontAt_39 : decode prog_14_method_130_code 39 = .ok (.iload_n 3, 1) := by decide +kernel
theorem d_X12_frontAt_40 : decode prog_14_method_130_code 40 = .ok (.ifCond .le 20, 3) := by decide +kernel
theorem d_X12_frontAt_43 : decode prog_14_method_130_code 43 = .ok (.iload_n 3, 1) := by decide +kernel
theorem d_X12_frontAt_44 : decode prog_14_method_130_code 44 = .ok (.iconst 1, 1) := by decide +kernel
theorem d_X12_frontAt_45 : decode prog_14_method_130_code 45 = .ok (.if_icmp .ne 10, 3) := by decide +kernel
theorem d_X12_frontAt_48 : decode prog_14_method_130_code 48 = .ok (.aload_n 0, 1) := by decide +kernel
theorem d_X12_frontAt_49 : decode prog_14_method_130_code 49 = .ok (.getfield 612, 3) := by decide +kernel
theorem d_X12_frontAt_52 : decode prog_14_method_130_code 52 = .ok (.goto 7, 3) := by decide +kernel
theorem d_X12_frontAt_55 : decode prog_14_method_130_code 55 = .ok (.aload_n 0, 1) := by decide +kernel
theorem d_X12_frontAt_56 : decode prog_14_method_130_code 56 = .ok (.getfield 615, 3) := by decide +kernel
theorem d_X12_frontAt_59 : decode prog_14_method_130_code 59 = .ok (.lreturn, 1) := by decide +kernel
theorem d_X12_frontAt_60 : decode prog_14_method_130_code 60 = .ok (.lconst 0, 1) := by decide +kernel
theorem d_X12_frontAt_61 : decode prog_14_method_130_code 61 = .ok (.lstore 4, 2) := by decide +kernel
theorem d_X12_frontAt_63 : decode prog_14_method_130_code 63 = .ok (.iconst 0, 1) := by decide +kernel
theorem d_X12_frontAt_64 : decode prog_14_method_130_code 64 = .ok (.istore 6, 2) := by decide +kernel
theorem v_X12_frontAt_0 {E : EE} {d : Nat} {Q : Option AV → AH → Prop} {x0 : Nat} {x1 : Int32} {x2 : Int32} {x3 : Int32} {G : AH} (h0 : 0 < d) (h : isO E G x0 12 ∧ (wpI E (d - 1) M_X12_isProblem [vr x0, vi x1] G (fun r1 G2 => (r1 = 0 → Q (some (vj (-9223372036854775808))) G2) ∧ (¬ (r1 = 0) → (x3 < 0 → Q (some (vj (-9223372036854775808))) G2) ∧ (¬ (x3 < 0) → (x3 ≤ 2 → isO E G2 x0 12 ∧ (wpV E (d - 1) M_X12_know [vr x0, vi x1] G2 (fun G3 => isO E G3 x0 12 ∧ (wpI E (d - 1) M_X12_findPair [vr x0, vi x1, vi x2] G3 (fun r4 G5 => (¬ r4 = 0 → (x3 ≤ 0 → wp E d M_X12_frontAt 66 [some (vr x0), some (vi x1), some (vi x2), some (vi x3), some (vj 0), none, some (vi 0)] [] G5 Q) ∧ (¬ (x3 ≤ 0) → (¬ x3 = 1 → isO E G5 x0 12 ∧ (Q (some (vj (gJ G5 x0 70))) G5)) ∧ (x3 = 1 → isO E G5 x0 12 ∧ (Q (some (vj (gJ G5 x0 69))) G5)))) ∧ (r4 = 0 → Q (some (vj (-9223372036854775808))) G5)))))) ∧ (¬ (x3 ≤ 2) → Q (some (vj (-9223372036854775808))) G2)))))) : wp E d M_X12_frontAt 0 [some (vr x0), some (vi x1), some (vi x2), some (vi x3), none, none, none] [] G Q := by
  refine wp_aload_n (pc := 0) d_X12_frontAt_0 rfl ?_
  refine wp_iload_n (pc := 1) d_X12_frontAt_1 rfl ?_
  obtain ⟨ho10, h⟩ := h
  refine wp_invV (pc := 2) (N := M_X12_isProblem) (As := [vi _]) (rest := []) (r := (cn_12, ct_12, 95)) d_X12_frontAt_2 ml_X12_453 mk_X12_isProblem mv_X12_isProblem h0 ho10 rfl rfl (Nat.le_of_ble_eq_true rfl) ?_
  refine wpM.mono h (fun rr G2 hr => ?_)
  obtain ⟨r1, rfl, h⟩ := hr
  show wp E d M_X12_frontAt 5 [some (vr _), some (vi _), some (vi _), some (vi _), none, none, none] [vi _] G2 Q
  refine wp_if_eq (pc := 5) (tgt := 17) d_X12_frontAt_5 (by decide) (fun hc => ?_) (fun hc => ?_)
  · have h := h.1 hc
    refine wp_ldc2 (pc := 17) (v := (-9223372036854775808)) d_X12_frontAt_17 cj_X12_466 ?_
    exact wp_lret (pc := 20) d_X12_frontAt_20 rfl h
  · have h := h.2 hc
    refine wp_iload_n (pc := 8) d_X12_frontAt_8 rfl ?_
    refine wp_if_lt (pc := 9) (tgt := 17) d_X12_frontAt_9 (by decide) (fun hc => ?_) (fun hc => ?_)
    · have h := h.1 hc
      refine wp_ldc2 (pc := 17) (v := (-9223372036854775808)) d_X12_frontAt_17 cj_X12_466 ?_
      exact wp_lret (pc := 20) d_X12_frontAt_20 rfl h
    · have h := h.2 hc
      refine wp_iload_n (pc := 12) d_X12_frontAt_12 rfl ?_
      refine wp_iconst (pc := 13) (v := 2) d_X12_frontAt_13 rfl ?_
      refine wp_icmp_le (pc := 14) (tgt := 21) d_X12_frontAt_14 (by decide) (fun hc => ?_) (fun hc => ?_)
      · have h := h.1 hc
        refine wp_aload_n (pc := 21) d_X12_frontAt_21 rfl ?_
        refine wp_iload_n (pc := 22) d_X12_frontAt_22 rfl ?_
        obtain ⟨ho9, h⟩ := h
        refine wp_invV (pc := 23) (N := M_X12_know) (As := [vi _]) (rest := []) (r := (cn_12, ct_12, 95)) d_X12_frontAt_23 ml_X12_571 mk_X12_know mv_X12_know h0 ho9 rfl rfl (Nat.le_of_ble_eq_true rfl) ?_
        refine wpM.mono h (fun rr G3 hr => ?_)
        obtain ⟨rfl, h⟩ := hr
        show wp E d M_X12_frontAt 26 [some (vr _), some (vi _), some (vi _), some (vi _), none, none, none] [] G3 Q
        refine wp_aload_n (pc := 26) d_X12_frontAt_26 rfl ?_
        refine wp_iload_n (pc := 27) d_X12_frontAt_27 rfl ?_
        refine wp_iload_n (pc := 28) d_X12_frontAt_28 rfl ?_
        obtain ⟨ho8, h⟩ := h
        refine wp_invV (pc := 29) (N := M_X12_findPair) (As := [vi _, vi _]) (rest := []) (r := (cn_12, ct_12, 95)) d_X12_frontAt_29 ml_X12_622 mk_X12_findPair mv_X12_findPair h0 ho8 rfl rfl (Nat.le_of_ble_eq_true rfl) ?_
        refine wpM.mono h (fun rr G5 hr => ?_)
        obtain ⟨r4, rfl, h⟩ := hr
        show wp E d M_X12_frontAt 32 [some (vr _), some (vi _), some (vi _), some (vi _), none, none, none] [vi _] G5 Q
        refine wp_if_ne (pc := 32) (tgt := 39) d_X12_frontAt_32 (by decide) (fun hc => ?_) (fun hc => ?_)
        · have h := h.1 hc
          refine wp_iload_n (pc := 39) d_X12_frontAt_39 rfl ?_
          refine wp_if_le (pc := 40) (tgt := 60) d_X12_frontAt_40 (by decide) (fun hc => ?_) (fun hc => ?_)
          · have h := h.1 hc
            refine wp_lconst (pc := 60) (v := 0) d_X12_frontAt_60 rfl ?_
            refine wp_lstore (pc := 61) (lv' := [some (vr _), some (vi _), some (vi _), some (vi _), some (vj _), none, none]) d_X12_frontAt_61 (by decide) rfl ?_
            refine wp_iconst (pc := 63) (v := 0) d_X12_frontAt_63 rfl ?_
            refine wp_istore (pc := 64) (lv' := [some (vr _), some (vi _), some (vi _), some (vi _), some (vj _), none, some (vi _)]) d_X12_frontAt_64 (by decide) rfl ?_
            refine wp_sub ?_ h
            exact ⟨rfl, ⟨rfl, ⟨rfl, ⟨rfl, ⟨rfl, ⟨rfl, trivial⟩⟩⟩⟩⟩⟩
          · have h := h.2 hc
            refine wp_iload_n (pc := 43) d_X12_frontAt_43 rfl ?_
            refine wp_iconst (pc := 44) (v := 1) d_X12_frontAt_44 rfl ?_
            refine wp_icmp_ne (pc := 45) (tgt := 55) d_X12_frontAt_45 (by decide) (fun hc => ?_) (fun hc => ?_)
            · have h := h.1 hc
              refine wp_aload_n (pc := 55) d_X12_frontAt_55 rfl ?_
              obtain ⟨ho6, h⟩ := h
              refine wp_getJ (pc := 56) d_X12_frontAt_56 fl_X12_615 (fun _ _ _ => rfl) ho6 ?_
              exact wp_lret (pc := 59) d_X12_frontAt_59 rfl h
            · have h := h.2 hc
              refine wp_aload_n (pc := 48) d_X12_frontAt_48 rfl ?_
              obtain ⟨ho7, h⟩ := h
              refine wp_getJ (pc := 49) d_X12_frontAt_49 fl_X12_612 (fun _ _ _ => rfl) ho7 ?_
              refine wp_goto (pc := 52) (tgt := 59) d_X12_frontAt_52 (by decide) ?_
              exact wp_lret (pc := 59) d_X12_frontAt_59 rfl h
        · have h := h.2 hc
          refine wp_ldc2 (pc := 35) (v := (-9223372036854775808)) d_X12_frontAt_35 cj_X12_466 ?_
          exact wp_lret (pc := 38) d_X12_frontAt_38 rfl h
      · have h := h.2 hc
        refine wp_ldc2 (pc := 17) (v := (-9223372036854775808)) d_X12_frontAt_17 cj_X12_466 ?_
        exact wp_lret (pc := 20) d_X12_frontAt_20 rfl h
theorem d_X12_front_0 : decode prog_14_method_128_code 0 = .ok (.aload_n 0, 1) := by decide +kernel
theorem d_X12_front_1 : decode prog_14_method_128_code 1 = .ok (.iload_n 1, 1) := by decide +kernel
theorem d_X12_front_2 : decode prog_14_method_128_code 2 = .ok (.invokevirtual 453, 3) := by decide +kernel
theorem d_X12_front_5 : decode prog_14_method_128_code 5 = .ok (.ifCond .ne 5, 3) := by decide +kernel
theorem d_X12_front_8 : decode prog_14_method_128_code 8 = .ok (.iconst (-1), 1) := by decide +kernel
theorem d_X12_front_9 : decode prog_14_method_128_code 9 = .ok (.ireturn, 1) := by decide +kernel
theorem d_X12_front_10 : decode prog_14_method_128_code 10 = .ok (.aload_n 0, 1) := by decide +kernel
theorem d_X12_front_11 : decode prog_14_method_128_code 11 = .ok (.iload_n 1, 1) := by decide +kernel
theorem d_X12_front_12 : decode prog_14_method_128_code 12 = .ok (.invokevirtual 571, 3) := by decide +kernel
theorem d_X12_front_15 : decode prog_14_method_128_code 15 = .ok (.iconst 0, 1) := by decide +kernel
theorem d_X12_front_16 : decode prog_14_method_128_code 16 = .ok (.istore_n 2, 1) := by decide +kernel
theorem d_X12_front_17 : decode prog_14_method_128_code 17 = .ok (.aload_n 0, 1) := by decide +kernel
theorem d_X12_front_18 : decode prog_14_method_128_code 18 = .ok (.iload_n 1, 1) := by decide +kernel
theorem d_X12_front_19 : decode prog_14_method_128_code 19 = .ok (.iconst 0, 1) := by decide +kernel
theorem d_X12_front_20 : decode prog_14_method_128_code 20 = .ok (.lconst 0, 1) := by decide +kernel
theorem d_X12_front_21 : decode prog_14_method_128_code 21 = .ok (.invokevirtual 618, 3) := by decide +kernel
theorem d_X12_front_24 : decode prog_14_method_128_code 24 = .ok (.istore_n 3, 1) := by decide +kernel
theorem v_X12_front_0 {E : EE} {d : Nat} {Q : Option AV → AH → Prop} {x0 : Nat} {x1 : Int32} {G : AH} (h0 : 0 < d) (h : isO E G x0 12 ∧ (wpI E (d - 1) M_X12_isProblem [vr x0, vi x1] G (fun r1 G2 => (¬ r1 = 0 → isO E G2 x0 12 ∧ (wpV E (d - 1) M_X12_know [vr x0, vi x1] G2 (fun G3 => isO E G3 x0 12 ∧ (wpI E (d - 1) M_X12_nextPair [vr x0, vi x1, vi 0, vj 0] G3 (fun r4 G5 => wp E d M_X12_front 25 [some (vr x0), some (vi x1), some (vi 0), some (vi r4)] [] G5 Q))))) ∧ (r1 = 0 → Q (some (vi (-1))) G2)))) : wp E d M_X12_front 0 [some (vr x0), some (vi x1), none, none] [] G Q := by
  refine wp_aload_n (pc := 0) d_X12_front_0 rfl ?_
  refine wp_iload_n (pc := 1) d_X12_front_1 rfl ?_
  obtain ⟨ho8, h⟩ := h
  refine wp_invV (pc := 2) (N := M_X12_isProblem) (As := [vi _]) (rest := []) (r := (cn_12, ct_12, 95)) d_X12_front_2 ml_X12_453 mk_X12_isProblem mv_X12_isProblem h0 ho8 rfl rfl (Nat.le_of_ble_eq_true rfl) ?_
  refine wpM.mono h (fun rr G2 hr => ?_)
  obtain ⟨r1, rfl, h⟩ := hr
  show wp E d M_X12_front 5 [some (vr _), some (vi _), none, none] [vi _] G2 Q
  refine wp_if_ne (pc := 5) (tgt := 10) d_X12_front_5 (by decide) (fun hc => ?_) (fun hc => ?_)
  · have h := h.1 hc
    refine wp_aload_n (pc := 10) d_X12_front_10 rfl ?_
    refine wp_iload_n (pc := 11) d_X12_front_11 rfl ?_
    obtain ⟨ho7, h⟩ := h
    refine wp_invV (pc := 12) (N := M_X12_know) (As := [vi _]) (rest := []) (r := (cn_12, ct_12, 95)) d_X12_front_12 ml_X12_571 mk_X12_know mv_X12_know h0 ho7 rfl rfl (Nat.le_of_ble_eq_true rfl) ?_
    refine wpM.mono h (fun rr G3 hr => ?_)
    obtain ⟨rfl, h⟩ := hr
    show wp E d M_X12_front 15 [some (vr _), some (vi _), none, none] [] G3 Q
    refine wp_iconst (pc := 15) (v := 0) d_X12_front_15 rfl ?_
    refine wp_istore_n (pc := 16) (lv' := [some (vr _), some (vi _), some (vi _), none]) d_X12_front_16 (by decide) rfl ?_
    refine wp_aload_n (pc := 17) d_X12_front_17 rfl ?_
    refine wp_iload_n (pc := 18) d_X12_front_18 rfl ?_
    refine wp_iconst (pc := 19) (v := 0) d_X12_front_19 rfl ?_
    refine wp_lconst (pc := 20) (v := 0) d_X12_front_20 rfl ?_
    obtain ⟨ho6, h⟩ := h
    refine wp_invV (pc := 21) (N := M_X12_nextPair) (As := [vi _, vi _, vj _]) (rest := []) (r := (cn_12, ct_12, 95)) d_X12_front_21 ml_X12_618 mk_X12_nextPair mv_X12_nextPair h0 ho6 rfl rfl (Nat.le_of_ble_eq_true rfl) ?_
    refine wpM.mono h (fun rr G5 hr => ?_)
    obtain ⟨r4, rfl, h⟩ := hr
    show wp E d M_X12_front 24 [some (vr _), some (vi _), some (vi _), none] [vi _] G5 Q
    refine wp_istore_n (pc := 24) (lv' := [some (vr _), some (vi _), some (vi _), some (vi _)]) d_X12_front_24 (by decide) rfl ?_
    refine wp_sub ?_ h
    exact ⟨rfl, ⟨rfl, ⟨rfl, ⟨rfl, trivial⟩⟩⟩⟩
  · have h := h.2 hc
    refine wp_iconst (pc := 8) (v := (-1)) d_X12_front_8 rfl ?_
    exact wp_iret (pc := 9) d_X12_front_9 rfl h
theorem d_X12_mend_0 : decode prog_14_method_125_code 0 = .ok (.aload_n 0, 1) := by decide +kernel
theorem d_X12_mend_1 : decode prog_14_method_125_code 1 = .ok (.iload_n 1, 1) := by decide +kernel
theorem d_X12_mend_2 : decode prog_14_method_125_code 2 = .ok (.invokevirtual 453, 3) := by decide +kernel
theorem d_X12_mend_5 : decode prog_14_method_125_code 5 = .ok (.ifCond .ne 5, 3) := by decide +kernel
theorem d_X12_mend_8 : decode prog_14_method_125_code 8 = .ok (.iconst (-1), 1) := by decide +kernel
theorem d_X12_mend_9 : decode prog_14_method_125_code 9 = .ok (.ireturn, 1) := by decide +kernel
theorem d_X12_mend_10 : decode prog_14_method_125_code 10 = .ok (.aload_n 0, 1) := by decide +kernel
theorem d_X12_mend_11 : decode prog_14_method_125_code 11 = .ok (.iload_n 1, 1) := by decide +kernel
theorem d_X12_mend_12 : decode prog_14_method_125_code 12 = .ok (.invokevirtual 571, 3) := by decide +kernel
theorem d_X12_mend_15 : decode prog_14_method_125_code 15 = .ok (.iconst (-1), 1) := by decide +kernel
theorem d_X12_mend_16 : decode prog_14_method_125_code 16 = .ok (.istore_n 3, 1) := by decide +kernel
theorem d_X12_mend_17 : decode prog_14_method_125_code 17 = .ok (.iconst 0, 1) := by decide +kernel
theorem d_X12_mend_18 : decode prog_14_method_125_code 18 = .ok (.istore 4, 2) := by decide +kernel
theorem v_X12_mend_0 {E : EE} {d : Nat} {Q : Option AV → AH → Prop} {x0 : Nat} {x1 : Int32} {x2 : Int32} {G : AH} (h0 : 0 < d) (h : isO E G x0 12 ∧ (wpI E (d - 1) M_X12_isProblem [vr x0, vi x1] G (fun r1 G2 => (¬ r1 = 0 → isO E G2 x0 12 ∧ (wpV E (d - 1) M_X12_know [vr x0, vi x1] G2 (fun G3 => wp E d M_X12_mend 20 [some (vr x0), some (vi x1), some (vi x2), some (vi (-1)), some (vi 0), none, none] [] G3 Q))) ∧ (r1 = 0 → Q (some (vi (-1))) G2)))) : wp E d M_X12_mend 0 [some (vr x0), some (vi x1), some (vi x2), none, none, none, none] [] G Q := by
  refine wp_aload_n (pc := 0) d_X12_mend_0 rfl ?_
  refine wp_iload_n (pc := 1) d_X12_mend_1 rfl ?_
  obtain ⟨ho5, h⟩ := h
  refine wp_invV (pc := 2) (N := M_X12_isProblem) (As := [vi _]) (rest := []) (r := (cn_12, ct_12, 95)) d_X12_mend_2 ml_X12_453 mk_X12_isProblem mv_X12_isProblem h0 ho5 rfl rfl (Nat.le_of_ble_eq_true rfl) ?_
  refine wpM.mono h (fun rr G2 hr => ?_)
  obtain ⟨r1, rfl, h⟩ := hr
  show wp E d M_X12_mend 5 [some (vr _), some (vi _), some (vi _), none, none, none, none] [vi _] G2 Q
  refine wp_if_ne (pc := 5) (tgt := 10) d_X12_mend_5 (by decide) (fun hc => ?_) (fun hc => ?_)
  · have h := h.1 hc
    refine wp_aload_n (pc := 10) d_X12_mend_10 rfl ?_
    refine wp_iload_n (pc := 11) d_X12_mend_11 rfl ?_
    obtain ⟨ho4, h⟩ := h
    refine wp_invV (pc := 12) (N := M_X12_know) (As := [vi _]) (rest := []) (r := (cn_12, ct_12, 95)) d_X12_mend_12 ml_X12_571 mk_X12_know mv_X12_know h0 ho4 rfl rfl (Nat.le_of_ble_eq_true rfl) ?_
    refine wpM.mono h (fun rr G3 hr => ?_)
    obtain ⟨rfl, h⟩ := hr
    show wp E d M_X12_mend 15 [some (vr _), some (vi _), some (vi _), none, none, none, none] [] G3 Q
    refine wp_iconst (pc := 15) (v := (-1)) d_X12_mend_15 rfl ?_
    refine wp_istore_n (pc := 16) (lv' := [some (vr _), some (vi _), some (vi _), some (vi _), none, none, none]) d_X12_mend_16 (by decide) rfl ?_
    refine wp_iconst (pc := 17) (v := 0) d_X12_mend_17 rfl ?_
    refine wp_istore (pc := 18) (lv' := [some (vr _), some (vi _), some (vi _), some (vi _), some (vi _), none, none]) d_X12_mend_18 (by decide) rfl ?_
    refine wp_sub ?_ h
    exact ⟨rfl, ⟨rfl, ⟨rfl, ⟨rfl, ⟨rfl, trivial⟩⟩⟩⟩⟩
  · have h := h.2 hc
    refine wp_iconst (pc := 8) (v := (-1)) d_X12_mend_8 rfl ?_
    exact wp_iret (pc := 9) d_X12_mend_9 rfl h
theorem d_X12_choices_0 : decode prog_14_method_124_code 0 = .ok (.aload_n 0, 1) := by decide +kernel
theorem d_X12_choices_1 : decode prog_14_method_124_code 1 = .ok (.iload_n 1, 1) := by decide +kernel
theorem d_X12_choices_2 : decode prog_14_method_124_code 2 = .ok (.iload_n 2, 1) := by decide +kernel
theorem d_X12_choices_3 : decode prog_14_method_124_code 3 = .ok (.invokevirtual 462, 3) := by decide +kernel
theorem d_X12_choices_6 : decode prog_14_method_124_code 6 = .ok (.ifCond .ne 5, 3) := by decide +kernel
theorem d_X12_choices_9 : decode prog_14_method_124_code 9 = .ok (.iconst (-1), 1) := by decide +kernel
theorem d_X12_choices_10 : decode prog_14_method_124_code 10 = .ok (.ireturn, 1) := by decide +kernel
theorem d_X12_choices_11 : decode prog_14_method_124_code 11 = .ok (.aload_n 0, 1) := by decide +kernel
theorem d_X12_choices_12 : decode prog_14_method_124_code 12 = .ok (.iload_n 1, 1) := by decide +kernel
theorem d_X12_choices_13 : decode prog_14_method_124_code 13 = .ok (.invokevirtual 571, 3) := by decide +kernel
theorem d_X12_choices_16 : decode prog_14_method_124_code 16 = .ok (.aload_n 0, 1) := by decide +kernel
theorem d_X12_choices_17 : decode prog_14_method_124_code 17 = .ok (.iload_n 1, 1) := by decide +kernel
theorem d_X12_choices_18 : decode prog_14_method_124_code 18 = .ok (.iconst (-1), 1) := by decide +kernel
theorem d_X12_choices_19 : decode prog_14_method_124_code 19 = .ok (.iconst 0, 1) := by decide +kernel
theorem d_X12_choices_20 : decode prog_14_method_124_code 20 = .ok (.invokevirtual 592, 3) := by decide +kernel
theorem d_X12_choices_23 : decode prog_14_method_124_code 23 = .ok (.istore_n 3, 1) := by decide +kernel
theorem d_X12_choices_24 : decode prog_14_method_124_code 24 = .ok (.iconst 0, 1) := by decide +kernel
theorem d_X12_choices_25 : decode prog_14_method_124_code 25 = .ok (.istore 4, 2) := by decide +kernel
theorem d_X12_choices_27 : decode prog_14_method_124_code 27 = .ok (.iconst 0, 1) := by decide +kernel
theorem d_X12_choices_28 : decode prog_14_method_124_code 28 = .ok (.istore 5, 2) := by decide +kernel
theorem v_X12_choices_0 {E : EE} {d : Nat} {Q : Option AV → AH → Prop} {x0 : Nat} {x1 : Int32} {x2 : Int32} {G : AH} (h0 : 0 < d) (h : isO E G x0 12 ∧ (wpI E (d - 1) M_X12_isVar [vr x0, vi x1, vi x2] G (fun r1 G2 => (¬ r1 = 0 → isO E G2 x0 12 ∧ (wpV E (d - 1) M_X12_know [vr x0, vi x1] G2 (fun G3 => isO E G3 x0 12 ∧ (wpI E (d - 1) M_X12_firstBest [vr x0, vi x1, vi (-1), vi 0] G3 (fun r4 G5 => wp E d M_X12_choices 30 [some (vr x0), some (vi x1), some (vi x2), some (vi r4), some (vi 0), some (vi 0), none] [] G5 Q))))) ∧ (r1 = 0 → Q (some (vi (-1))) G2)))) : wp E d M_X12_choices 0 [some (vr x0), some (vi x1), some (vi x2), none, none, none, none] [] G Q := by
  refine wp_aload_n (pc := 0) d_X12_choices_0 rfl ?_
  refine wp_iload_n (pc := 1) d_X12_choices_1 rfl ?_
  refine wp_iload_n (pc := 2) d_X12_choices_2 rfl ?_
  obtain ⟨ho8, h⟩ := h
  refine wp_invV (pc := 3) (N := M_X12_isVar) (As := [vi _, vi _]) (rest := []) (r := (cn_12, ct_12, 95)) d_X12_choices_3 ml_X12_462 mk_X12_isVar mv_X12_isVar h0 ho8 rfl rfl (Nat.le_of_ble_eq_true rfl) ?_
  refine wpM.mono h (fun rr G2 hr => ?_)
  obtain ⟨r1, rfl, h⟩ := hr
  show wp E d M_X12_choices 6 [some (vr _), some (vi _), some (vi _), none, none, none, none] [vi _] G2 Q
  refine wp_if_ne (pc := 6) (tgt := 11) d_X12_choices_6 (by decide) (fun hc => ?_) (fun hc => ?_)
  · have h := h.1 hc
    refine wp_aload_n (pc := 11) d_X12_choices_11 rfl ?_
    refine wp_iload_n (pc := 12) d_X12_choices_12 rfl ?_
    obtain ⟨ho7, h⟩ := h
    refine wp_invV (pc := 13) (N := M_X12_know) (As := [vi _]) (rest := []) (r := (cn_12, ct_12, 95)) d_X12_choices_13 ml_X12_571 mk_X12_know mv_X12_know h0 ho7 rfl rfl (Nat.le_of_ble_eq_true rfl) ?_
    refine wpM.mono h (fun rr G3 hr => ?_)
    obtain ⟨rfl, h⟩ := hr
    show wp E d M_X12_choices 16 [some (vr _), some (vi _), some (vi _), none, none, none, none] [] G3 Q
    refine wp_aload_n (pc := 16) d_X12_choices_16 rfl ?_
    refine wp_iload_n (pc := 17) d_X12_choices_17 rfl ?_
    refine wp_iconst (pc := 18) (v := (-1)) d_X12_choices_18 rfl ?_
    refine wp_iconst (pc := 19) (v := 0) d_X12_choices_19 rfl ?_
    obtain ⟨ho6, h⟩ := h
    refine wp_invV (pc := 20) (N := M_X12_firstBest) (As := [vi _, vi _, vi _]) (rest := []) (r := (cn_12, ct_12, 95)) d_X12_choices_20 ml_X12_592 mk_X12_firstBest mv_X12_firstBest h0 ho6 rfl rfl (Nat.le_of_ble_eq_true rfl) ?_
    refine wpM.mono h (fun rr G5 hr => ?_)
    obtain ⟨r4, rfl, h⟩ := hr
    show wp E d M_X12_choices 23 [some (vr _), some (vi _), some (vi _), none, none, none, none] [vi _] G5 Q
    refine wp_istore_n (pc := 23) (lv' := [some (vr _), some (vi _), some (vi _), some (vi _), none, none, none]) d_X12_choices_23 (by decide) rfl ?_
    refine wp_iconst (pc := 24) (v := 0) d_X12_choices_24 rfl ?_
    refine wp_istore (pc := 25) (lv' := [some (vr _), some (vi _), some (vi _), some (vi _), some (vi _), none, none]) d_X12_choices_25 (by decide) rfl ?_
    refine wp_iconst (pc := 27) (v := 0) d_X12_choices_27 rfl ?_
    refine wp_istore (pc := 28) (lv' := [some (vr _), some (vi _), some (vi _), some (vi _), some (vi _), some (vi _), none]) d_X12_choices_28 (by decide) rfl ?_
    refine wp_sub ?_ h
    exact ⟨rfl, ⟨rfl, ⟨rfl, ⟨rfl, ⟨rfl, ⟨rfl, trivial⟩⟩⟩⟩⟩⟩
  · have h := h.2 hc
    refine wp_iconst (pc := 9) (v := (-1)) d_X12_choices_9 rfl ?_
    exact wp_iret (pc := 10) d_X12_choices_10 rfl h
theorem d_X12_has_0 : decode prog_14_method_123_code 0 = .ok (.aload_n 0, 1) := by decide +kernel
theorem d_X12_has_1 : decode prog_14_method_123_code 1 = .ok (.iload_n 1, 1) := by decide +kernel
theorem d_X12_has_2 : decode prog_14_method_123_code 2 = .ok (.iload_n 2, 1) := by decide +kernel
theorem d_X12_has_3 : decode prog_14_method_123_code 3 = .ok (.invokevirtual 462, 3) := by decide +kernel
theorem d_X12_has_6 : decode prog_14_method_123_code 6 = .ok (.ifCond .ne 5, 3) := by decide +kernel
theorem d_X12_has_9 : decode prog_14_method_123_code 9 = .ok (.iconst (-1), 1) := by decide +kernel
theorem d_X12_has_10 : decode prog_14_method_123_code 10 = .ok (.ireturn, 1) := by decide +kernel
theorem d_X12_has_11 : decode prog_14_method_123_code 11 = .ok (.aload_n 0, 1) := by decide +kernel
theorem d_X12_has_12 : decode prog_14_method_123_code 12 = .ok (.iload_n 1, 1) := by decide +kernel
theorem d_X12_has_13 : decode prog_14_method_123_code 13 = .ok (.invokevirtual 571, 3) := by decide +kernel
theorem d_X12_has_16 : decode prog_14_method_123_code 16 = .ok (.aload_n 0, 1) := by decide +kernel
theorem d_X12_has_17 : decode prog_14_method_123_code 17 = .ok (.iload_n 1, 1) := by decide +kernel
theorem d_X12_has_18 : decode prog_14_method_123_code 18 = .ok (.iconst (-1), 1) := by decide +kernel
theorem d_X12_has_19 : decode prog_14_method_123_code 19 = .ok (.iconst 0, 1) := by decide +kernel
theorem d_X12_has_20 : decode prog_14_method_123_code 20 = .ok (.invokevirtual 592, 3) := by decide +kernel
theorem d_X12_has_23 : decode prog_14_method_123_code 23 = .ok (.istore 5, 2) := by decide +kernel
theorem d_X12_has_25 : decode prog_14_method_123_code 25 = .ok (.aload_n 0, 1) := by decide +kernel
theorem d_X12_has_26 : decode prog_14_method_123_code 26 = .ok (.iload_n 1, 1) := by decide +kernel
theorem d_X12_has_27 : decode prog_14_method_123_code 27 = .ok (.iload_n 2, 1) := by decide +kernel
theorem d_X12_has_28 : decode prog_14_method_123_code 28 = .ok (.iload_n 3, 1) := by decide +kernel
theorem d_X12_has_29 : decode prog_14_method_123_code 29 = .ok (.invokevirtual 577, 3) := by decide +kernel
theorem d_X12_has_32 : decode prog_14_method_123_code 32 = .ok (.istore 6, 2) := by decide +kernel
theorem d_X12_has_34 : decode prog_14_method_123_code 34 = .ok (.iconst 0, 1) := by decide +kernel
theorem d_X12_has_35 : decode prog_14_method_123_code 35 = .ok (.istore 7, 2) := by decide +kernel
theorem d_X12_has_37 : decode prog_14_method_123_code 37 = .ok (.iconst 0, 1) := by decide +kernel
theorem d_X12_has_38 : decode prog_14_method_123_code 38 = .ok (.istore 8, 2) := by decide +kernel
theorem d_X12_has_40 : decode prog_14_method_123_code 40 = .ok (.iconst 0, 1) := by decide +kernel
theorem d_X12_has_41 : decode prog_14_method_123_code 41 = .ok (.istore 9, 2) := by decide +kernel
theorem v_X12_has_0 {E : EE} {d : Nat} {Q : Option AV → AH → Prop} {x0 : Nat} {x1 : Int32} {x2 : Int32} {x3 : Int32} {x4 : Int32} {G : AH} (h0 : 0 < d) (h : isO E G x0 12 ∧ (wpI E (d - 1) M_X12_isVar [vr x0, vi x1, vi x2] G (fun r1 G2 => (¬ r1 = 0 → isO E G2 x0 12 ∧ (wpV E (d - 1) M_X12_know [vr x0, vi x1] G2 (fun G3 => isO E G3 x0 12 ∧ (wpI E (d - 1) M_X12_firstBest [vr x0, vi x1, vi (-1), vi 0] G3 (fun r4 G5 => isO E G5 x0 12 ∧ (wpI E (d - 1) M_X12_placeOf [vr x0, vi x1, vi x2, vi x3] G5 (fun r6 G7 => wp E d M_X12_has 43 [some (vr x0), some (vi x1), some (vi x2), some (vi x3), some (vi x4), some (vi r4), some (vi r6), some (vi 0), some (vi 0), some (vi 0)] [] G7 Q))))))) ∧ (r1 = 0 → Q (some (vi (-1))) G2)))) : wp E d M_X12_has 0 [some (vr x0), some (vi x1), some (vi x2), some (vi x3), some (vi x4), none, none, none, none, none] [] G Q := by
  refine wp_aload_n (pc := 0) d_X12_has_0 rfl ?_
  refine wp_iload_n (pc := 1) d_X12_has_1 rfl ?_
  refine wp_iload_n (pc := 2) d_X12_has_2 rfl ?_
  obtain ⟨ho11, h⟩ := h
  refine wp_invV (pc := 3) (N := M_X12_isVar) (As := [vi _, vi _]) (rest := []) (r := (cn_12, ct_12, 95)) d_X12_has_3 ml_X12_462 mk_X12_isVar mv_X12_isVar h0 ho11 rfl rfl (Nat.le_of_ble_eq_true rfl) ?_
  refine wpM.mono h (fun rr G2 hr => ?_)
  obtain ⟨r1, rfl, h⟩ := hr
  show wp E d M_X12_has 6 [some (vr _), some (vi _), some (vi _), some (vi _), some (vi _), none, none, none, none, none] [vi _] G2 Q
  refine wp_if_ne (pc := 6) (tgt := 11) d_X12_has_6 (by decide) (fun hc => ?_) (fun hc => ?_)
  · have h := h.1 hc
    refine wp_aload_n (pc := 11) d_X12_has_11 rfl ?_
    refine wp_iload_n (pc := 12) d_X12_has_12 rfl ?_
    obtain ⟨ho10, h⟩ := h
    refine wp_invV (pc := 13) (N := M_X12_know) (As := [vi _]) (rest := []) (r := (cn_12, ct_12, 95)) d_X12_has_13 ml_X12_571 mk_X12_know mv_X12_know h0 ho10 rfl rfl (Nat.le_of_ble_eq_true rfl) ?_
    refine wpM.mono h (fun rr G3 hr => ?_)
    obtain ⟨rfl, h⟩ := hr
    show wp E d M_X12_has 16 [some (vr _), some (vi _), some (vi _), some (vi _), some (vi _), none, none, none, none, none] [] G3 Q
    refine wp_aload_n (pc := 16) d_X12_has_16 rfl ?_
    refine wp_iload_n (pc := 17) d_X12_has_17 rfl ?_
    refine wp_iconst (pc := 18) (v := (-1)) d_X12_has_18 rfl ?_
    refine wp_iconst (pc := 19) (v := 0) d_X12_has_19 rfl ?_
    obtain ⟨ho9, h⟩ := h
    refine wp_invV (pc := 20) (N := M_X12_firstBest) (As := [vi _, vi _, vi _]) (rest := []) (r := (cn_12, ct_12, 95)) d_X12_has_20 ml_X12_592 mk_X12_firstBest mv_X12_firstBest h0 ho9 rfl rfl (Nat.le_of_ble_eq_true rfl) ?_
    refine wpM.mono h (fun rr G5 hr => ?_)
    obtain ⟨r4, rfl, h⟩ := hr
    show wp E d M_X12_has 23 [some (vr _), some (vi _), some (vi _), some (vi _), some (vi _), none, none, none, none, none] [vi _] G5 Q
    refine wp_istore (pc := 23) (lv' := [some (vr _), some (vi _), some (vi _), some (vi _), some (vi _), some (vi _), none, none, none, none]) d_X12_has_23 (by decide) rfl ?_
    refine wp_aload_n (pc := 25) d_X12_has_25 rfl ?_
    refine wp_iload_n (pc := 26) d_X12_has_26 rfl ?_
    refine wp_iload_n (pc := 27) d_X12_has_27 rfl ?_
    refine wp_iload_n (pc := 28) d_X12_has_28 rfl ?_
    obtain ⟨ho8, h⟩ := h
    refine wp_invV (pc := 29) (N := M_X12_placeOf) (As := [vi _, vi _, vi _]) (rest := []) (r := (cn_12, ct_12, 95)) d_X12_has_29 ml_X12_577 mk_X12_placeOf mv_X12_placeOf h0 ho8 rfl rfl (Nat.le_of_ble_eq_true rfl) ?_
    refine wpM.mono h (fun rr G7 hr => ?_)
    obtain ⟨r6, rfl, h⟩ := hr
    show wp E d M_X12_has 32 [some (vr _), some (vi _), some (vi _), some (vi _), some (vi _), some (vi _), none, none, none, none] [vi _] G7 Q
    refine wp_istore (pc := 32) (lv' := [some (vr _), some (vi _), some (vi _), some (vi _), some (vi _), some (vi _), some (vi _), none, none, none]) d_X12_has_32 (by decide) rfl ?_
    refine wp_iconst (pc := 34) (v := 0) d_X12_has_34 rfl ?_
    refine wp_istore (pc := 35) (lv' := [some (vr _), some (vi _), some (vi _), some (vi _), some (vi _), some (vi _), some (vi _), some (vi _), none, none]) d_X12_has_35 (by decide) rfl ?_
    refine wp_iconst (pc := 37) (v := 0) d_X12_has_37 rfl ?_
    refine wp_istore (pc := 38) (lv' := [some (vr _), some (vi _), some (vi _), some (vi _), some (vi _), some (vi _), some (vi _), some (vi _), some (vi _), none]) d_X12_has_38 (by decide) rfl ?_
    refine wp_iconst (pc := 40) (v := 0) d_X12_has_40 rfl ?_
    refine wp_istore (pc := 41) (lv' := [some (vr _), some (vi _), some (vi _), some (vi _), some (vi _), some (vi _), some (vi _), some (vi _), some (vi _), some (vi _)]) d_X12_has_41 (by decide) rfl ?_
    refine wp_sub ?_ h
    exact ⟨rfl, ⟨rfl, ⟨rfl, ⟨rfl, ⟨rfl, ⟨rfl, ⟨rfl, ⟨rfl, ⟨rfl, ⟨rfl, trivial⟩⟩⟩⟩⟩⟩⟩⟩⟩⟩
  · have h := h.2 hc
    refine wp_iconst (pc := 9) (v := (-1)) d_X12_has_9 rfl ?_
    exact wp_iret (pc := 10) d_X12_has_10 rfl h
theorem d_X12_feasibleAt_0 : decode prog_14_method_121_code 0 = .ok (.aload_n 0, 1) := by decide +kernel
theorem d_X12_feasibleAt_1 : decode prog_14_method_121_code 1 = .ok (.iload_n 1, 1) := by decide +kernel
theorem d_X12_feasibleAt_2 : decode prog_14_method_121_code 2 = .ok (.iload_n 2, 1) := by decide +kernel
theorem d_X12_feasibleAt_3 : decode prog_14_method_121_code 3 = .ok (.iconst 0, 1) := by decide +kernel
theorem d_X12_feasibleAt_4 : decode prog_14_method_121_code 4 = .ok (.invokevirtual 601, 3) := by decide +kernel
theorem d_X12_feasibleAt_7 : decode prog_14_method_121_code 7 = .ok (.ireturn, 1) := by decide +kernel
theorem v_X12_feasibleAt_0 {E : EE} {d : Nat} {Q : Option AV → AH → Prop} {x0 : Nat} {x1 : Int32} {x2 : Int32} {G : AH} (h0 : 0 < d) (h : isO E G x0 12 ∧ (wpI E (d - 1) M_X12_planAt [vr x0, vi x1, vi x2, vi 0] G (fun r1 G2 => okI .boolean r1 ∧ Q (some (vi r1)) G2))) : wp E d M_X12_feasibleAt 0 [some (vr x0), some (vi x1), some (vi x2)] [] G Q := by
  refine wp_aload_n (pc := 0) d_X12_feasibleAt_0 rfl ?_
  refine wp_iload_n (pc := 1) d_X12_feasibleAt_1 rfl ?_
  refine wp_iload_n (pc := 2) d_X12_feasibleAt_2 rfl ?_
  refine wp_iconst (pc := 3) (v := 0) d_X12_feasibleAt_3 rfl ?_
  obtain ⟨ho3, h⟩ := h
  refine wp_invV (pc := 4) (N := M_X12_planAt) (As := [vi _, vi _, vi _]) (rest := []) (r := (cn_12, ct_12, 95)) d_X12_feasibleAt_4 ml_X12_601 mk_X12_planAt mv_X12_planAt h0 ho3 rfl rfl (Nat.le_of_ble_eq_true rfl) ?_
  refine wpM.mono h (fun rr G2 hr => ?_)
  obtain ⟨r1, rfl, h⟩ := hr
  show wp E d M_X12_feasibleAt 7 [some (vr _), some (vi _), some (vi _)] [vi _] G2 Q
  exact wp_zret (pc := 7) d_X12_feasibleAt_7 rfl h.1.1 h.2
theorem d_X12_planAt_0 : decode prog_14_method_118_code 0 = .ok (.aload_n 0, 1) := by decide +kernel
theorem d_X12_planAt_1 : decode prog_14_method_118_code 1 = .ok (.iload_n 1, 1) := by decide +kernel
theorem d_X12_planAt_2 : decode prog_14_method_118_code 2 = .ok (.invokevirtual 453, 3) := by decide +kernel
theorem d_X12_planAt_5 : decode prog_14_method_118_code 5 = .ok (.ifCond .eq 7, 3) := by decide +kernel
theorem d_X12_planAt_8 : decode prog_14_method_118_code 8 = .ok (.iload_n 2, 1) := by decide +kernel
theorem d_X12_planAt_9 : decode prog_14_method_118_code 9 = .ok (.ifCond .ge 5, 3) := by decide +kernel
theorem d_X12_planAt_12 : decode prog_14_method_118_code 12 = .ok (.iconst 0, 1) := by decide +kernel
theorem d_X12_planAt_13 : decode prog_14_method_118_code 13 = .ok (.ireturn, 1) := by decide +kernel
theorem d_X12_planAt_14 : decode prog_14_method_118_code 14 = .ok (.aload_n 0, 1) := by decide +kernel
theorem d_X12_planAt_15 : decode prog_14_method_118_code 15 = .ok (.iload_n 1, 1) := by decide +kernel
theorem d_X12_planAt_16 : decode prog_14_method_118_code 16 = .ok (.invokevirtual 571, 3) := by decide +kernel
theorem d_X12_planAt_19 : decode prog_14_method_118_code 19 = .ok (.iload_n 3, 1) := by decide +kernel
theorem d_X12_planAt_20 : decode prog_14_method_118_code 20 = .ok (.ifCond .eq 13, 3) := by decide +kernel
theorem d_X12_planAt_23 : decode prog_14_method_118_code 23 = .ok (.aload_n 0, 1) := by decide +kernel
theorem d_X12_planAt_24 : decode prog_14_method_118_code 24 = .ok (.iload_n 1, 1) := by decide +kernel
theorem d_X12_planAt_25 : decode prog_14_method_118_code 25 = .ok (.iconst (-1), 1) := by decide +kernel
theorem d_X12_planAt_26 : decode prog_14_method_118_code 26 = .ok (.iconst 0, 1) := by decide +kernel
theorem d_X12_planAt_27 : decode prog_14_method_118_code 27 = .ok (.invokevirtual 592, 3) := by decide +kernel
theorem d_X12_planAt_30 : decode prog_14_method_118_code 30 = .ok (.goto 4, 3) := by decide +kernel
theorem d_X12_planAt_33 : decode prog_14_method_118_code 33 = .ok (.iconst (-1), 1) := by decide +kernel
theorem v_X12_planAt_0 {E : EE} {d : Nat} {Q : Option AV → AH → Prop} {x0 : Nat} {x1 : Int32} {x2 : Int32} {x3 : Int32} {G : AH} (h0 : 0 < d) (h : isO E G x0 12 ∧ (wpI E (d - 1) M_X12_isProblem [vr x0, vi x1] G (fun r1 G2 => (r1 = 0 → Q (some (vi 0)) G2) ∧ (¬ (r1 = 0) → (0 ≤ x2 → isO E G2 x0 12 ∧ (wpV E (d - 1) M_X12_know [vr x0, vi x1] G2 (fun G3 => (x3 = 0 → wp E d M_X12_planAt 34 [some (vr x0), some (vi x1), some (vi x2), some (vi x3), none, none, none] [vi (-1)] G3 Q) ∧ (¬ (x3 = 0) → isO E G3 x0 12 ∧ (wpI E (d - 1) M_X12_firstBest [vr x0, vi x1, vi (-1), vi 0] G3 (fun r4 G5 => wp E d M_X12_planAt 34 [some (vr x0), some (vi x1), some (vi x2), some (vi x3), none, none, none] [vi r4] G5 Q)))))) ∧ (¬ (0 ≤ x2) → Q (some (vi 0)) G2))))) : wp E d M_X12_planAt 0 [some (vr x0), some (vi x1), some (vi x2), some (vi x3), none, none, none] [] G Q := by
  refine wp_aload_n (pc := 0) d_X12_planAt_0 rfl ?_
  refine wp_iload_n (pc := 1) d_X12_planAt_1 rfl ?_
  obtain ⟨ho8, h⟩ := h
  refine wp_invV (pc := 2) (N := M_X12_isProblem) (As := [vi _]) (rest := []) (r := (cn_12, ct_12, 95)) d_X12_planAt_2 ml_X12_453 mk_X12_isProblem mv_X12_isProblem h0 ho8 rfl rfl (Nat.le_of_ble_eq_true rfl) ?_
  refine wpM.mono h (fun rr G2 hr => ?_)
  obtain ⟨r1, rfl, h⟩ := hr
  show wp E d M_X12_planAt 5 [some (vr _), some (vi _), some (vi _), some (vi _), none, none, none] [vi _] G2 Q
  refine wp_if_eq (pc := 5) (tgt := 12) d_X12_planAt_5 (by decide) (fun hc => ?_) (fun hc => ?_)
  · have h := h.1 hc
    refine wp_iconst (pc := 12) (v := 0) d_X12_planAt_12 rfl ?_
    exact wp_zret (pc := 13) d_X12_planAt_13 rfl rfl h
  · have h := h.2 hc
    refine wp_iload_n (pc := 8) d_X12_planAt_8 rfl ?_
    refine wp_if_ge (pc := 9) (tgt := 14) d_X12_planAt_9 (by decide) (fun hc => ?_) (fun hc => ?_)
    · have h := h.1 hc
      refine wp_aload_n (pc := 14) d_X12_planAt_14 rfl ?_
      refine wp_iload_n (pc := 15) d_X12_planAt_15 rfl ?_
      obtain ⟨ho7, h⟩ := h
      refine wp_invV (pc := 16) (N := M_X12_know) (As := [vi _]) (rest := []) (r := (cn_12, ct_12, 95)) d_X12_planAt_16 ml_X12_571 mk_X12_know mv_X12_know h0 ho7 rfl rfl (Nat.le_of_ble_eq_true rfl) ?_
      refine wpM.mono h (fun rr G3 hr => ?_)
      obtain ⟨rfl, h⟩ := hr
      show wp E d M_X12_planAt 19 [some (vr _), some (vi _), some (vi _), some (vi _), none, none, none] [] G3 Q
      refine wp_iload_n (pc := 19) d_X12_planAt_19 rfl ?_
      refine wp_if_eq (pc := 20) (tgt := 33) d_X12_planAt_20 (by decide) (fun hc => ?_) (fun hc => ?_)
      · have h := h.1 hc
        refine wp_iconst (pc := 33) (v := (-1)) d_X12_planAt_33 rfl ?_
        refine wp_sub ?_ h
        exact ⟨rfl, ⟨rfl, ⟨rfl, ⟨rfl, trivial⟩⟩⟩⟩
      · have h := h.2 hc
        refine wp_aload_n (pc := 23) d_X12_planAt_23 rfl ?_
        refine wp_iload_n (pc := 24) d_X12_planAt_24 rfl ?_
        refine wp_iconst (pc := 25) (v := (-1)) d_X12_planAt_25 rfl ?_
        refine wp_iconst (pc := 26) (v := 0) d_X12_planAt_26 rfl ?_
        obtain ⟨ho6, h⟩ := h
        refine wp_invV (pc := 27) (N := M_X12_firstBest) (As := [vi _, vi _, vi _]) (rest := []) (r := (cn_12, ct_12, 95)) d_X12_planAt_27 ml_X12_592 mk_X12_firstBest mv_X12_firstBest h0 ho6 rfl rfl (Nat.le_of_ble_eq_true rfl) ?_
        refine wpM.mono h (fun rr G5 hr => ?_)
        obtain ⟨r4, rfl, h⟩ := hr
        show wp E d M_X12_planAt 30 [some (vr _), some (vi _), some (vi _), some (vi _), none, none, none] [vi _] G5 Q
        refine wp_goto (pc := 30) (tgt := 34) d_X12_planAt_30 (by decide) ?_
        refine wp_sub ?_ h
        exact ⟨rfl, ⟨rfl, ⟨rfl, ⟨rfl, trivial⟩⟩⟩⟩
    · have h := h.2 hc
      refine wp_iconst (pc := 12) (v := 0) d_X12_planAt_12 rfl ?_
      exact wp_zret (pc := 13) d_X12_planAt_13 rfl rfl h
theorem d_X12_feasibles_0 : decode prog_14_method_120_code 0 = .ok (.aload_n 0, 1) := by decide +kernel
theorem d_X12_feasibles_1 : decode prog_14_method_120_code 1 = .ok (.iload_n 1, 1) := by decide +kernel
theorem d_X12_feasibles_2 : decode prog_14_method_120_code 2 = .ok (.invokevirtual 453, 3) := by decide +kernel
theorem d_X12_feasibles_5 : decode prog_14_method_120_code 5 = .ok (.ifCond .ne 5, 3) := by decide +kernel
theorem d_X12_feasibles_8 : decode prog_14_method_120_code 8 = .ok (.iconst (-1), 1) := by decide +kernel
theorem d_X12_feasibles_9 : decode prog_14_method_120_code 9 = .ok (.ireturn, 1) := by decide +kernel
theorem d_X12_feasibles_10 : decode prog_14_method_120_code 10 = .ok (.aload_n 0, 1) := by decide +kernel
theorem d_X12_feasibles_11 : decode prog_14_method_120_code 11 = .ok (.iload_n 1, 1) := by decide +kernel
theorem d_X12_feasibles_12 : decode prog_14_method_120_code 12 = .ok (.invokevirtual 571, 3) := by decide +kernel
theorem d_X12_feasibles_15 : decode prog_14_method_120_code 15 = .ok (.iconst 0, 1) := by decide +kernel
theorem d_X12_feasibles_16 : decode prog_14_method_120_code 16 = .ok (.istore_n 2, 1) := by decide +kernel
theorem d_X12_feasibles_17 : decode prog_14_method_120_code 17 = .ok (.iconst 0, 1) := by decide +kernel
theorem d_X12_feasibles_18 : decode prog_14_method_120_code 18 = .ok (.istore_n 3, 1) := by decide +kernel
theorem v_X12_feasibles_0 {E : EE} {d : Nat} {Q : Option AV → AH → Prop} {x0 : Nat} {x1 : Int32} {G : AH} (h0 : 0 < d) (h : isO E G x0 12 ∧ (wpI E (d - 1) M_X12_isProblem [vr x0, vi x1] G (fun r1 G2 => (¬ r1 = 0 → isO E G2 x0 12 ∧ (wpV E (d - 1) M_X12_know [vr x0, vi x1] G2 (fun G3 => wp E d M_X12_feasibles 19 [some (vr x0), some (vi x1), some (vi 0), some (vi 0)] [] G3 Q))) ∧ (r1 = 0 → Q (some (vi (-1))) G2)))) : wp E d M_X12_feasibles 0 [some (vr x0), some (vi x1), none, none] [] G Q := by
  refine wp_aload_n (pc := 0) d_X12_feasibles_0 rfl ?_
  refine wp_iload_n (pc := 1) d_X12_feasibles_1 rfl ?_
  obtain ⟨ho5, h⟩ := h
  refine wp_invV (pc := 2) (N := M_X12_isProblem) (As := [vi _]) (rest := []) (r := (cn_12, ct_12, 95)) d_X12_feasibles_2 ml_X12_453 mk_X12_isProblem mv_X12_isProblem h0 ho5 rfl rfl (Nat.le_of_ble_eq_true rfl) ?_
  refine wpM.mono h (fun rr G2 hr => ?_)
  obtain ⟨r1, rfl, h⟩ := hr
  show wp E d M_X12_feasibles 5 [some (vr _), some (vi _), none, none] [vi _] G2 Q
  refine wp_if_ne (pc := 5) (tgt := 10) d_X12_feasibles_5 (by decide) (fun hc => ?_) (fun hc => ?_)
  · have h := h.1 hc
    refine wp_aload_n (pc := 10) d_X12_feasibles_10 rfl ?_
    refine wp_iload_n (pc := 11) d_X12_feasibles_11 rfl ?_
    obtain ⟨ho4, h⟩ := h
    refine wp_invV (pc := 12) (N := M_X12_know) (As := [vi _]) (rest := []) (r := (cn_12, ct_12, 95)) d_X12_feasibles_12 ml_X12_571 mk_X12_know mv_X12_know h0 ho4 rfl rfl (Nat.le_of_ble_eq_true rfl) ?_
    refine wpM.mono h (fun rr G3 hr => ?_)
    obtain ⟨rfl, h⟩ := hr
    show wp E d M_X12_feasibles 15 [some (vr _), some (vi _), none, none] [] G3 Q
    refine wp_iconst (pc := 15) (v := 0) d_X12_feasibles_15 rfl ?_
    refine wp_istore_n (pc := 16) (lv' := [some (vr _), some (vi _), some (vi _), none]) d_X12_feasibles_16 (by decide) rfl ?_
    refine wp_iconst (pc := 17) (v := 0) d_X12_feasibles_17 rfl ?_
    refine wp_istore_n (pc := 18) (lv' := [some (vr _), some (vi _), some (vi _), some (vi _)]) d_X12_feasibles_18 (by decide) rfl ?_
    refine wp_sub ?_ h
    exact ⟨rfl, ⟨rfl, ⟨rfl, ⟨rfl, trivial⟩⟩⟩⟩
  · have h := h.2 hc
    refine wp_iconst (pc := 8) (v := (-1)) d_X12_feasibles_8 rfl ?_
    exact wp_iret (pc := 9) d_X12_feasibles_9 rfl h
theorem d_X12_bestAt_0 : decode prog_14_method_119_code 0 = .ok (.aload_n 0, 1) := by decide +kernel
theorem d_X12_bestAt_1 : decode prog_14_method_119_code 1 = .ok (.iload_n 1, 1) := by decide +kernel
theorem d_X12_bestAt_2 : decode prog_14_method_119_code 2 = .ok (.iload_n 2, 1) := by decide +kernel
theorem d_X12_bestAt_3 : decode prog_14_method_119_code 3 = .ok (.iconst 1, 1) := by decide +kernel
theorem d_X12_bestAt_4 : decode prog_14_method_119_code 4 = .ok (.invokevirtual 601, 3) := by decide +kernel
theorem d_X12_bestAt_7 : decode prog_14_method_119_code 7 = .ok (.ireturn, 1) := by decide +kernel
theorem v_X12_bestAt_0 {E : EE} {d : Nat} {Q : Option AV → AH → Prop} {x0 : Nat} {x1 : Int32} {x2 : Int32} {G : AH} (h0 : 0 < d) (h : isO E G x0 12 ∧ (wpI E (d - 1) M_X12_planAt [vr x0, vi x1, vi x2, vi 1] G (fun r1 G2 => okI .boolean r1 ∧ Q (some (vi r1)) G2))) : wp E d M_X12_bestAt 0 [some (vr x0), some (vi x1), some (vi x2)] [] G Q := by
  refine wp_aload_n (pc := 0) d_X12_bestAt_0 rfl ?_
  refine wp_iload_n (pc := 1) d_X12_bestAt_1 rfl ?_
  refine wp_iload_n (pc := 2) d_X12_bestAt_2 rfl ?_
  refine wp_iconst (pc := 3) (v := 1) d_X12_bestAt_3 rfl ?_
  obtain ⟨ho3, h⟩ := h
  refine wp_invV (pc := 4) (N := M_X12_planAt) (As := [vi _, vi _, vi _]) (rest := []) (r := (cn_12, ct_12, 95)) d_X12_bestAt_4 ml_X12_601 mk_X12_planAt mv_X12_planAt h0 ho3 rfl rfl (Nat.le_of_ble_eq_true rfl) ?_
  refine wpM.mono h (fun rr G2 hr => ?_)
  obtain ⟨r1, rfl, h⟩ := hr
  show wp E d M_X12_bestAt 7 [some (vr _), some (vi _), some (vi _)] [vi _] G2 Q
  exact wp_zret (pc := 7) d_X12_bestAt_7 rfl h.1.1 h.2
theorem d_X12_bests_0 : decode prog_14_method_117_code 0 = .ok (.aload_n 0, 1) := by decide +kernel
theorem d_X12_bests_1 : decode prog_14_method_117_code 1 = .ok (.iload_n 1, 1) := by decide +kernel
theorem d_X12_bests_2 : decode prog_14_method_117_code 2 = .ok (.invokevirtual 453, 3) := by decide +kernel
theorem d_X12_bests_5 : decode prog_14_method_117_code 5 = .ok (.ifCond .ne 5, 3) := by decide +kernel
theorem d_X12_bests_8 : decode prog_14_method_117_code 8 = .ok (.iconst (-1), 1) := by decide +kernel
theorem d_X12_bests_9 : decode prog_14_method_117_code 9 = .ok (.ireturn, 1) := by decide +kernel
theorem d_X12_bests_10 : decode prog_14_method_117_code 10 = .ok (.aload_n 0, 1) := by decide +kernel
theorem d_X12_bests_11 : decode prog_14_method_117_code 11 = .ok (.iload_n 1, 1) := by decide +kernel
theorem d_X12_bests_12 : decode prog_14_method_117_code 12 = .ok (.invokevirtual 571, 3) := by decide +kernel
theorem d_X12_bests_15 : decode prog_14_method_117_code 15 = .ok (.aload_n 0, 1) := by decide +kernel
theorem d_X12_bests_16 : decode prog_14_method_117_code 16 = .ok (.iload_n 1, 1) := by decide +kernel
theorem d_X12_bests_17 : decode prog_14_method_117_code 17 = .ok (.iconst (-1), 1) := by decide +kernel
theorem d_X12_bests_18 : decode prog_14_method_117_code 18 = .ok (.iconst 0, 1) := by decide +kernel
theorem d_X12_bests_19 : decode prog_14_method_117_code 19 = .ok (.invokevirtual 592, 3) := by decide +kernel
theorem d_X12_bests_22 : decode prog_14_method_117_code 22 = .ok (.istore_n 2, 1) := by decide +kernel
theorem d_X12_bests_23 : decode prog_14_method_117_code 23 = .ok (.iconst 0, 1) := by decide +kernel
theorem d_X12_bests_24 : decode prog_14_method_117_code 24 = .ok (.istore_n 3, 1) := by decide +kernel
theorem d_X12_bests_25 : decode prog_14_method_117_code 25 = .ok (.iconst 0, 1) := by decide +kernel
theorem d_X12_bests_26 : decode prog_14_method_117_code 26 = .ok (.istore 4, 2) := by decide +kernel
theorem v_X12_bests_0 {E : EE} {d : Nat} {Q : Option AV → AH → Prop} {x0 : Nat} {x1 : Int32} {G : AH} (h0 : 0 < d) (h : isO E G x0 12 ∧ (wpI E (d - 1) M_X12_isProblem [vr x0, vi x1] G (fun r1 G2 => (¬ r1 = 0 → isO E G2 x0 12 ∧ (wpV E (d - 1) M_X12_know [vr x0, vi x1] G2 (fun G3 => isO E G3 x0 12 ∧ (wpI E (d - 1) M_X12_firstBest [vr x0, vi x1, vi (-1), vi 0] G3 (fun r4 G5 => wp E d M_X12_bests 28 [some (vr x0), some (vi x1), some (vi r4), some (vi 0), some (vi 0)] [] G5 Q))))) ∧ (r1 = 0 → Q (some (vi (-1))) G2)))) : wp E d M_X12_bests 0 [some (vr x0), some (vi x1), none, none, none] [] G Q := by
  refine wp_aload_n (pc := 0) d_X12_bests_0 rfl ?_
  refine wp_iload_n (pc := 1) d_X12_bests_1 rfl ?_
  obtain ⟨ho8, h⟩ := h
  refine wp_invV (pc := 2) (N := M_X12_isProblem) (As := [vi _]) (rest := []) (r := (cn_12, ct_12, 95)) d_X12_bests_2 ml_X12_453 mk_X12_isProblem mv_X12_isProblem h0 ho8 rfl rfl (Nat.le_of_ble_eq_true rfl) ?_
  refine wpM.mono h (fun rr G2 hr => ?_)
  obtain ⟨r1, rfl, h⟩ := hr
  show wp E d M_X12_bests 5 [some (vr _), some (vi _), none, none, none] [vi _] G2 Q
  refine wp_if_ne (pc := 5) (tgt := 10) d_X12_bests_5 (by decide) (fun hc => ?_) (fun hc => ?_)
  · have h := h.1 hc
    refine wp_aload_n (pc := 10) d_X12_bests_10 rfl ?_
    refine wp_iload_n (pc := 11) d_X12_bests_11 rfl ?_
    obtain ⟨ho7, h⟩ := h
    refine wp_invV (pc := 12) (N := M_X12_know) (As := [vi _]) (rest := []) (r := (cn_12, ct_12, 95)) d_X12_bests_12 ml_X12_571 mk_X12_know mv_X12_know h0 ho7 rfl rfl (Nat.le_of_ble_eq_true rfl) ?_
    refine wpM.mono h (fun rr G3 hr => ?_)
    obtain ⟨rfl, h⟩ := hr
    show wp E d M_X12_bests 15 [some (vr _), some (vi _), none, none, none] [] G3 Q
    refine wp_aload_n (pc := 15) d_X12_bests_15 rfl ?_
    refine wp_iload_n (pc := 16) d_X12_bests_16 rfl ?_
    refine wp_iconst (pc := 17) (v := (-1)) d_X12_bests_17 rfl ?_
    refine wp_iconst (pc := 18) (v := 0) d_X12_bests_18 rfl ?_
    obtain ⟨ho6, h⟩ := h
    refine wp_invV (pc := 19) (N := M_X12_firstBest) (As := [vi _, vi _, vi _]) (rest := []) (r := (cn_12, ct_12, 95)) d_X12_bests_19 ml_X12_592 mk_X12_firstBest mv_X12_firstBest h0 ho6 rfl rfl (Nat.le_of_ble_eq_true rfl) ?_
    refine wpM.mono h (fun rr G5 hr => ?_)
    obtain ⟨r4, rfl, h⟩ := hr
    show wp E d M_X12_bests 22 [some (vr _), some (vi _), none, none, none] [vi _] G5 Q
    refine wp_istore_n (pc := 22) (lv' := [some (vr _), some (vi _), some (vi _), none, none]) d_X12_bests_22 (by decide) rfl ?_
    refine wp_iconst (pc := 23) (v := 0) d_X12_bests_23 rfl ?_
    refine wp_istore_n (pc := 24) (lv' := [some (vr _), some (vi _), some (vi _), some (vi _), none]) d_X12_bests_24 (by decide) rfl ?_
    refine wp_iconst (pc := 25) (v := 0) d_X12_bests_25 rfl ?_
    refine wp_istore (pc := 26) (lv' := [some (vr _), some (vi _), some (vi _), some (vi _), some (vi _)]) d_X12_bests_26 (by decide) rfl ?_
    refine wp_sub ?_ h
    exact ⟨rfl, ⟨rfl, ⟨rfl, ⟨rfl, ⟨rfl, trivial⟩⟩⟩⟩⟩
  · have h := h.2 hc
    refine wp_iconst (pc := 8) (v := (-1)) d_X12_bests_8 rfl ?_
    exact wp_iret (pc := 9) d_X12_bests_9 rfl h
theorem d_X12_best_0 : decode prog_14_method_116_code 0 = .ok (.aload_n 0, 1) := by decide +kernel
theorem d_X12_best_1 : decode prog_14_method_116_code 1 = .ok (.iload_n 1, 1) := by decide +kernel
theorem d_X12_best_2 : decode prog_14_method_116_code 2 = .ok (.invokevirtual 453, 3) := by decide +kernel
theorem d_X12_best_5 : decode prog_14_method_116_code 5 = .ok (.ifCond .eq 10, 3) := by decide +kernel
theorem d_X12_best_8 : decode prog_14_method_116_code 8 = .ok (.iload_n 2, 1) := by decide +kernel
theorem d_X12_best_9 : decode prog_14_method_116_code 9 = .ok (.invokestatic 583, 3) := by decide +kernel
theorem d_X12_best_12 : decode prog_14_method_116_code 12 = .ok (.ifCond .ne 7, 3) := by decide +kernel
theorem d_X12_best_15 : decode prog_14_method_116_code 15 = .ok (.ldc2_w 466, 3) := by decide +kernel
theorem d_X12_best_18 : decode prog_14_method_116_code 18 = .ok (.lreturn, 1) := by decide +kernel
theorem d_X12_best_19 : decode prog_14_method_116_code 19 = .ok (.aload_n 0, 1) := by decide +kernel
theorem d_X12_best_20 : decode prog_14_method_116_code 20 = .ok (.iload_n 1, 1) := by decide +kernel
theorem d_X12_best_21 : decode prog_14_method_116_code 21 = .ok (.invokevirtual 571, 3) := by decide +kernel
theorem d_X12_best_24 : decode prog_14_method_116_code 24 = .ok (.aload_n 0, 1) := by decide +kernel
theorem d_X12_best_25 : decode prog_14_method_116_code 25 = .ok (.iload_n 1, 1) := by decide +kernel
theorem d_X12_best_26 : decode prog_14_method_116_code 26 = .ok (.iconst (-1), 1) := by decide +kernel
theorem d_X12_best_27 : decode prog_14_method_116_code 27 = .ok (.iconst 0, 1) := by decide +kernel
theorem d_X12_best_28 : decode prog_14_method_116_code 28 = .ok (.invokevirtual 592, 3) := by decide +kernel
theorem d_X12_best_31 : decode prog_14_method_116_code 31 = .ok (.istore_n 3, 1) := by decide +kernel
theorem d_X12_best_32 : decode prog_14_method_116_code 32 = .ok (.iload_n 3, 1) := by decide +kernel
theorem d_X12_best_33 : decode prog_14_method_116_code 33 = .ok (.ifCond .ge 9, 3) := by decide +kernel
theorem d_X12_best_36 : decode prog_14_method_116_code 36 = .ok (.ldc2_w 466, 3) := by decide +kernel
theorem d_X12_best_39 : decode prog_14_method_116_code 39 = .ok (.goto 15, 3) := by decide +kernel
theorem d_X12_best_42 : decode prog_14_method_116_code 42 = .ok (.aload_n 0, 1) := by decide +kernel
theorem d_X12_best_43 : decode prog_14_method_116_code 43 = .ok (.getfield 159, 3) := by decide +kernel
theorem d_X12_best_46 : decode prog_14_method_116_code 46 = .ok (.sipush 20000, 3) := by decide +kernel
theorem d_X12_best_49 : decode prog_14_method_116_code 49 = .ok (.iload_n 2, 1) := by decide +kernel
theorem d_X12_best_50 : decode prog_14_method_116_code 50 = .ok (.imul, 1) := by decide +kernel
theorem d_X12_best_51 : decode prog_14_method_116_code 51 = .ok (.iload_n 3, 1) := by decide +kernel
theorem d_X12_best_52 : decode prog_14_method_116_code 52 = .ok (.iadd, 1) := by decide +kernel
theorem d_X12_best_53 : decode prog_14_method_116_code 53 = .ok (.laload, 1) := by decide +kernel
theorem d_X12_best_54 : decode prog_14_method_116_code 54 = .ok (.lreturn, 1) := by decide +kernel
theorem v_X12_best_0 {E : EE} {d : Nat} {Q : Option AV → AH → Prop} {x0 : Nat} {x1 : Int32} {x2 : Int32} {G : AH} (h0 : 0 < d) (h : isO E G x0 12 ∧ (wpI E (d - 1) M_X12_isProblem [vr x0, vi x1] G (fun r1 G2 => (r1 = 0 → Q (some (vj (-9223372036854775808))) G2) ∧ (¬ (r1 = 0) → wpI E (d - 1) M_X12_isLevel [vi x2] G2 (fun r3 G4 => (¬ r3 = 0 → isO E G4 x0 12 ∧ (wpV E (d - 1) M_X12_know [vr x0, vi x1] G4 (fun G5 => isO E G5 x0 12 ∧ (wpI E (d - 1) M_X12_firstBest [vr x0, vi x1, vi (-1), vi 0] G5 (fun r6 G7 => (0 ≤ r6 → isO E G7 x0 12 ∧ (isO E G7 (gR G7 x0 66) 15 ∧ (vp_in ((20000 * x2) + r6) (gN G7 (gR G7 x0 66)) ∧ (Q (some (vj (gJ G7 (gR G7 x0 66) (Int32.toNatClampNeg ((20000 * x2) + r6))))) G7)))) ∧ (¬ (0 ≤ r6) → Q (some (vj (-9223372036854775808))) G7)))))) ∧ (r3 = 0 → Q (some (vj (-9223372036854775808))) G4)))))) : wp E d M_X12_best 0 [some (vr x0), some (vi x1), some (vi x2), none] [] G Q := by
  refine wp_aload_n (pc := 0) d_X12_best_0 rfl ?_
  refine wp_iload_n (pc := 1) d_X12_best_1 rfl ?_
  obtain ⟨ho13, h⟩ := h
  refine wp_invV (pc := 2) (N := M_X12_isProblem) (As := [vi _]) (rest := []) (r := (cn_12, ct_12, 95)) d_X12_best_2 ml_X12_453 mk_X12_isProblem mv_X12_isProblem h0 ho13 rfl rfl (Nat.le_of_ble_eq_true rfl) ?_
  refine wpM.mono h (fun rr G2 hr => ?_)
  obtain ⟨r1, rfl, h⟩ := hr
  show wp E d M_X12_best 5 [some (vr _), some (vi _), some (vi _), none] [vi _] G2 Q
  refine wp_if_eq (pc := 5) (tgt := 15) d_X12_best_5 (by decide) (fun hc => ?_) (fun hc => ?_)
  · have h := h.1 hc
    refine wp_ldc2 (pc := 15) (v := (-9223372036854775808)) d_X12_best_15 cj_X12_466 ?_
    exact wp_lret (pc := 18) d_X12_best_18 rfl h
  · have h := h.2 hc
    refine wp_iload_n (pc := 8) d_X12_best_8 rfl ?_
    refine wp_invS (pc := 9) (N := M_X12_isLevel) (As := [vi _]) (rest := []) d_X12_best_9 ml_X12_583 mk_X12_isLevel ms_X12_isLevel h0 (Nat.le_of_ble_eq_true rfl) ?_
    refine wpM.mono h (fun rr G4 hr => ?_)
    obtain ⟨r3, rfl, h⟩ := hr
    show wp E d M_X12_best 12 [some (vr _), some (vi _), some (vi _), none] [vi _] G4 Q
    refine wp_if_ne (pc := 12) (tgt := 19) d_X12_best_12 (by decide) (fun hc => ?_) (fun hc => ?_)
    · have h := h.1 hc
      refine wp_aload_n (pc := 19) d_X12_best_19 rfl ?_
      refine wp_iload_n (pc := 20) d_X12_best_20 rfl ?_
      obtain ⟨ho12, h⟩ := h
      refine wp_invV (pc := 21) (N := M_X12_know) (As := [vi _]) (rest := []) (r := (cn_12, ct_12, 95)) d_X12_best_21 ml_X12_571 mk_X12_know mv_X12_know h0 ho12 rfl rfl (Nat.le_of_ble_eq_true rfl) ?_
      refine wpM.mono h (fun rr G5 hr => ?_)
      obtain ⟨rfl, h⟩ := hr
      show wp E d M_X12_best 24 [some (vr _), some (vi _), some (vi _), none] [] G5 Q
      refine wp_aload_n (pc := 24) d_X12_best_24 rfl ?_
      refine wp_iload_n (pc := 25) d_X12_best_25 rfl ?_
      refine wp_iconst (pc := 26) (v := (-1)) d_X12_best_26 rfl ?_
      refine wp_iconst (pc := 27) (v := 0) d_X12_best_27 rfl ?_
      obtain ⟨ho11, h⟩ := h
      refine wp_invV (pc := 28) (N := M_X12_firstBest) (As := [vi _, vi _, vi _]) (rest := []) (r := (cn_12, ct_12, 95)) d_X12_best_28 ml_X12_592 mk_X12_firstBest mv_X12_firstBest h0 ho11 rfl rfl (Nat.le_of_ble_eq_true rfl) ?_
      refine wpM.mono h (fun rr G7 hr => ?_)
      obtain ⟨r6, rfl, h⟩ := hr
      show wp E d M_X12_best 31 [some (vr _), some (vi _), some (vi _), none] [vi _] G7 Q
      refine wp_istore_n (pc := 31) (lv' := [some (vr _), some (vi _), some (vi _), some (vi _)]) d_X12_best_31 (by decide) rfl ?_
      refine wp_iload_n (pc := 32) d_X12_best_32 rfl ?_
      refine wp_if_ge (pc := 33) (tgt := 42) d_X12_best_33 (by decide) (fun hc => ?_) (fun hc => ?_)
      · have h := h.1 hc
        refine wp_aload_n (pc := 42) d_X12_best_42 rfl ?_
        obtain ⟨ho8, h⟩ := h
        refine wp_getR (pc := 43) d_X12_best_43 fl_X12_159 (fun _ _ _ => rfl) ho8 ?_
        refine wp_sipush (pc := 46) (v := 20000) d_X12_best_46 rfl ?_
        refine wp_iload_n (pc := 49) d_X12_best_49 rfl ?_
        refine wp_imul (pc := 50) d_X12_best_50 ?_
        refine wp_iload_n (pc := 51) d_X12_best_51 rfl ?_
        refine wp_iadd (pc := 52) d_X12_best_52 ?_
        obtain ⟨ho9, h⟩ := h
        obtain ⟨hi10, h⟩ := h
        refine wp_lald (pc := 53) d_X12_best_53 ho9 hi10 ?_
        exact wp_lret (pc := 54) d_X12_best_54 rfl h
      · have h := h.2 hc
        refine wp_ldc2 (pc := 36) (v := (-9223372036854775808)) d_X12_best_36 cj_X12_466 ?_
        refine wp_goto (pc := 39) (tgt := 54) d_X12_best_39 (by decide) ?_
        exact wp_lret (pc := 54) d_X12_best_54 rfl h
    · have h := h.2 hc
      refine wp_ldc2 (pc := 15) (v := (-9223372036854775808)) d_X12_best_15 cj_X12_466 ?_
      exact wp_lret (pc := 18) d_X12_best_18 rfl h
theorem d_X12_solve_0 : decode prog_14_method_115_code 0 = .ok (.aload_n 0, 1) := by decide +kernel
theorem d_X12_solve_1 : decode prog_14_method_115_code 1 = .ok (.iload_n 1, 1) := by decide +kernel
theorem d_X12_solve_2 : decode prog_14_method_115_code 2 = .ok (.invokevirtual 453, 3) := by decide +kernel
theorem d_X12_solve_5 : decode prog_14_method_115_code 5 = .ok (.ifCond .ne 5, 3) := by decide +kernel
theorem d_X12_solve_8 : decode prog_14_method_115_code 8 = .ok (.iconst (-1), 1) := by decide +kernel
theorem d_X12_solve_9 : decode prog_14_method_115_code 9 = .ok (.ireturn, 1) := by decide +kernel
theorem d_X12_solve_10 : decode prog_14_method_115_code 10 = .ok (.aload_n 0, 1) := by decide +kernel
theorem d_X12_solve_11 : decode prog_14_method_115_code 11 = .ok (.iload_n 1, 1) := by decide +kernel
theorem d_X12_solve_12 : decode prog_14_method_115_code 12 = .ok (.invokevirtual 571, 3) := by decide +kernel
theorem d_X12_solve_15 : decode prog_14_method_115_code 15 = .ok (.aload_n 0, 1) := by decide +kernel
theorem d_X12_solve_16 : decode prog_14_method_115_code 16 = .ok (.iload_n 1, 1) := by decide +kernel
theorem d_X12_solve_17 : decode prog_14_method_115_code 17 = .ok (.iconst (-1), 1) := by decide +kernel
theorem d_X12_solve_18 : decode prog_14_method_115_code 18 = .ok (.iconst 0, 1) := by decide +kernel
theorem d_X12_solve_19 : decode prog_14_method_115_code 19 = .ok (.invokevirtual 592, 3) := by decide +kernel
theorem d_X12_solve_22 : decode prog_14_method_115_code 22 = .ok (.istore_n 2, 1) := by decide +kernel
theorem d_X12_solve_23 : decode prog_14_method_115_code 23 = .ok (.iload_n 2, 1) := by decide +kernel
theorem d_X12_solve_24 : decode prog_14_method_115_code 24 = .ok (.ifCond .ge 5, 3) := by decide +kernel
theorem d_X12_solve_27 : decode prog_14_method_115_code 27 = .ok (.iconst 0, 1) := by decide +kernel
theorem d_X12_solve_28 : decode prog_14_method_115_code 28 = .ok (.ireturn, 1) := by decide +kernel
theorem d_X12_solve_29 : decode prog_14_method_115_code 29 = .ok (.aload_n 0, 1) := by decide +kernel
theorem d_X12_solve_30 : decode prog_14_method_115_code 30 = .ok (.iload_n 1, 1) := by decide +kernel
theorem d_X12_solve_31 : decode prog_14_method_115_code 31 = .ok (.iload_n 2, 1) := by decide +kernel
theorem d_X12_solve_32 : decode prog_14_method_115_code 32 = .ok (.invokevirtual 595, 3) := by decide +kernel
theorem d_X12_solve_35 : decode prog_14_method_115_code 35 = .ok (.iconst 1, 1) := by decide +kernel
theorem d_X12_solve_36 : decode prog_14_method_115_code 36 = .ok (.ireturn, 1) := by decide +kernel
theorem v_X12_solve_0 {E : EE} {d : Nat} {Q : Option AV → AH → Prop} {x0 : Nat} {x1 : Int32} {G : AH} (h0 : 0 < d) (h : isO E G x0 12 ∧ (wpI E (d - 1) M_X12_isProblem [vr x0, vi x1] G (fun r1 G2 => (¬ r1 = 0 → isO E G2 x0 12 ∧ (wpV E (d - 1) M_X12_know [vr x0, vi x1] G2 (fun G3 => isO E G3 x0 12 ∧ (wpI E (d - 1) M_X12_firstBest [vr x0, vi x1, vi (-1), vi 0] G3 (fun r4 G5 => (0 ≤ r4 → isO E G5 x0 12 ∧ (wpV E (d - 1) M_X12_putAtHand [vr x0, vi x1, vi r4] G5 (fun G6 => Q (some (vi 1)) G6))) ∧ (¬ (0 ≤ r4) → Q (some (vi 0)) G5)))))) ∧ (r1 = 0 → Q (some (vi (-1))) G2)))) : wp E d M_X12_solve 0 [some (vr x0), some (vi x1), none] [] G Q := by
  refine wp_aload_n (pc := 0) d_X12_solve_0 rfl ?_
  refine wp_iload_n (pc := 1) d_X12_solve_1 rfl ?_
  obtain ⟨ho10, h⟩ := h
  refine wp_invV (pc := 2) (N := M_X12_isProblem) (As := [vi _]) (rest := []) (r := (cn_12, ct_12, 95)) d_X12_solve_2 ml_X12_453 mk_X12_isProblem mv_X12_isProblem h0 ho10 rfl rfl (Nat.le_of_ble_eq_true rfl) ?_
  refine wpM.mono h (fun rr G2 hr => ?_)
  obtain ⟨r1, rfl, h⟩ := hr
  show wp E d M_X12_solve 5 [some (vr _), some (vi _), none] [vi _] G2 Q
  refine wp_if_ne (pc := 5) (tgt := 10) d_X12_solve_5 (by decide) (fun hc => ?_) (fun hc => ?_)
  · have h := h.1 hc
    refine wp_aload_n (pc := 10) d_X12_solve_10 rfl ?_
    refine wp_iload_n (pc := 11) d_X12_solve_11 rfl ?_
    obtain ⟨ho9, h⟩ := h
    refine wp_invV (pc := 12) (N := M_X12_know) (As := [vi _]) (rest := []) (r := (cn_12, ct_12, 95)) d_X12_solve_12 ml_X12_571 mk_X12_know mv_X12_know h0 ho9 rfl rfl (Nat.le_of_ble_eq_true rfl) ?_
    refine wpM.mono h (fun rr G3 hr => ?_)
    obtain ⟨rfl, h⟩ := hr
    show wp E d M_X12_solve 15 [some (vr _), some (vi _), none] [] G3 Q
    refine wp_aload_n (pc := 15) d_X12_solve_15 rfl ?_
    refine wp_iload_n (pc := 16) d_X12_solve_16 rfl ?_
    refine wp_iconst (pc := 17) (v := (-1)) d_X12_solve_17 rfl ?_
    refine wp_iconst (pc := 18) (v := 0) d_X12_solve_18 rfl ?_
    obtain ⟨ho8, h⟩ := h
    refine wp_invV (pc := 19) (N := M_X12_firstBest) (As := [vi _, vi _, vi _]) (rest := []) (r := (cn_12, ct_12, 95)) d_X12_solve_19 ml_X12_592 mk_X12_firstBest mv_X12_firstBest h0 ho8 rfl rfl (Nat.le_of_ble_eq_true rfl) ?_
    refine wpM.mono h (fun rr G5 hr => ?_)
    obtain ⟨r4, rfl, h⟩ := hr
    show wp E d M_X12_solve 22 [some (vr _), some (vi _), none] [vi _] G5 Q
    refine wp_istore_n (pc := 22) (lv' := [some (vr _), some (vi _), some (vi _)]) d_X12_solve_22 (by decide) rfl ?_
    refine wp_iload_n (pc := 23) d_X12_solve_23 rfl ?_
    refine wp_if_ge (pc := 24) (tgt := 29) d_X12_solve_24 (by decide) (fun hc => ?_) (fun hc => ?_)
    · have h := h.1 hc
      refine wp_aload_n (pc := 29) d_X12_solve_29 rfl ?_
      refine wp_iload_n (pc := 30) d_X12_solve_30 rfl ?_
      refine wp_iload_n (pc := 31) d_X12_solve_31 rfl ?_
      obtain ⟨ho7, h⟩ := h
      refine wp_invV (pc := 32) (N := M_X12_putAtHand) (As := [vi _, vi _]) (rest := []) (r := (cn_12, ct_12, 95)) d_X12_solve_32 ml_X12_595 mk_X12_putAtHand mv_X12_putAtHand h0 ho7 rfl rfl (Nat.le_of_ble_eq_true rfl) ?_
      refine wpM.mono h (fun rr G6 hr => ?_)
      obtain ⟨rfl, h⟩ := hr
      show wp E d M_X12_solve 35 [some (vr _), some (vi _), some (vi _)] [] G6 Q
      refine wp_iconst (pc := 35) (v := 1) d_X12_solve_35 rfl ?_
      exact wp_iret (pc := 36) d_X12_solve_36 rfl h
    · have h := h.2 hc
      refine wp_iconst (pc := 27) (v := 0) d_X12_solve_27 rfl ?_
      exact wp_iret (pc := 28) d_X12_solve_28 rfl h
  · have h := h.2 hc
    refine wp_iconst (pc := 8) (v := (-1)) d_X12_solve_8 rfl ?_
    exact wp_iret (pc := 9) d_X12_solve_9 rfl h
theorem d_X12_hopeless_0 : decode prog_14_method_114_code 0 = .ok (.aload_n 0, 1) := by decide +kernel
theorem d_X12_hopeless_1 : decode prog_14_method_114_code 1 = .ok (.iload_n 1, 1) := by decide +kernel
theorem d_X12_hopeless_2 : decode prog_14_method_114_code 2 = .ok (.invokevirtual 453, 3) := by decide +kernel
theorem d_X12_hopeless_5 : decode prog_14_method_114_code 5 = .ok (.ifCond .ne 5, 3) := by decide +kernel
theorem d_X12_hopeless_8 : decode prog_14_method_114_code 8 = .ok (.iconst (-1), 1) := by decide +kernel
theorem d_X12_hopeless_9 : decode prog_14_method_114_code 9 = .ok (.ireturn, 1) := by decide +kernel
theorem d_X12_hopeless_10 : decode prog_14_method_114_code 10 = .ok (.aload_n 0, 1) := by decide +kernel
theorem d_X12_hopeless_11 : decode prog_14_method_114_code 11 = .ok (.iload_n 1, 1) := by decide +kernel
theorem d_X12_hopeless_12 : decode prog_14_method_114_code 12 = .ok (.invokevirtual 571, 3) := by decide +kernel
theorem d_X12_hopeless_15 : decode prog_14_method_114_code 15 = .ok (.iconst 0, 1) := by decide +kernel
theorem d_X12_hopeless_16 : decode prog_14_method_114_code 16 = .ok (.istore_n 2, 1) := by decide +kernel
theorem v_X12_hopeless_0 {E : EE} {d : Nat} {Q : Option AV → AH → Prop} {x0 : Nat} {x1 : Int32} {G : AH} (h0 : 0 < d) (h : isO E G x0 12 ∧ (wpI E (d - 1) M_X12_isProblem [vr x0, vi x1] G (fun r1 G2 => (¬ r1 = 0 → isO E G2 x0 12 ∧ (wpV E (d - 1) M_X12_know [vr x0, vi x1] G2 (fun G3 => wp E d M_X12_hopeless 17 [some (vr x0), some (vi x1), some (vi 0), none, none] [] G3 Q))) ∧ (r1 = 0 → Q (some (vi (-1))) G2)))) : wp E d M_X12_hopeless 0 [some (vr x0), some (vi x1), none, none, none] [] G Q := by
  refine wp_aload_n (pc := 0) d_X12_hopeless_0 rfl ?_
  refine wp_iload_n (pc := 1) d_X12_hopeless_1 rfl ?_
  obtain ⟨ho5, h⟩ := h
  refine wp_invV (pc := 2) (N := M_X12_isProblem) (As := [vi _]) (rest := []) (r := (cn_12, ct_12, 95)) d_X12_hopeless_2 ml_X12_453 mk_X12_isProblem mv_X12_isProblem h0 ho5 rfl rfl (Nat.le_of_ble_eq_true rfl) ?_
  refine wpM.mono h (fun rr G2 hr => ?_)
  obtain ⟨r1, rfl, h⟩ := hr
  show wp E d M_X12_hopeless 5 [some (vr _), some (vi _), none, none, none] [vi _] G2 Q
  refine wp_if_ne (pc := 5) (tgt := 10) d_X12_hopeless_5 (by decide) (fun hc => ?_) (fun hc => ?_)
  · have h := h.1 hc
    refine wp_aload_n (pc := 10) d_X12_hopeless_10 rfl ?_
    refine wp_iload_n (pc := 11) d_X12_hopeless_11 rfl ?_
    obtain ⟨ho4, h⟩ := h
    refine wp_invV (pc := 12) (N := M_X12_know) (As := [vi _]) (rest := []) (r := (cn_12, ct_12, 95)) d_X12_hopeless_12 ml_X12_571 mk_X12_know mv_X12_know h0 ho4 rfl rfl (Nat.le_of_ble_eq_true rfl) ?_
    refine wpM.mono h (fun rr G3 hr => ?_)
    obtain ⟨rfl, h⟩ := hr
    show wp E d M_X12_hopeless 15 [some (vr _), some (vi _), none, none, none] [] G3 Q
    refine wp_iconst (pc := 15) (v := 0) d_X12_hopeless_15 rfl ?_
    refine wp_istore_n (pc := 16) (lv' := [some (vr _), some (vi _), some (vi _), none, none]) d_X12_hopeless_16 (by decide) rfl ?_
    refine wp_sub ?_ h
    exact ⟨rfl, ⟨rfl, ⟨rfl, trivial⟩⟩⟩
  · have h := h.2 hc
    refine wp_iconst (pc := 8) (v := (-1)) d_X12_hopeless_8 rfl ?_
    exact wp_iret (pc := 9) d_X12_hopeless_9 rfl h
theorem d_X12_isLeft_0 : decode prog_14_method_113_code 0 = .ok (.aload_n 0, 1) := by decide +kernel
theorem d_X12_isLeft_1 : decode prog_14_method_113_code 1 = .ok (.iload_n 1, 1) := by decide +kernel
theorem d_X12_isLeft_2 : decode prog_14_method_113_code 2 = .ok (.iload_n 2, 1) := by decide +kernel
theorem d_X12_isLeft_3 : decode prog_14_method_113_code 3 = .ok (.invokevirtual 462, 3) := by decide +kernel
theorem d_X12_isLeft_6 : decode prog_14_method_113_code 6 = .ok (.ifCond .eq 22, 3) := by decide +kernel
theorem d_X12_isLeft_9 : decode prog_14_method_113_code 9 = .ok (.iload_n 3, 1) := by decide +kernel
theorem d_X12_isLeft_10 : decode prog_14_method_113_code 10 = .ok (.ifCond .lt 18, 3) := by decide +kernel
theorem d_X12_isLeft_13 : decode prog_14_method_113_code 13 = .ok (.iload_n 3, 1) := by decide +kernel
theorem d_X12_isLeft_14 : decode prog_14_method_113_code 14 = .ok (.aload_n 0, 1) := by decide +kernel
theorem d_X12_isLeft_15 : decode prog_14_method_113_code 15 = .ok (.getfield 64, 3) := by decide +kernel
theorem d_X12_isLeft_18 : decode prog_14_method_113_code 18 = .ok (.bipush 12, 2) := by decide +kernel
theorem d_X12_isLeft_20 : decode prog_14_method_113_code 20 = .ok (.iload_n 1, 1) := by decide +kernel
theorem d_X12_isLeft_21 : decode prog_14_method_113_code 21 = .ok (.imul, 1) := by decide +kernel
theorem d_X12_isLeft_22 : decode prog_14_method_113_code 22 = .ok (.iload_n 2, 1) := by decide +kernel
theorem d_X12_isLeft_23 : decode prog_14_method_113_code 23 = .ok (.iadd, 1) := by decide +kernel
theorem d_X12_isLeft_24 : decode prog_14_method_113_code 24 = .ok (.iaload, 1) := by decide +kernel
theorem d_X12_isLeft_25 : decode prog_14_method_113_code 25 = .ok (.if_icmp .lt 5, 3) := by decide +kernel
theorem d_X12_isLeft_28 : decode prog_14_method_113_code 28 = .ok (.iconst 0, 1) := by decide +kernel
theorem d_X12_isLeft_29 : decode prog_14_method_113_code 29 = .ok (.ireturn, 1) := by decide +kernel
theorem d_X12_isLeft_30 : decode prog_14_method_113_code 30 = .ok (.aload_n 0, 1) := by decide +kernel
theorem d_X12_isLeft_31 : decode prog_14_method_113_code 31 = .ok (.iload_n 1, 1) := by decide +kernel
theorem d_X12_isLeft_32 : decode prog_14_method_113_code 32 = .ok (.invokevirtual 589, 3) := by decide +kernel
theorem d_X12_isLeft_35 : decode prog_14_method_113_code 35 = .ok (.aload_n 0, 1) := by decide +kernel
theorem d_X12_isLeft_36 : decode prog_14_method_113_code 36 = .ok (.getfield 162, 3) := by decide +kernel
theorem d_X12_isLeft_39 : decode prog_14_method_113_code 39 = .ok (.bipush 20, 2) := by decide +kernel
theorem d_X12_isLeft_41 : decode prog_14_method_113_code 41 = .ok (.iload_n 2, 1) := by decide +kernel
theorem d_X12_isLeft_42 : decode prog_14_method_113_code 42 = .ok (.imul, 1) := by decide +kernel
theorem d_X12_isLeft_43 : decode prog_14_method_113_code 43 = .ok (.iload_n 3, 1) := by decide +kernel
theorem d_X12_isLeft_44 : decode prog_14_method_113_code 44 = .ok (.iadd, 1) := by decide +kernel
theorem d_X12_isLeft_45 : decode prog_14_method_113_code 45 = .ok (.baload, 1) := by decide +kernel
theorem d_X12_isLeft_46 : decode prog_14_method_113_code 46 = .ok (.ireturn, 1) := by decide +kernel
theorem v_X12_isLeft_0 {E : EE} {d : Nat} {Q : Option AV → AH → Prop} {x0 : Nat} {x1 : Int32} {x2 : Int32} {x3 : Int32} {G : AH} (h0 : 0 < d) (h : isO E G x0 12 ∧ (wpI E (d - 1) M_X12_isVar [vr x0, vi x1, vi x2] G (fun r1 G2 => (r1 = 0 → Q (some (vi 0)) G2) ∧ (¬ (r1 = 0) → (x3 < 0 → Q (some (vi 0)) G2) ∧ (¬ (x3 < 0) → isO E G2 x0 12 ∧ (isO E G2 (gR G2 x0 19) 14 ∧ (vp_in ((12 * x1) + x2) (gN G2 (gR G2 x0 19)) ∧ ((x3 < (gI G2 (gR G2 x0 19) (Int32.toNatClampNeg ((12 * x1) + x2))) → wpV E (d - 1) M_X12_findLeft [vr x0, vi x1] G2 (fun G6 => isO E G6 x0 12 ∧ (isO E G6 (gR G6 x0 67) 16 ∧ (vp_in ((20 * x2) + x3) (gN G6 (gR G6 x0 67)) ∧ (okI .boolean (gI G6 (gR G6 x0 67) (Int32.toNatClampNeg ((20 * x2) + x3))) ∧ Q (some (vi (gI G6 (gR G6 x0 67) (Int32.toNatClampNeg ((20 * x2) + x3))))) G6))))) ∧ (¬ (x3 < (gI G2 (gR G2 x0 19) (Int32.toNatClampNeg ((12 * x1) + x2)))) → Q (some (vi 0)) G2))))))))) : wp E d M_X12_isLeft 0 [some (vr x0), some (vi x1), some (vi x2), some (vi x3)] [] G Q := by
  refine wp_aload_n (pc := 0) d_X12_isLeft_0 rfl ?_
  refine wp_iload_n (pc := 1) d_X12_isLeft_1 rfl ?_
  refine wp_iload_n (pc := 2) d_X12_isLeft_2 rfl ?_
  obtain ⟨ho10, h⟩ := h
  refine wp_invV (pc := 3) (N := M_X12_isVar) (As := [vi _, vi _]) (rest := []) (r := (cn_12, ct_12, 95)) d_X12_isLeft_3 ml_X12_462 mk_X12_isVar mv_X12_isVar h0 ho10 rfl rfl (Nat.le_of_ble_eq_true rfl) ?_
  refine wpM.mono h (fun rr G2 hr => ?_)
  obtain ⟨r1, rfl, h⟩ := hr
  show wp E d M_X12_isLeft 6 [some (vr _), some (vi _), some (vi _), some (vi _)] [vi _] G2 Q
  refine wp_if_eq (pc := 6) (tgt := 28) d_X12_isLeft_6 (by decide) (fun hc => ?_) (fun hc => ?_)
  · have h := h.1 hc
    refine wp_iconst (pc := 28) (v := 0) d_X12_isLeft_28 rfl ?_
    exact wp_zret (pc := 29) d_X12_isLeft_29 rfl rfl h
  · have h := h.2 hc
    refine wp_iload_n (pc := 9) d_X12_isLeft_9 rfl ?_
    refine wp_if_lt (pc := 10) (tgt := 28) d_X12_isLeft_10 (by decide) (fun hc => ?_) (fun hc => ?_)
    · have h := h.1 hc
      refine wp_iconst (pc := 28) (v := 0) d_X12_isLeft_28 rfl ?_
      exact wp_zret (pc := 29) d_X12_isLeft_29 rfl rfl h
    · have h := h.2 hc
      refine wp_iload_n (pc := 13) d_X12_isLeft_13 rfl ?_
      refine wp_aload_n (pc := 14) d_X12_isLeft_14 rfl ?_
      obtain ⟨ho3, h⟩ := h
      refine wp_getR (pc := 15) d_X12_isLeft_15 fl_X12_64 (fun _ _ _ => rfl) ho3 ?_
      refine wp_bipush (pc := 18) (v := 12) d_X12_isLeft_18 rfl ?_
      refine wp_iload_n (pc := 20) d_X12_isLeft_20 rfl ?_
      refine wp_imul (pc := 21) d_X12_isLeft_21 ?_
      refine wp_iload_n (pc := 22) d_X12_isLeft_22 rfl ?_
      refine wp_iadd (pc := 23) d_X12_isLeft_23 ?_
      obtain ⟨ho4, h⟩ := h
      obtain ⟨hi5, h⟩ := h
      refine wp_iald (pc := 24) d_X12_isLeft_24 ho4 hi5 ?_
      refine wp_icmp_lt (pc := 25) (tgt := 30) d_X12_isLeft_25 (by decide) (fun hc => ?_) (fun hc => ?_)
      · have h := h.1 hc
        refine wp_aload_n (pc := 30) d_X12_isLeft_30 rfl ?_
        refine wp_iload_n (pc := 31) d_X12_isLeft_31 rfl ?_
        refine wp_invV (pc := 32) (N := M_X12_findLeft) (As := [vi _]) (rest := []) (r := (cn_12, ct_12, 95)) d_X12_isLeft_32 ml_X12_589 mk_X12_findLeft mv_X12_findLeft h0 ho3 rfl rfl (Nat.le_of_ble_eq_true rfl) ?_
        refine wpM.mono h (fun rr G6 hr => ?_)
        obtain ⟨rfl, h⟩ := hr
        show wp E d M_X12_isLeft 35 [some (vr _), some (vi _), some (vi _), some (vi _)] [] G6 Q
        refine wp_aload_n (pc := 35) d_X12_isLeft_35 rfl ?_
        obtain ⟨ho7, h⟩ := h
        refine wp_getR (pc := 36) d_X12_isLeft_36 fl_X12_162 (fun _ _ _ => rfl) ho7 ?_
        refine wp_bipush (pc := 39) (v := 20) d_X12_isLeft_39 rfl ?_
        refine wp_iload_n (pc := 41) d_X12_isLeft_41 rfl ?_
        refine wp_imul (pc := 42) d_X12_isLeft_42 ?_
        refine wp_iload_n (pc := 43) d_X12_isLeft_43 rfl ?_
        refine wp_iadd (pc := 44) d_X12_isLeft_44 ?_
        obtain ⟨ho8, h⟩ := h
        obtain ⟨hi9, h⟩ := h
        refine wp_zald (pc := 45) d_X12_isLeft_45 ho8 hi9 ?_
        exact wp_zret (pc := 46) d_X12_isLeft_46 rfl h.1.1 h.2
      · have h := h.2 hc
        refine wp_iconst (pc := 28) (v := 0) d_X12_isLeft_28 rfl ?_
        exact wp_zret (pc := 29) d_X12_isLeft_29 rfl rfl h
theorem d_X12_reach_0 : decode prog_14_method_112_code 0 = .ok (.aload_n 0, 1) := by decide +kernel
theorem d_X12_reach_1 : decode prog_14_method_112_code 1 = .ok (.iload_n 1, 1) := by decide +kernel
theorem d_X12_reach_2 : decode prog_14_method_112_code 2 = .ok (.invokevirtual 453, 3) := by decide +kernel
theorem d_X12_reach_5 : decode prog_14_method_112_code 5 = .ok (.ifCond .ne 5, 3) := by decide +kernel
theorem d_X12_reach_8 : decode prog_14_method_112_code 8 = .ok (.iconst (-1), 1) := by decide +kernel
theorem d_X12_reach_9 : decode prog_14_method_112_code 9 = .ok (.ireturn, 1) := by decide +kernel
theorem d_X12_reach_10 : decode prog_14_method_112_code 10 = .ok (.aload_n 0, 1) := by decide +kernel
theorem d_X12_reach_11 : decode prog_14_method_112_code 11 = .ok (.iload_n 1, 1) := by decide +kernel
theorem d_X12_reach_12 : decode prog_14_method_112_code 12 = .ok (.invokevirtual 589, 3) := by decide +kernel
theorem d_X12_reach_15 : decode prog_14_method_112_code 15 = .ok (.iconst 0, 1) := by decide +kernel
theorem d_X12_reach_16 : decode prog_14_method_112_code 16 = .ok (.istore_n 2, 1) := by decide +kernel
theorem d_X12_reach_17 : decode prog_14_method_112_code 17 = .ok (.iconst 0, 1) := by decide +kernel
theorem d_X12_reach_18 : decode prog_14_method_112_code 18 = .ok (.istore_n 3, 1) := by decide +kernel
theorem v_X12_reach_0 {E : EE} {d : Nat} {Q : Option AV → AH → Prop} {x0 : Nat} {x1 : Int32} {G : AH} (h0 : 0 < d) (h : isO E G x0 12 ∧ (wpI E (d - 1) M_X12_isProblem [vr x0, vi x1] G (fun r1 G2 => (¬ r1 = 0 → isO E G2 x0 12 ∧ (wpV E (d - 1) M_X12_findLeft [vr x0, vi x1] G2 (fun G3 => wp E d M_X12_reach 19 [some (vr x0), some (vi x1), some (vi 0), some (vi 0), none] [] G3 Q))) ∧ (r1 = 0 → Q (some (vi (-1))) G2)))) : wp E d M_X12_reach 0 [some (vr x0), some (vi x1), none, none, none] [] G Q := by
  refine wp_aload_n (pc := 0) d_X12_reach_0 rfl ?_
  refine wp_iload_n (pc := 1) d_X12_reach_1 rfl ?_
  obtain ⟨ho5, h⟩ := h
  refine wp_invV (pc := 2) (N := M_X12_isProblem) (As := [vi _]) (rest := []) (r := (cn_12, ct_12, 95)) d_X12_reach_2 ml_X12_453 mk_X12_isProblem mv_X12_isProblem h0 ho5 rfl rfl (Nat.le_of_ble_eq_true rfl) ?_
  refine wpM.mono h (fun rr G2 hr => ?_)
  obtain ⟨r1, rfl, h⟩ := hr
  show wp E d M_X12_reach 5 [some (vr _), some (vi _), none, none, none] [vi _] G2 Q
  refine wp_if_ne (pc := 5) (tgt := 10) d_X12_reach_5 (by decide) (fun hc => ?_) (fun hc => ?_)
  · have h := h.1 hc
    refine wp_aload_n (pc := 10) d_X12_reach_10 rfl ?_
    refine wp_iload_n (pc := 11) d_X12_reach_11 rfl ?_
    obtain ⟨ho4, h⟩ := h
    refine wp_invV (pc := 12) (N := M_X12_findLeft) (As := [vi _]) (rest := []) (r := (cn_12, ct_12, 95)) d_X12_reach_12 ml_X12_589 mk_X12_findLeft mv_X12_findLeft h0 ho4 rfl rfl (Nat.le_of_ble_eq_true rfl) ?_
    refine wpM.mono h (fun rr G3 hr => ?_)
    obtain ⟨rfl, h⟩ := hr
    show wp E d M_X12_reach 15 [some (vr _), some (vi _), none, none, none] [] G3 Q
    refine wp_iconst (pc := 15) (v := 0) d_X12_reach_15 rfl ?_
    refine wp_istore_n (pc := 16) (lv' := [some (vr _), some (vi _), some (vi _), none, none]) d_X12_reach_16 (by decide) rfl ?_
    refine wp_iconst (pc := 17) (v := 0) d_X12_reach_17 rfl ?_
    refine wp_istore_n (pc := 18) (lv' := [some (vr _), some (vi _), some (vi _), some (vi _), none]) d_X12_reach_18 (by decide) rfl ?_
    refine wp_sub ?_ h
    exact ⟨rfl, ⟨rfl, ⟨rfl, ⟨rfl, trivial⟩⟩⟩⟩
  · have h := h.2 hc
    refine wp_iconst (pc := 8) (v := (-1)) d_X12_reach_8 rfl ?_
    exact wp_iret (pc := 9) d_X12_reach_9 rfl h
theorem d_X12_feasible_0 : decode prog_14_method_109_code 0 = .ok (.aload_n 0, 1) := by decide +kernel
theorem d_X12_feasible_1 : decode prog_14_method_109_code 1 = .ok (.iload_n 1, 1) := by decide +kernel
theorem d_X12_feasible_2 : decode prog_14_method_109_code 2 = .ok (.invokevirtual 453, 3) := by decide +kernel
theorem d_X12_feasible_5 : decode prog_14_method_109_code 5 = .ok (.ifCond .ne 5, 3) := by decide +kernel
theorem d_X12_feasible_8 : decode prog_14_method_109_code 8 = .ok (.iconst 0, 1) := by decide +kernel
theorem d_X12_feasible_9 : decode prog_14_method_109_code 9 = .ok (.ireturn, 1) := by decide +kernel
theorem d_X12_feasible_10 : decode prog_14_method_109_code 10 = .ok (.aload_n 0, 1) := by decide +kernel
theorem d_X12_feasible_11 : decode prog_14_method_109_code 11 = .ok (.iload_n 1, 1) := by decide +kernel
theorem d_X12_feasible_12 : decode prog_14_method_109_code 12 = .ok (.invokevirtual 571, 3) := by decide +kernel
theorem d_X12_feasible_15 : decode prog_14_method_109_code 15 = .ok (.aload_n 0, 1) := by decide +kernel
theorem d_X12_feasible_16 : decode prog_14_method_109_code 16 = .ok (.aload_n 0, 1) := by decide +kernel
theorem d_X12_feasible_17 : decode prog_14_method_109_code 17 = .ok (.iload_n 1, 1) := by decide +kernel
theorem d_X12_feasible_18 : decode prog_14_method_109_code 18 = .ok (.invokevirtual 580, 3) := by decide +kernel
theorem d_X12_feasible_21 : decode prog_14_method_109_code 21 = .ok (.invokevirtual 556, 3) := by decide +kernel
theorem d_X12_feasible_24 : decode prog_14_method_109_code 24 = .ok (.ireturn, 1) := by decide +kernel
theorem v_X12_feasible_0 {E : EE} {d : Nat} {Q : Option AV → AH → Prop} {x0 : Nat} {x1 : Int32} {G : AH} (h0 : 0 < d) (h : isO E G x0 12 ∧ (wpI E (d - 1) M_X12_isProblem [vr x0, vi x1] G (fun r1 G2 => (¬ r1 = 0 → isO E G2 x0 12 ∧ (wpV E (d - 1) M_X12_know [vr x0, vi x1] G2 (fun G3 => isO E G3 x0 12 ∧ (wpI E (d - 1) M_X12_handOf [vr x0, vi x1] G3 (fun r4 G5 => isO E G5 x0 12 ∧ (wpI E (d - 1) M_X12_isFeasible [vr x0, vi r4] G5 (fun r6 G7 => okI .boolean r6 ∧ Q (some (vi r6)) G7))))))) ∧ (r1 = 0 → Q (some (vi 0)) G2)))) : wp E d M_X12_feasible 0 [some (vr x0), some (vi x1)] [] G Q := by
  refine wp_aload_n (pc := 0) d_X12_feasible_0 rfl ?_
  refine wp_iload_n (pc := 1) d_X12_feasible_1 rfl ?_
  obtain ⟨ho11, h⟩ := h
  refine wp_invV (pc := 2) (N := M_X12_isProblem) (As := [vi _]) (rest := []) (r := (cn_12, ct_12, 95)) d_X12_feasible_2 ml_X12_453 mk_X12_isProblem mv_X12_isProblem h0 ho11 rfl rfl (Nat.le_of_ble_eq_true rfl) ?_
  refine wpM.mono h (fun rr G2 hr => ?_)
  obtain ⟨r1, rfl, h⟩ := hr
  show wp E d M_X12_feasible 5 [some (vr _), some (vi _)] [vi _] G2 Q
  refine wp_if_ne (pc := 5) (tgt := 10) d_X12_feasible_5 (by decide) (fun hc => ?_) (fun hc => ?_)
  · have h := h.1 hc
    refine wp_aload_n (pc := 10) d_X12_feasible_10 rfl ?_
    refine wp_iload_n (pc := 11) d_X12_feasible_11 rfl ?_
    obtain ⟨ho10, h⟩ := h
    refine wp_invV (pc := 12) (N := M_X12_know) (As := [vi _]) (rest := []) (r := (cn_12, ct_12, 95)) d_X12_feasible_12 ml_X12_571 mk_X12_know mv_X12_know h0 ho10 rfl rfl (Nat.le_of_ble_eq_true rfl) ?_
    refine wpM.mono h (fun rr G3 hr => ?_)
    obtain ⟨rfl, h⟩ := hr
    show wp E d M_X12_feasible 15 [some (vr _), some (vi _)] [] G3 Q
    refine wp_aload_n (pc := 15) d_X12_feasible_15 rfl ?_
    refine wp_aload_n (pc := 16) d_X12_feasible_16 rfl ?_
    refine wp_iload_n (pc := 17) d_X12_feasible_17 rfl ?_
    obtain ⟨ho9, h⟩ := h
    refine wp_invV (pc := 18) (N := M_X12_handOf) (As := [vi _]) (rest := [vr _]) (r := (cn_12, ct_12, 95)) d_X12_feasible_18 ml_X12_580 mk_X12_handOf mv_X12_handOf h0 ho9 rfl rfl (Nat.le_of_ble_eq_true rfl) ?_
    refine wpM.mono h (fun rr G5 hr => ?_)
    obtain ⟨r4, rfl, h⟩ := hr
    show wp E d M_X12_feasible 21 [some (vr _), some (vi _)] [vi _, vr _] G5 Q
    obtain ⟨ho8, h⟩ := h
    refine wp_invV (pc := 21) (N := M_X12_isFeasible) (As := [vi _]) (rest := []) (r := (cn_12, ct_12, 95)) d_X12_feasible_21 ml_X12_556 mk_X12_isFeasible mv_X12_isFeasible h0 ho8 rfl rfl (Nat.le_of_ble_eq_true rfl) ?_
    refine wpM.mono h (fun rr G7 hr => ?_)
    obtain ⟨r6, rfl, h⟩ := hr
    show wp E d M_X12_feasible 24 [some (vr _), some (vi _)] [vi _] G7 Q
    exact wp_zret (pc := 24) d_X12_feasible_24 rfl h.1.1 h.2
  · have h := h.2 hc
    refine wp_iconst (pc := 8) (v := 0) d_X12_feasible_8 rfl ?_
    exact wp_zret (pc := 9) d_X12_feasible_9 rfl rfl h
theorem d_X12_score_0 : decode prog_14_method_108_code 0 = .ok (.aload_n 0, 1) := by decide +kernel
theorem d_X12_score_1 : decode prog_14_method_108_code 1 = .ok (.iload_n 1, 1) := by decide +kernel
theorem d_X12_score_2 : decode prog_14_method_108_code 2 = .ok (.invokevirtual 453, 3) := by decide +kernel
theorem d_X12_score_5 : decode prog_14_method_108_code 5 = .ok (.ifCond .eq 10, 3) := by decide +kernel
theorem d_X12_score_8 : decode prog_14_method_108_code 8 = .ok (.iload_n 2, 1) := by decide +kernel
theorem d_X12_score_9 : decode prog_14_method_108_code 9 = .ok (.invokestatic 583, 3) := by decide +kernel
theorem d_X12_score_12 : decode prog_14_method_108_code 12 = .ok (.ifCond .ne 7, 3) := by decide +kernel
theorem d_X12_score_15 : decode prog_14_method_108_code 15 = .ok (.ldc2_w 466, 3) := by decide +kernel
theorem d_X12_score_18 : decode prog_14_method_108_code 18 = .ok (.lreturn, 1) := by decide +kernel
theorem d_X12_score_19 : decode prog_14_method_108_code 19 = .ok (.aload_n 0, 1) := by decide +kernel
theorem d_X12_score_20 : decode prog_14_method_108_code 20 = .ok (.iload_n 1, 1) := by decide +kernel
theorem d_X12_score_21 : decode prog_14_method_108_code 21 = .ok (.invokevirtual 571, 3) := by decide +kernel
theorem d_X12_score_24 : decode prog_14_method_108_code 24 = .ok (.aload_n 0, 1) := by decide +kernel
theorem d_X12_score_25 : decode prog_14_method_108_code 25 = .ok (.getfield 159, 3) := by decide +kernel
theorem d_X12_score_28 : decode prog_14_method_108_code 28 = .ok (.sipush 20000, 3) := by decide +kernel
theorem d_X12_score_31 : decode prog_14_method_108_code 31 = .ok (.iload_n 2, 1) := by decide +kernel
theorem d_X12_score_32 : decode prog_14_method_108_code 32 = .ok (.imul, 1) := by decide +kernel
theorem d_X12_score_33 : decode prog_14_method_108_code 33 = .ok (.aload_n 0, 1) := by decide +kernel
theorem d_X12_score_34 : decode prog_14_method_108_code 34 = .ok (.iload_n 1, 1) := by decide +kernel
theorem d_X12_score_35 : decode prog_14_method_108_code 35 = .ok (.invokevirtual 580, 3) := by decide +kernel
theorem d_X12_score_38 : decode prog_14_method_108_code 38 = .ok (.iadd, 1) := by decide +kernel
theorem d_X12_score_39 : decode prog_14_method_108_code 39 = .ok (.laload, 1) := by decide +kernel
theorem d_X12_score_40 : decode prog_14_method_108_code 40 = .ok (.lreturn, 1) := by decide +kernel
theorem v_X12_score_0 {E : EE} {d : Nat} {Q : Option AV → AH → Prop} {x0 : Nat} {x1 : Int32} {x2 : Int32} {G : AH} (h0 : 0 < d) (h : isO E G x0 12 ∧ (wpI E (d - 1) M_X12_isProblem [vr x0, vi x1] G (fun r1 G2 => (r1 = 0 → Q (some (vj (-9223372036854775808))) G2) ∧ (¬ (r1 = 0) → wpI E (d - 1) M_X12_isLevel [vi x2] G2 (fun r3 G4 => (¬ r3 = 0 → isO E G4 x0 12 ∧ (wpV E (d - 1) M_X12_know [vr x0, vi x1] G4 (fun G5 => isO E G5 x0 12 ∧ (wpI E (d - 1) M_X12_handOf [vr x0, vi x1] G5 (fun r7 G8 => isO E G8 (gR G5 x0 66) 15 ∧ (vp_in ((20000 * x2) + r7) (gN G8 (gR G5 x0 66)) ∧ (Q (some (vj (gJ G8 (gR G5 x0 66) (Int32.toNatClampNeg ((20000 * x2) + r7))))) G8))))))) ∧ (r3 = 0 → Q (some (vj (-9223372036854775808))) G4)))))) : wp E d M_X12_score 0 [some (vr x0), some (vi x1), some (vi x2)] [] G Q := by
  refine wp_aload_n (pc := 0) d_X12_score_0 rfl ?_
  refine wp_iload_n (pc := 1) d_X12_score_1 rfl ?_
  obtain ⟨ho12, h⟩ := h
  refine wp_invV (pc := 2) (N := M_X12_isProblem) (As := [vi _]) (rest := []) (r := (cn_12, ct_12, 95)) d_X12_score_2 ml_X12_453 mk_X12_isProblem mv_X12_isProblem h0 ho12 rfl rfl (Nat.le_of_ble_eq_true rfl) ?_
  refine wpM.mono h (fun rr G2 hr => ?_)
  obtain ⟨r1, rfl, h⟩ := hr
  show wp E d M_X12_score 5 [some (vr _), some (vi _), some (vi _)] [vi _] G2 Q
  refine wp_if_eq (pc := 5) (tgt := 15) d_X12_score_5 (by decide) (fun hc => ?_) (fun hc => ?_)
  · have h := h.1 hc
    refine wp_ldc2 (pc := 15) (v := (-9223372036854775808)) d_X12_score_15 cj_X12_466 ?_
    exact wp_lret (pc := 18) d_X12_score_18 rfl h
  · have h := h.2 hc
    refine wp_iload_n (pc := 8) d_X12_score_8 rfl ?_
    refine wp_invS (pc := 9) (N := M_X12_isLevel) (As := [vi _]) (rest := []) d_X12_score_9 ml_X12_583 mk_X12_isLevel ms_X12_isLevel h0 (Nat.le_of_ble_eq_true rfl) ?_
    refine wpM.mono h (fun rr G4 hr => ?_)
    obtain ⟨r3, rfl, h⟩ := hr
    show wp E d M_X12_score 12 [some (vr _), some (vi _), some (vi _)] [vi _] G4 Q
    refine wp_if_ne (pc := 12) (tgt := 19) d_X12_score_12 (by decide) (fun hc => ?_) (fun hc => ?_)
    · have h := h.1 hc
      refine wp_aload_n (pc := 19) d_X12_score_19 rfl ?_
      refine wp_iload_n (pc := 20) d_X12_score_20 rfl ?_
      obtain ⟨ho11, h⟩ := h
      refine wp_invV (pc := 21) (N := M_X12_know) (As := [vi _]) (rest := []) (r := (cn_12, ct_12, 95)) d_X12_score_21 ml_X12_571 mk_X12_know mv_X12_know h0 ho11 rfl rfl (Nat.le_of_ble_eq_true rfl) ?_
      refine wpM.mono h (fun rr G5 hr => ?_)
      obtain ⟨rfl, h⟩ := hr
      show wp E d M_X12_score 24 [some (vr _), some (vi _), some (vi _)] [] G5 Q
      refine wp_aload_n (pc := 24) d_X12_score_24 rfl ?_
      obtain ⟨ho6, h⟩ := h
      refine wp_getR (pc := 25) d_X12_score_25 fl_X12_159 (fun _ _ _ => rfl) ho6 ?_
      refine wp_sipush (pc := 28) (v := 20000) d_X12_score_28 rfl ?_
      refine wp_iload_n (pc := 31) d_X12_score_31 rfl ?_
      refine wp_imul (pc := 32) d_X12_score_32 ?_
      refine wp_aload_n (pc := 33) d_X12_score_33 rfl ?_
      refine wp_iload_n (pc := 34) d_X12_score_34 rfl ?_
      refine wp_invV (pc := 35) (N := M_X12_handOf) (As := [vi _]) (rest := [vi _, vr _]) (r := (cn_12, ct_12, 95)) d_X12_score_35 ml_X12_580 mk_X12_handOf mv_X12_handOf h0 ho6 rfl rfl (Nat.le_of_ble_eq_true rfl) ?_
      refine wpM.mono h (fun rr G8 hr => ?_)
      obtain ⟨r7, rfl, h⟩ := hr
      show wp E d M_X12_score 38 [some (vr _), some (vi _), some (vi _)] [vi _, vi _, vr _] G8 Q
      refine wp_iadd (pc := 38) d_X12_score_38 ?_
      obtain ⟨ho9, h⟩ := h
      obtain ⟨hi10, h⟩ := h
      refine wp_lald (pc := 39) d_X12_score_39 ho9 hi10 ?_
      exact wp_lret (pc := 40) d_X12_score_40 rfl h
    · have h := h.2 hc
      refine wp_ldc2 (pc := 15) (v := (-9223372036854775808)) d_X12_score_15 cj_X12_466 ?_
      exact wp_lret (pc := 18) d_X12_score_18 rfl h

