theorem d_X12_check_0 : decode prog_14_method_164_code 0 = .ok (.aload_n 0, 1) := by decide +kernel
theorem d_X12_check_1 : decode prog_14_method_164_code 1 = .ok (.iload_n 1, 1) := by decide +kernel
theorem d_X12_check_2 : decode prog_14_method_164_code 2 = .ok (.invokevirtual 453, 3) := by decide +kernel
theorem d_X12_check_5 : decode prog_14_method_164_code 5 = .ok (.ifCond .ne 6, 3) := by decide +kernel
theorem d_X12_check_8 : decode prog_14_method_164_code 8 = .ok (.ldc 220, 2) := by decide +kernel
theorem d_X12_check_10 : decode prog_14_method_164_code 10 = .ok (.ireturn, 1) := by decide +kernel
theorem d_X12_check_11 : decode prog_14_method_164_code 11 = .ok (.aload_n 0, 1) := by decide +kernel
theorem d_X12_check_12 : decode prog_14_method_164_code 12 = .ok (.iload_n 1, 1) := by decide +kernel
theorem d_X12_check_13 : decode prog_14_method_164_code 13 = .ok (.invokevirtual 571, 3) := by decide +kernel
theorem d_X12_check_16 : decode prog_14_method_164_code 16 = .ok (.aload_n 0, 1) := by decide +kernel
theorem d_X12_check_17 : decode prog_14_method_164_code 17 = .ok (.iload_n 1, 1) := by decide +kernel
theorem d_X12_check_18 : decode prog_14_method_164_code 18 = .ok (.invokevirtual 696, 3) := by decide +kernel
theorem d_X12_check_21 : decode prog_14_method_164_code 21 = .ok (.aload_n 0, 1) := by decide +kernel
theorem d_X12_check_22 : decode prog_14_method_164_code 22 = .ok (.iconst 1, 1) := by decide +kernel
theorem d_X12_check_23 : decode prog_14_method_164_code 23 = .ok (.putfield 224, 3) := by decide +kernel
theorem d_X12_check_26 : decode prog_14_method_164_code 26 = .ok (.aload_n 0, 1) := by decide +kernel
theorem d_X12_check_27 : decode prog_14_method_164_code 27 = .ok (.aload_n 0, 1) := by decide +kernel
theorem d_X12_check_28 : decode prog_14_method_164_code 28 = .ok (.getfield 217, 3) := by decide +kernel
theorem d_X12_check_31 : decode prog_14_method_164_code 31 = .ok (.putfield 221, 3) := by decide +kernel
theorem d_X12_check_34 : decode prog_14_method_164_code 34 = .ok (.aload_n 0, 1) := by decide +kernel
theorem d_X12_check_35 : decode prog_14_method_164_code 35 = .ok (.iconst 0, 1) := by decide +kernel
theorem d_X12_check_36 : decode prog_14_method_164_code 36 = .ok (.putfield 231, 3) := by decide +kernel
theorem d_X12_check_39 : decode prog_14_method_164_code 39 = .ok (.aload_n 0, 1) := by decide +kernel
theorem d_X12_check_40 : decode prog_14_method_164_code 40 = .ok (.iconst 0, 1) := by decide +kernel
theorem d_X12_check_41 : decode prog_14_method_164_code 41 = .ok (.putfield 311, 3) := by decide +kernel
theorem d_X12_check_44 : decode prog_14_method_164_code 44 = .ok (.aload_n 0, 1) := by decide +kernel
theorem d_X12_check_45 : decode prog_14_method_164_code 45 = .ok (.invokevirtual 324, 3) := by decide +kernel
theorem d_X12_check_48 : decode prog_14_method_164_code 48 = .ok (.aload_n 0, 1) := by decide +kernel
theorem d_X12_check_49 : decode prog_14_method_164_code 49 = .ok (.iload_n 1, 1) := by decide +kernel
theorem d_X12_check_50 : decode prog_14_method_164_code 50 = .ok (.invokevirtual 693, 3) := by decide +kernel
theorem d_X12_check_53 : decode prog_14_method_164_code 53 = .ok (.aload_n 0, 1) := by decide +kernel
theorem d_X12_check_54 : decode prog_14_method_164_code 54 = .ok (.getfield 311, 3) := by decide +kernel
theorem d_X12_check_57 : decode prog_14_method_164_code 57 = .ok (.ifCond .ne 14, 3) := by decide +kernel
theorem d_X12_check_60 : decode prog_14_method_164_code 60 = .ok (.aload_n 0, 1) := by decide +kernel
theorem d_X12_check_61 : decode prog_14_method_164_code 61 = .ok (.getfield 292, 3) := by decide +kernel
theorem d_X12_check_64 : decode prog_14_method_164_code 64 = .ok (.ifCond .eq 7, 3) := by decide +kernel
theorem d_X12_check_67 : decode prog_14_method_164_code 67 = .ok (.aload_n 0, 1) := by decide +kernel
theorem d_X12_check_68 : decode prog_14_method_164_code 68 = .ok (.invokevirtual 327, 3) := by decide +kernel
theorem v_X12_check_0 {E : EE} {d : Nat} {Q : Option AV → AH → Prop} {x0 : Nat} {x1 : Int32} {G : AH} (h0 : 0 < d) (h : isO E G x0 12 ∧ (wpI E (d - 1) M_X12_isProblem [vr x0, vi x1] G (fun r1 G2 => (¬ r1 = 0 → isO E G2 x0 12 ∧ (wpV E (d - 1) M_X12_know [vr x0, vi x1] G2 (fun G3 => isO E G3 x0 12 ∧ (wpV E (d - 1) M_X12_giveAll [vr x0, vi x1] G3 (fun G4 => isO E G4 x0 12 ∧ (∀ G6 : AH, G6 = sI G4 x0 37 1 → ∀ G8 : AH, G8 = sI G6 x0 39 (gI G6 x0 1) → ∀ G10 : AH, G10 = sI G8 x0 40 0 → ∀ G12 : AH, G12 = sI G10 x0 45 0 → wpV E (d - 1) M_X12_next [vr x0] G12 (fun G14 => isO E G14 x0 12 ∧ (wpV E (d - 1) M_X12_tree [vr x0, vi x1] G14 (fun G15 => isO E G15 x0 12 ∧ ((¬ (gI G15 x0 45) = 0 → wp E d M_X12_check 71 [some (vr x0), some (vi x1)] [] G15 Q) ∧ ((gI G15 x0 45) = 0 → ((gI G15 x0 41) = 0 → wp E d M_X12_check 71 [some (vr x0), some (vi x1)] [] G15 Q) ∧ (¬ ((gI G15 x0 41) = 0) → wpV E (d - 1) M_X12_failHere [vr x0] G15 (fun G17 => wp E d M_X12_check 71 [some (vr x0), some (vi x1)] [] G17 Q))))))))))))) ∧ (r1 = 0 → Q (some (vi (-100000))) G2)))) : wp E d M_X12_check 0 [some (vr x0), some (vi x1)] [] G Q := by
  refine wp_aload_n (pc := 0) d_X12_check_0 rfl ?_
  refine wp_iload_n (pc := 1) d_X12_check_1 rfl ?_
  obtain ⟨ho21, h⟩ := h
  refine wp_invV (pc := 2) (N := M_X12_isProblem) (As := [vi _]) (rest := []) (r := (cn_12, ct_12, 95)) d_X12_check_2 ml_X12_453 mk_X12_isProblem mv_X12_isProblem h0 ho21 rfl rfl (Nat.le_of_ble_eq_true rfl) ?_
  refine wpM.mono h (fun rr G2 hr => ?_)
  obtain ⟨r1, rfl, h⟩ := hr
  show wp E d M_X12_check 5 [some (vr _), some (vi _)] [vi _] G2 Q
  refine wp_if_ne (pc := 5) (tgt := 11) d_X12_check_5 (by decide) (fun hc => ?_) (fun hc => ?_)
  · have h := h.1 hc
    refine wp_aload_n (pc := 11) d_X12_check_11 rfl ?_
    refine wp_iload_n (pc := 12) d_X12_check_12 rfl ?_
    obtain ⟨ho20, h⟩ := h
    refine wp_invV (pc := 13) (N := M_X12_know) (As := [vi _]) (rest := []) (r := (cn_12, ct_12, 95)) d_X12_check_13 ml_X12_571 mk_X12_know mv_X12_know h0 ho20 rfl rfl (Nat.le_of_ble_eq_true rfl) ?_
    refine wpM.mono h (fun rr G3 hr => ?_)
    obtain ⟨rfl, h⟩ := hr
    show wp E d M_X12_check 16 [some (vr _), some (vi _)] [] G3 Q
    refine wp_aload_n (pc := 16) d_X12_check_16 rfl ?_
    refine wp_iload_n (pc := 17) d_X12_check_17 rfl ?_
    obtain ⟨ho19, h⟩ := h
    refine wp_invV (pc := 18) (N := M_X12_giveAll) (As := [vi _]) (rest := []) (r := (cn_12, ct_12, 95)) d_X12_check_18 ml_X12_696 mk_X12_giveAll mv_X12_giveAll h0 ho19 rfl rfl (Nat.le_of_ble_eq_true rfl) ?_
    refine wpM.mono h (fun rr G4 hr => ?_)
    obtain ⟨rfl, h⟩ := hr
    show wp E d M_X12_check 21 [some (vr _), some (vi _)] [] G4 Q
    refine wp_aload_n (pc := 21) d_X12_check_21 rfl ?_
    refine wp_iconst (pc := 22) (v := 1) d_X12_check_22 rfl ?_
    obtain ⟨ho5, h⟩ := h
    refine wp_putI (pc := 23) d_X12_check_23 fl_X12_224 (fun _ _ _ => rfl) (Or.inl rfl) ho5 okI_z1 ?_
    refine wp_nm (fun G6 eG6 => ?_)
    have h := h G6 eG6
    have ho7 := isO_sI eG6 ho5
    refine wp_aload_n (pc := 26) d_X12_check_26 rfl ?_
    refine wp_aload_n (pc := 27) d_X12_check_27 rfl ?_
    refine wp_getI (pc := 28) d_X12_check_28 fl_X12_217 (fun _ _ _ => rfl) ho7 ?_
    refine wp_putI (pc := 31) d_X12_check_31 fl_X12_221 (fun _ _ _ => rfl) (Or.inl rfl) ho7 (okI_int _) ?_
    refine wp_nm (fun G8 eG8 => ?_)
    have h := h G8 eG8
    have ho9 := isO_sI eG8 ho7
    refine wp_aload_n (pc := 34) d_X12_check_34 rfl ?_
    refine wp_iconst (pc := 35) (v := 0) d_X12_check_35 rfl ?_
    refine wp_putI (pc := 36) d_X12_check_36 fl_X12_231 (fun _ _ _ => rfl) (Or.inl rfl) ho9 (okI_int _) ?_
    refine wp_nm (fun G10 eG10 => ?_)
    have h := h G10 eG10
    have ho11 := isO_sI eG10 ho9
    refine wp_aload_n (pc := 39) d_X12_check_39 rfl ?_
    refine wp_iconst (pc := 40) (v := 0) d_X12_check_40 rfl ?_
    refine wp_putI (pc := 41) d_X12_check_41 fl_X12_311 (fun _ _ _ => rfl) (Or.inl rfl) ho11 (okI_int _) ?_
    refine wp_nm (fun G12 eG12 => ?_)
    have h := h G12 eG12
    have ho13 := isO_sI eG12 ho11
    refine wp_aload_n (pc := 44) d_X12_check_44 rfl ?_
    refine wp_invV (pc := 45) (N := M_X12_next) (As := []) (rest := []) (r := (cn_12, ct_12, 95)) d_X12_check_45 ml_X12_324 mk_X12_next mv_X12_next h0 ho13 rfl rfl (Nat.le_of_ble_eq_true rfl) ?_
    refine wpM.mono h (fun rr G14 hr => ?_)
    obtain ⟨rfl, h⟩ := hr
    show wp E d M_X12_check 48 [some (vr _), some (vi _)] [] G14 Q
    refine wp_aload_n (pc := 48) d_X12_check_48 rfl ?_
    refine wp_iload_n (pc := 49) d_X12_check_49 rfl ?_
    obtain ⟨ho18, h⟩ := h
    refine wp_invV (pc := 50) (N := M_X12_tree) (As := [vi _]) (rest := []) (r := (cn_12, ct_12, 95)) d_X12_check_50 ml_X12_693 mk_X12_tree mv_X12_tree h0 ho18 rfl rfl (Nat.le_of_ble_eq_true rfl) ?_
    refine wpM.mono h (fun rr G15 hr => ?_)
    obtain ⟨rfl, h⟩ := hr
    show wp E d M_X12_check 53 [some (vr _), some (vi _)] [] G15 Q
    refine wp_aload_n (pc := 53) d_X12_check_53 rfl ?_
    obtain ⟨ho16, h⟩ := h
    refine wp_getI (pc := 54) d_X12_check_54 fl_X12_311 (fun _ _ _ => rfl) ho16 ?_
    refine wp_if_ne (pc := 57) (tgt := 71) d_X12_check_57 (by decide) (fun hc => ?_) (fun hc => ?_)
    · have h := h.1 hc
      refine wp_sub ?_ h
      exact ⟨rfl, ⟨rfl, trivial⟩⟩
    · have h := h.2 hc
      refine wp_aload_n (pc := 60) d_X12_check_60 rfl ?_
      refine wp_getI (pc := 61) d_X12_check_61 fl_X12_292 (fun _ _ _ => rfl) ho16 ?_
      refine wp_if_eq (pc := 64) (tgt := 71) d_X12_check_64 (by decide) (fun hc => ?_) (fun hc => ?_)
      · have h := h.1 hc
        refine wp_sub ?_ h
        exact ⟨rfl, ⟨rfl, trivial⟩⟩
      · have h := h.2 hc
        refine wp_aload_n (pc := 67) d_X12_check_67 rfl ?_
        refine wp_invV (pc := 68) (N := M_X12_failHere) (As := []) (rest := []) (r := (cn_12, ct_12, 95)) d_X12_check_68 ml_X12_327 mk_X12_failHere mv_X12_failHere h0 ho16 rfl rfl (Nat.le_of_ble_eq_true rfl) ?_
        refine wpM.mono h (fun rr G17 hr => ?_)
        obtain ⟨rfl, h⟩ := hr
        show wp E d M_X12_check 71 [some (vr _), some (vi _)] [] G17 Q
        refine wp_sub ?_ h
        exact ⟨rfl, ⟨rfl, trivial⟩⟩
  · have h := h.2 hc
    refine wp_ldc (pc := 8) (v := (-100000)) d_X12_check_8 ci_X12_220 ?_
    exact wp_iret (pc := 10) d_X12_check_10 rfl h
theorem d_X12_searched_0 : decode prog_14_method_155_code 0 = .ok (.aload_n 0, 1) := by decide +kernel
theorem d_X12_searched_1 : decode prog_14_method_155_code 1 = .ok (.getfield 658, 3) := by decide +kernel
theorem d_X12_searched_4 : decode prog_14_method_155_code 4 = .ok (.ifCond .ne 5, 3) := by decide +kernel
theorem d_X12_searched_7 : decode prog_14_method_155_code 7 = .ok (.iconst (-1), 1) := by decide +kernel
theorem d_X12_searched_8 : decode prog_14_method_155_code 8 = .ok (.ireturn, 1) := by decide +kernel
theorem d_X12_searched_9 : decode prog_14_method_155_code 9 = .ok (.iload_n 1, 1) := by decide +kernel
theorem d_X12_searched_10 : decode prog_14_method_155_code 10 = .ok (.ifCond .ne 10, 3) := by decide +kernel
theorem d_X12_searched_13 : decode prog_14_method_155_code 13 = .ok (.aload_n 0, 1) := by decide +kernel
theorem d_X12_searched_14 : decode prog_14_method_155_code 14 = .ok (.getfield 655, 3) := by decide +kernel
theorem d_X12_searched_17 : decode prog_14_method_155_code 17 = .ok (.goto 28, 3) := by decide +kernel
theorem d_X12_searched_20 : decode prog_14_method_155_code 20 = .ok (.iload_n 1, 1) := by decide +kernel
theorem d_X12_searched_21 : decode prog_14_method_155_code 21 = .ok (.iconst 1, 1) := by decide +kernel
theorem d_X12_searched_22 : decode prog_14_method_155_code 22 = .ok (.if_icmp .ne 10, 3) := by decide +kernel
theorem d_X12_searched_25 : decode prog_14_method_155_code 25 = .ok (.aload_n 0, 1) := by decide +kernel
theorem d_X12_searched_26 : decode prog_14_method_155_code 26 = .ok (.getfield 646, 3) := by decide +kernel
theorem d_X12_searched_29 : decode prog_14_method_155_code 29 = .ok (.goto 16, 3) := by decide +kernel
theorem d_X12_searched_32 : decode prog_14_method_155_code 32 = .ok (.iload_n 1, 1) := by decide +kernel
theorem d_X12_searched_33 : decode prog_14_method_155_code 33 = .ok (.iconst 2, 1) := by decide +kernel
theorem d_X12_searched_34 : decode prog_14_method_155_code 34 = .ok (.if_icmp .ne 10, 3) := by decide +kernel
theorem d_X12_searched_37 : decode prog_14_method_155_code 37 = .ok (.aload_n 0, 1) := by decide +kernel
theorem d_X12_searched_38 : decode prog_14_method_155_code 38 = .ok (.getfield 181, 3) := by decide +kernel
theorem d_X12_searched_41 : decode prog_14_method_155_code 41 = .ok (.goto 4, 3) := by decide +kernel
theorem d_X12_searched_44 : decode prog_14_method_155_code 44 = .ok (.iconst (-1), 1) := by decide +kernel
theorem d_X12_searched_45 : decode prog_14_method_155_code 45 = .ok (.ireturn, 1) := by decide +kernel
theorem v_X12_searched_0 {E : EE} {d : Nat} {Q : Option AV → AH → Prop} {x0 : Nat} {x1 : Int32} {G : AH} (h : isO E G x0 12 ∧ ((¬ (gI G x0 79) = 0 → (¬ x1 = 0 → (¬ x1 = 1 → (¬ x1 = 2 → Q (some (vi (-1))) G) ∧ (x1 = 2 → Q (some (vi (gI G x0 78))) G)) ∧ (x1 = 1 → Q (some (vi (gI G x0 76))) G)) ∧ (x1 = 0 → Q (some (vi (gI G x0 77))) G)) ∧ ((gI G x0 79) = 0 → Q (some (vi (-1))) G))) : wp E d M_X12_searched 0 [some (vr x0), some (vi x1)] [] G Q := by
  refine wp_aload_n (pc := 0) d_X12_searched_0 rfl ?_
  obtain ⟨ho1, h⟩ := h
  refine wp_getI (pc := 1) d_X12_searched_1 fl_X12_658 (fun _ _ _ => rfl) ho1 ?_
  refine wp_if_ne (pc := 4) (tgt := 9) d_X12_searched_4 (by decide) (fun hc => ?_) (fun hc => ?_)
  · have h := h.1 hc
    refine wp_iload_n (pc := 9) d_X12_searched_9 rfl ?_
    refine wp_if_ne (pc := 10) (tgt := 20) d_X12_searched_10 (by decide) (fun hc => ?_) (fun hc => ?_)
    · have h := h.1 hc
      refine wp_iload_n (pc := 20) d_X12_searched_20 rfl ?_
      refine wp_iconst (pc := 21) (v := 1) d_X12_searched_21 rfl ?_
      refine wp_icmp_ne (pc := 22) (tgt := 32) d_X12_searched_22 (by decide) (fun hc => ?_) (fun hc => ?_)
      · have h := h.1 hc
        refine wp_iload_n (pc := 32) d_X12_searched_32 rfl ?_
        refine wp_iconst (pc := 33) (v := 2) d_X12_searched_33 rfl ?_
        refine wp_icmp_ne (pc := 34) (tgt := 44) d_X12_searched_34 (by decide) (fun hc => ?_) (fun hc => ?_)
        · have h := h.1 hc
          refine wp_iconst (pc := 44) (v := (-1)) d_X12_searched_44 rfl ?_
          exact wp_iret (pc := 45) d_X12_searched_45 rfl h
        · have h := h.2 hc
          refine wp_aload_n (pc := 37) d_X12_searched_37 rfl ?_
          refine wp_getI (pc := 38) d_X12_searched_38 fl_X12_181 (fun _ _ _ => rfl) ho1 ?_
          refine wp_goto (pc := 41) (tgt := 45) d_X12_searched_41 (by decide) ?_
          exact wp_iret (pc := 45) d_X12_searched_45 rfl h
      · have h := h.2 hc
        refine wp_aload_n (pc := 25) d_X12_searched_25 rfl ?_
        refine wp_getI (pc := 26) d_X12_searched_26 fl_X12_646 (fun _ _ _ => rfl) ho1 ?_
        refine wp_goto (pc := 29) (tgt := 45) d_X12_searched_29 (by decide) ?_
        exact wp_iret (pc := 45) d_X12_searched_45 rfl h
    · have h := h.2 hc
      refine wp_aload_n (pc := 13) d_X12_searched_13 rfl ?_
      refine wp_getI (pc := 14) d_X12_searched_14 fl_X12_655 (fun _ _ _ => rfl) ho1 ?_
      refine wp_goto (pc := 17) (tgt := 45) d_X12_searched_17 (by decide) ?_
      exact wp_iret (pc := 45) d_X12_searched_45 rfl h
  · have h := h.2 hc
    refine wp_iconst (pc := 7) (v := (-1)) d_X12_searched_7 rfl ?_
    exact wp_iret (pc := 8) d_X12_searched_8 rfl h

