/-! decode rows and regions (by program): X12_search X12_draw X12_withPlace X12_worth X12_valueIn X12_putAtHand X12_regret X12_isLevel X12_expected X12_show X12_robust X12_unfold X12_told X12_isFact X12_future X12_because X12_isVar X12_bestWith X12_firstBest X12_whyNot X12_without X12_isRule X12_relax -/
theorem d_X12_search_0 : decode prog_14_method_154_code 0 = .ok (.aload_n 0, 1) := by decide +kernel
theorem d_X12_search_1 : decode prog_14_method_154_code 1 = .ok (.iload_n 1, 1) := by decide +kernel
theorem d_X12_search_2 : decode prog_14_method_154_code 2 = .ok (.invokevirtual 453, 3) := by decide +kernel
theorem d_X12_search_5 : decode prog_14_method_154_code 5 = .ok (.ifCond .eq 25, 3) := by decide +kernel
theorem d_X12_search_8 : decode prog_14_method_154_code 8 = .ok (.iload 5, 2) := by decide +kernel
theorem d_X12_search_10 : decode prog_14_method_154_code 10 = .ok (.ifCond .lt 20, 3) := by decide +kernel
theorem d_X12_search_13 : decode prog_14_method_154_code 13 = .ok (.iload 5, 2) := by decide +kernel
theorem d_X12_search_15 : decode prog_14_method_154_code 15 = .ok (.sipush 2000, 3) := by decide +kernel
theorem d_X12_search_18 : decode prog_14_method_154_code 18 = .ok (.if_icmp .gt 12, 3) := by decide +kernel
theorem d_X12_search_21 : decode prog_14_method_154_code 21 = .ok (.iload_n 2, 1) := by decide +kernel
theorem d_X12_search_22 : decode prog_14_method_154_code 22 = .ok (.ifCond .lt 8, 3) := by decide +kernel
theorem d_X12_search_25 : decode prog_14_method_154_code 25 = .ok (.iload_n 2, 1) := by decide +kernel
theorem d_X12_search_26 : decode prog_14_method_154_code 26 = .ok (.iconst 3, 1) := by decide +kernel
theorem d_X12_search_27 : decode prog_14_method_154_code 27 = .ok (.if_icmp .le 5, 3) := by decide +kernel
theorem d_X12_search_30 : decode prog_14_method_154_code 30 = .ok (.iconst (-1), 1) := by decide +kernel
theorem d_X12_search_31 : decode prog_14_method_154_code 31 = .ok (.ireturn, 1) := by decide +kernel
theorem d_X12_search_32 : decode prog_14_method_154_code 32 = .ok (.iload_n 2, 1) := by decide +kernel
theorem d_X12_search_33 : decode prog_14_method_154_code 33 = .ok (.ifCond .le 37, 3) := by decide +kernel
theorem d_X12_search_36 : decode prog_14_method_154_code 36 = .ok (.iload_n 3, 1) := by decide +kernel
theorem d_X12_search_37 : decode prog_14_method_154_code 37 = .ok (.iconst 1, 1) := by decide +kernel
theorem d_X12_search_38 : decode prog_14_method_154_code 38 = .ok (.if_icmp .lt 30, 3) := by decide +kernel
theorem d_X12_search_41 : decode prog_14_method_154_code 41 = .ok (.iload_n 3, 1) := by decide +kernel
theorem d_X12_search_42 : decode prog_14_method_154_code 42 = .ok (.iload_n 2, 1) := by decide +kernel
theorem d_X12_search_43 : decode prog_14_method_154_code 43 = .ok (.iconst 1, 1) := by decide +kernel
theorem d_X12_search_44 : decode prog_14_method_154_code 44 = .ok (.if_icmp .ne 8, 3) := by decide +kernel
theorem d_X12_search_47 : decode prog_14_method_154_code 47 = .ok (.bipush 20, 2) := by decide +kernel
theorem d_X12_search_49 : decode prog_14_method_154_code 49 = .ok (.goto 16, 3) := by decide +kernel
theorem d_X12_search_52 : decode prog_14_method_154_code 52 = .ok (.iload_n 2, 1) := by decide +kernel
theorem d_X12_search_53 : decode prog_14_method_154_code 53 = .ok (.iconst 2, 1) := by decide +kernel
theorem d_X12_search_54 : decode prog_14_method_154_code 54 = .ok (.if_icmp .ne 8, 3) := by decide +kernel
theorem d_X12_search_57 : decode prog_14_method_154_code 57 = .ok (.bipush 100, 2) := by decide +kernel
theorem d_X12_search_59 : decode prog_14_method_154_code 59 = .ok (.goto 6, 3) := by decide +kernel
theorem d_X12_search_62 : decode prog_14_method_154_code 62 = .ok (.sipush 10000, 3) := by decide +kernel
theorem d_X12_search_68 : decode prog_14_method_154_code 68 = .ok (.iconst (-1), 1) := by decide +kernel
theorem d_X12_search_69 : decode prog_14_method_154_code 69 = .ok (.ireturn, 1) := by decide +kernel
theorem v_X12_search_0 {E : EE} {d : Nat} {Q : Option AV → AH → Prop} {x0 : Nat} {x1 : Int32} {x2 : Int32} {x3 : Int32} {x4 : Int32} {x5 : Int32} {G : AH} (h0 : 0 < d) (h : isO E G x0 12 ∧ (wpI E (d - 1) M_X12_isProblem [vr x0, vi x1] G (fun r1 G2 => (r1 = 0 → Q (some (vi (-1))) G2) ∧ (¬ (r1 = 0) → (x5 < 0 → Q (some (vi (-1))) G2) ∧ (¬ (x5 < 0) → (2000 < x5 → Q (some (vi (-1))) G2) ∧ (¬ (2000 < x5) → (x2 < 0 → Q (some (vi (-1))) G2) ∧ (¬ (x2 < 0) → (x2 ≤ 3 → (x2 ≤ 0 → wp E d M_X12_search 70 [some (vr x0), some (vi x1), some (vi x2), some (vi x3), some (vi x4), some (vi x5), none, none, none, none, none, none, none, none, none, none, none, none] [] G2 Q) ∧ (¬ (x2 ≤ 0) → (x3 < 1 → Q (some (vi (-1))) G2) ∧ (¬ (x3 < 1) → (¬ x2 = 1 → (¬ x2 = 2 → wp E d M_X12_search 65 [some (vr x0), some (vi x1), some (vi x2), some (vi x3), some (vi x4), some (vi x5), none, none, none, none, none, none, none, none, none, none, none, none] [vi 10000, vi x3] G2 Q) ∧ (x2 = 2 → wp E d M_X12_search 65 [some (vr x0), some (vi x1), some (vi x2), some (vi x3), some (vi x4), some (vi x5), none, none, none, none, none, none, none, none, none, none, none, none] [vi 100, vi x3] G2 Q)) ∧ (x2 = 1 → wp E d M_X12_search 65 [some (vr x0), some (vi x1), some (vi x2), some (vi x3), some (vi x4), some (vi x5), none, none, none, none, none, none, none, none, none, none, none, none] [vi 20, vi x3] G2 Q)))) ∧ (¬ (x2 ≤ 3) → Q (some (vi (-1))) G2)))))))) : wp E d M_X12_search 0 [some (vr x0), some (vi x1), some (vi x2), some (vi x3), some (vi x4), some (vi x5), none, none, none, none, none, none, none, none, none, none, none, none] [] G Q := by
  refine wp_aload_n (pc := 0) d_X12_search_0 rfl ?_
  refine wp_iload_n (pc := 1) d_X12_search_1 rfl ?_
  obtain ⟨ho3, h⟩ := h
  refine wp_invV (pc := 2) (N := M_X12_isProblem) (As := [vi _]) (rest := []) (r := (cn_12, ct_12, 95)) d_X12_search_2 ml_X12_453 mk_X12_isProblem mv_X12_isProblem h0 ho3 rfl rfl (Nat.le_of_ble_eq_true rfl) ?_
  refine wpM.mono h (fun rr G2 hr => ?_)
  obtain ⟨r1, rfl, h⟩ := hr
  show wp E d M_X12_search 5 [some (vr _), some (vi _), some (vi _), some (vi _), some (vi _), some (vi _), none, none, none, none, none, none, none, none, none, none, none, none] [vi _] G2 Q
  refine wp_if_eq (pc := 5) (tgt := 30) d_X12_search_5 (by decide) (fun hc => ?_) (fun hc => ?_)
  · have h := h.1 hc
    refine wp_iconst (pc := 30) (v := (-1)) d_X12_search_30 rfl ?_
    exact wp_iret (pc := 31) d_X12_search_31 rfl h
  · have h := h.2 hc
    refine wp_iload (pc := 8) d_X12_search_8 rfl ?_
    refine wp_if_lt (pc := 10) (tgt := 30) d_X12_search_10 (by decide) (fun hc => ?_) (fun hc => ?_)
    · have h := h.1 hc
      refine wp_iconst (pc := 30) (v := (-1)) d_X12_search_30 rfl ?_
      exact wp_iret (pc := 31) d_X12_search_31 rfl h
    · have h := h.2 hc
      refine wp_iload (pc := 13) d_X12_search_13 rfl ?_
      refine wp_sipush (pc := 15) (v := 2000) d_X12_search_15 rfl ?_
      refine wp_icmp_gt (pc := 18) (tgt := 30) d_X12_search_18 (by decide) (fun hc => ?_) (fun hc => ?_)
      · have h := h.1 hc
        refine wp_iconst (pc := 30) (v := (-1)) d_X12_search_30 rfl ?_
        exact wp_iret (pc := 31) d_X12_search_31 rfl h
      · have h := h.2 hc
        refine wp_iload_n (pc := 21) d_X12_search_21 rfl ?_
        refine wp_if_lt (pc := 22) (tgt := 30) d_X12_search_22 (by decide) (fun hc => ?_) (fun hc => ?_)
        · have h := h.1 hc
          refine wp_iconst (pc := 30) (v := (-1)) d_X12_search_30 rfl ?_
          exact wp_iret (pc := 31) d_X12_search_31 rfl h
        · have h := h.2 hc
          refine wp_iload_n (pc := 25) d_X12_search_25 rfl ?_
          refine wp_iconst (pc := 26) (v := 3) d_X12_search_26 rfl ?_
          refine wp_icmp_le (pc := 27) (tgt := 32) d_X12_search_27 (by decide) (fun hc => ?_) (fun hc => ?_)
          · have h := h.1 hc
            refine wp_iload_n (pc := 32) d_X12_search_32 rfl ?_
            refine wp_if_le (pc := 33) (tgt := 70) d_X12_search_33 (by decide) (fun hc => ?_) (fun hc => ?_)
            · have h := h.1 hc
              refine wp_sub ?_ h
              exact ⟨rfl, ⟨rfl, ⟨rfl, ⟨rfl, ⟨rfl, ⟨rfl, trivial⟩⟩⟩⟩⟩⟩
            · have h := h.2 hc
              refine wp_iload_n (pc := 36) d_X12_search_36 rfl ?_
              refine wp_iconst (pc := 37) (v := 1) d_X12_search_37 rfl ?_
              refine wp_icmp_lt (pc := 38) (tgt := 68) d_X12_search_38 (by decide) (fun hc => ?_) (fun hc => ?_)
              · have h := h.1 hc
                refine wp_iconst (pc := 68) (v := (-1)) d_X12_search_68 rfl ?_
                exact wp_iret (pc := 69) d_X12_search_69 rfl h
              · have h := h.2 hc
                refine wp_iload_n (pc := 41) d_X12_search_41 rfl ?_
                refine wp_iload_n (pc := 42) d_X12_search_42 rfl ?_
                refine wp_iconst (pc := 43) (v := 1) d_X12_search_43 rfl ?_
                refine wp_icmp_ne (pc := 44) (tgt := 52) d_X12_search_44 (by decide) (fun hc => ?_) (fun hc => ?_)
                · have h := h.1 hc
                  refine wp_iload_n (pc := 52) d_X12_search_52 rfl ?_
                  refine wp_iconst (pc := 53) (v := 2) d_X12_search_53 rfl ?_
                  refine wp_icmp_ne (pc := 54) (tgt := 62) d_X12_search_54 (by decide) (fun hc => ?_) (fun hc => ?_)
                  · have h := h.1 hc
                    refine wp_sipush (pc := 62) (v := 10000) d_X12_search_62 rfl ?_
                    refine wp_sub ?_ h
                    exact ⟨rfl, ⟨rfl, ⟨rfl, ⟨rfl, ⟨rfl, ⟨rfl, trivial⟩⟩⟩⟩⟩⟩
                  · have h := h.2 hc
                    refine wp_bipush (pc := 57) (v := 100) d_X12_search_57 rfl ?_
                    refine wp_goto (pc := 59) (tgt := 65) d_X12_search_59 (by decide) ?_
                    refine wp_sub ?_ h
                    exact ⟨rfl, ⟨rfl, ⟨rfl, ⟨rfl, ⟨rfl, ⟨rfl, trivial⟩⟩⟩⟩⟩⟩
                · have h := h.2 hc
                  refine wp_bipush (pc := 47) (v := 20) d_X12_search_47 rfl ?_
                  refine wp_goto (pc := 49) (tgt := 65) d_X12_search_49 (by decide) ?_
                  refine wp_sub ?_ h
                  exact ⟨rfl, ⟨rfl, ⟨rfl, ⟨rfl, ⟨rfl, ⟨rfl, trivial⟩⟩⟩⟩⟩⟩
          · have h := h.2 hc
            refine wp_iconst (pc := 30) (v := (-1)) d_X12_search_30 rfl ?_
            exact wp_iret (pc := 31) d_X12_search_31 rfl h
theorem d_X12_regret_0 : decode prog_14_method_149_code 0 = .ok (.aload_n 0, 1) := by decide +kernel
theorem d_X12_regret_1 : decode prog_14_method_149_code 1 = .ok (.iload_n 1, 1) := by decide +kernel
theorem d_X12_regret_2 : decode prog_14_method_149_code 2 = .ok (.invokevirtual 453, 3) := by decide +kernel
theorem d_X12_regret_5 : decode prog_14_method_149_code 5 = .ok (.ifCond .eq 19, 3) := by decide +kernel
theorem d_X12_regret_8 : decode prog_14_method_149_code 8 = .ok (.iload_n 2, 1) := by decide +kernel
theorem d_X12_regret_9 : decode prog_14_method_149_code 9 = .ok (.invokestatic 583, 3) := by decide +kernel
theorem d_X12_regret_12 : decode prog_14_method_149_code 12 = .ok (.ifCond .eq 12, 3) := by decide +kernel
theorem d_X12_regret_15 : decode prog_14_method_149_code 15 = .ok (.aload_n 0, 1) := by decide +kernel
theorem d_X12_regret_16 : decode prog_14_method_149_code 16 = .ok (.getfield 103, 3) := by decide +kernel
theorem d_X12_regret_19 : decode prog_14_method_149_code 19 = .ok (.iload_n 1, 1) := by decide +kernel
theorem d_X12_regret_20 : decode prog_14_method_149_code 20 = .ok (.iaload, 1) := by decide +kernel
theorem d_X12_regret_21 : decode prog_14_method_149_code 21 = .ok (.ifCond .ne 7, 3) := by decide +kernel
theorem d_X12_regret_24 : decode prog_14_method_149_code 24 = .ok (.ldc2_w 466, 3) := by decide +kernel
theorem d_X12_regret_27 : decode prog_14_method_149_code 27 = .ok (.lreturn, 1) := by decide +kernel
theorem d_X12_regret_28 : decode prog_14_method_149_code 28 = .ok (.aload_n 0, 1) := by decide +kernel
theorem d_X12_regret_29 : decode prog_14_method_149_code 29 = .ok (.iload_n 1, 1) := by decide +kernel
theorem d_X12_regret_30 : decode prog_14_method_149_code 30 = .ok (.invokevirtual 580, 3) := by decide +kernel
theorem d_X12_regret_33 : decode prog_14_method_149_code 33 = .ok (.istore_n 3, 1) := by decide +kernel
theorem d_X12_regret_34 : decode prog_14_method_149_code 34 = .ok (.ldc2_w 466, 3) := by decide +kernel
theorem d_X12_regret_37 : decode prog_14_method_149_code 37 = .ok (.lstore 4, 2) := by decide +kernel
theorem d_X12_regret_39 : decode prog_14_method_149_code 39 = .ok (.iconst 1, 1) := by decide +kernel
theorem d_X12_regret_40 : decode prog_14_method_149_code 40 = .ok (.istore 6, 2) := by decide +kernel
theorem d_X12_regret_42 : decode prog_14_method_149_code 42 = .ok (.iconst 0, 1) := by decide +kernel
theorem d_X12_regret_43 : decode prog_14_method_149_code 43 = .ok (.istore 7, 2) := by decide +kernel
theorem v_X12_regret_0 {E : EE} {d : Nat} {Q : Option AV → AH → Prop} {x0 : Nat} {x1 : Int32} {x2 : Int32} {G : AH} (h0 : 0 < d) (h : isO E G x0 12 ∧ (wpI E (d - 1) M_X12_isProblem [vr x0, vi x1] G (fun r1 G2 => (r1 = 0 → Q (some (vj (-9223372036854775808))) G2) ∧ (¬ (r1 = 0) → wpI E (d - 1) M_X12_isLevel [vi x2] G2 (fun r3 G4 => (r3 = 0 → Q (some (vj (-9223372036854775808))) G4) ∧ (¬ (r3 = 0) → isO E G4 x0 12 ∧ (isO E G4 (gR G4 x0 32) 14 ∧ (vp_in x1 (gN G4 (gR G4 x0 32)) ∧ ((¬ (gI G4 (gR G4 x0 32) (Int32.toNatClampNeg x1)) = 0 → wpI E (d - 1) M_X12_handOf [vr x0, vi x1] G4 (fun r8 G9 => wp E d M_X12_regret 45 [some (vr x0), some (vi x1), some (vi x2), some (vi r8), some (vj (-9223372036854775808)), none, some (vi 1), some (vi 0), none, none, none, none, none] [] G9 Q)) ∧ ((gI G4 (gR G4 x0 32) (Int32.toNatClampNeg x1)) = 0 → Q (some (vj (-9223372036854775808))) G4)))))))))) : wp E d M_X12_regret 0 [some (vr x0), some (vi x1), some (vi x2), none, none, none, none, none, none, none, none, none, none] [] G Q := by
  refine wp_aload_n (pc := 0) d_X12_regret_0 rfl ?_
  refine wp_iload_n (pc := 1) d_X12_regret_1 rfl ?_
  obtain ⟨ho10, h⟩ := h
  refine wp_invV (pc := 2) (N := M_X12_isProblem) (As := [vi _]) (rest := []) (r := (cn_12, ct_12, 95)) d_X12_regret_2 ml_X12_453 mk_X12_isProblem mv_X12_isProblem h0 ho10 rfl rfl (Nat.le_of_ble_eq_true rfl) ?_
  refine wpM.mono h (fun rr G2 hr => ?_)
  obtain ⟨r1, rfl, h⟩ := hr
  show wp E d M_X12_regret 5 [some (vr _), some (vi _), some (vi _), none, none, none, none, none, none, none, none, none, none] [vi _] G2 Q
  refine wp_if_eq (pc := 5) (tgt := 24) d_X12_regret_5 (by decide) (fun hc => ?_) (fun hc => ?_)
  · have h := h.1 hc
    refine wp_ldc2 (pc := 24) (v := (-9223372036854775808)) d_X12_regret_24 cj_X12_466 ?_
    exact wp_lret (pc := 27) d_X12_regret_27 rfl h
  · have h := h.2 hc
    refine wp_iload_n (pc := 8) d_X12_regret_8 rfl ?_
    refine wp_invS (pc := 9) (N := M_X12_isLevel) (As := [vi _]) (rest := []) d_X12_regret_9 ml_X12_583 mk_X12_isLevel ms_X12_isLevel h0 (Nat.le_of_ble_eq_true rfl) ?_
    refine wpM.mono h (fun rr G4 hr => ?_)
    obtain ⟨r3, rfl, h⟩ := hr
    show wp E d M_X12_regret 12 [some (vr _), some (vi _), some (vi _), none, none, none, none, none, none, none, none, none, none] [vi _] G4 Q
    refine wp_if_eq (pc := 12) (tgt := 24) d_X12_regret_12 (by decide) (fun hc => ?_) (fun hc => ?_)
    · have h := h.1 hc
      refine wp_ldc2 (pc := 24) (v := (-9223372036854775808)) d_X12_regret_24 cj_X12_466 ?_
      exact wp_lret (pc := 27) d_X12_regret_27 rfl h
    · have h := h.2 hc
      refine wp_aload_n (pc := 15) d_X12_regret_15 rfl ?_
      obtain ⟨ho5, h⟩ := h
      refine wp_getR (pc := 16) d_X12_regret_16 fl_X12_103 (fun _ _ _ => rfl) ho5 ?_
      refine wp_iload_n (pc := 19) d_X12_regret_19 rfl ?_
      obtain ⟨ho6, h⟩ := h
      obtain ⟨hi7, h⟩ := h
      refine wp_iald (pc := 20) d_X12_regret_20 ho6 hi7 ?_
      refine wp_if_ne (pc := 21) (tgt := 28) d_X12_regret_21 (by decide) (fun hc => ?_) (fun hc => ?_)
      · have h := h.1 hc
        refine wp_aload_n (pc := 28) d_X12_regret_28 rfl ?_
        refine wp_iload_n (pc := 29) d_X12_regret_29 rfl ?_
        refine wp_invV (pc := 30) (N := M_X12_handOf) (As := [vi _]) (rest := []) (r := (cn_12, ct_12, 95)) d_X12_regret_30 ml_X12_580 mk_X12_handOf mv_X12_handOf h0 ho5 rfl rfl (Nat.le_of_ble_eq_true rfl) ?_
        refine wpM.mono h (fun rr G9 hr => ?_)
        obtain ⟨r8, rfl, h⟩ := hr
        show wp E d M_X12_regret 33 [some (vr _), some (vi _), some (vi _), none, none, none, none, none, none, none, none, none, none] [vi _] G9 Q
        refine wp_istore_n (pc := 33) (lv' := [some (vr _), some (vi _), some (vi _), some (vi _), none, none, none, none, none, none, none, none, none]) d_X12_regret_33 (by decide) rfl ?_
        refine wp_ldc2 (pc := 34) (v := (-9223372036854775808)) d_X12_regret_34 cj_X12_466 ?_
        refine wp_lstore (pc := 37) (lv' := [some (vr _), some (vi _), some (vi _), some (vi _), some (vj _), none, none, none, none, none, none, none, none]) d_X12_regret_37 (by decide) rfl ?_
        refine wp_iconst (pc := 39) (v := 1) d_X12_regret_39 rfl ?_
        refine wp_istore (pc := 40) (lv' := [some (vr _), some (vi _), some (vi _), some (vi _), some (vj _), none, some (vi _), none, none, none, none, none, none]) d_X12_regret_40 (by decide) rfl ?_
        refine wp_iconst (pc := 42) (v := 0) d_X12_regret_42 rfl ?_
        refine wp_istore (pc := 43) (lv' := [some (vr _), some (vi _), some (vi _), some (vi _), some (vj _), none, some (vi _), some (vi _), none, none, none, none, none]) d_X12_regret_43 (by decide) rfl ?_
        refine wp_sub ?_ h
        exact ⟨rfl, ⟨rfl, ⟨rfl, ⟨rfl, ⟨rfl, ⟨rfl, ⟨rfl, trivial⟩⟩⟩⟩⟩⟩⟩
      · have h := h.2 hc
        refine wp_ldc2 (pc := 24) (v := (-9223372036854775808)) d_X12_regret_24 cj_X12_466 ?_
        exact wp_lret (pc := 27) d_X12_regret_27 rfl h
theorem d_X12_expected_0 : decode prog_14_method_148_code 0 = .ok (.aload_n 0, 1) := by decide +kernel
theorem d_X12_expected_1 : decode prog_14_method_148_code 1 = .ok (.iload_n 1, 1) := by decide +kernel
theorem d_X12_expected_2 : decode prog_14_method_148_code 2 = .ok (.invokevirtual 453, 3) := by decide +kernel
theorem d_X12_expected_5 : decode prog_14_method_148_code 5 = .ok (.ifCond .eq 19, 3) := by decide +kernel
theorem d_X12_expected_8 : decode prog_14_method_148_code 8 = .ok (.iload_n 2, 1) := by decide +kernel
theorem d_X12_expected_9 : decode prog_14_method_148_code 9 = .ok (.invokestatic 583, 3) := by decide +kernel
theorem d_X12_expected_12 : decode prog_14_method_148_code 12 = .ok (.ifCond .eq 12, 3) := by decide +kernel
theorem d_X12_expected_15 : decode prog_14_method_148_code 15 = .ok (.aload_n 0, 1) := by decide +kernel
theorem d_X12_expected_16 : decode prog_14_method_148_code 16 = .ok (.getfield 103, 3) := by decide +kernel
theorem d_X12_expected_19 : decode prog_14_method_148_code 19 = .ok (.iload_n 1, 1) := by decide +kernel
theorem d_X12_expected_20 : decode prog_14_method_148_code 20 = .ok (.iaload, 1) := by decide +kernel
theorem d_X12_expected_21 : decode prog_14_method_148_code 21 = .ok (.ifCond .ne 7, 3) := by decide +kernel
theorem d_X12_expected_24 : decode prog_14_method_148_code 24 = .ok (.ldc2_w 466, 3) := by decide +kernel
theorem d_X12_expected_27 : decode prog_14_method_148_code 27 = .ok (.lreturn, 1) := by decide +kernel
theorem d_X12_expected_28 : decode prog_14_method_148_code 28 = .ok (.aload_n 0, 1) := by decide +kernel
theorem d_X12_expected_29 : decode prog_14_method_148_code 29 = .ok (.iload_n 1, 1) := by decide +kernel
theorem d_X12_expected_30 : decode prog_14_method_148_code 30 = .ok (.invokevirtual 580, 3) := by decide +kernel
theorem d_X12_expected_33 : decode prog_14_method_148_code 33 = .ok (.istore_n 3, 1) := by decide +kernel
theorem d_X12_expected_34 : decode prog_14_method_148_code 34 = .ok (.lconst 0, 1) := by decide +kernel
theorem d_X12_expected_35 : decode prog_14_method_148_code 35 = .ok (.lstore 4, 2) := by decide +kernel
theorem d_X12_expected_37 : decode prog_14_method_148_code 37 = .ok (.lconst 0, 1) := by decide +kernel
theorem d_X12_expected_38 : decode prog_14_method_148_code 38 = .ok (.lstore 6, 2) := by decide +kernel
theorem d_X12_expected_40 : decode prog_14_method_148_code 40 = .ok (.aload_n 0, 1) := by decide +kernel
theorem d_X12_expected_41 : decode prog_14_method_148_code 41 = .ok (.iconst (-1), 1) := by decide +kernel
theorem d_X12_expected_42 : decode prog_14_method_148_code 42 = .ok (.putfield 146, 3) := by decide +kernel
theorem d_X12_expected_45 : decode prog_14_method_148_code 45 = .ok (.iconst 0, 1) := by decide +kernel
theorem d_X12_expected_46 : decode prog_14_method_148_code 46 = .ok (.istore 8, 2) := by decide +kernel
theorem v_X12_expected_0 {E : EE} {d : Nat} {Q : Option AV → AH → Prop} {x0 : Nat} {x1 : Int32} {x2 : Int32} {G : AH} (h0 : 0 < d) (h : isO E G x0 12 ∧ (wpI E (d - 1) M_X12_isProblem [vr x0, vi x1] G (fun r1 G2 => (r1 = 0 → Q (some (vj (-9223372036854775808))) G2) ∧ (¬ (r1 = 0) → wpI E (d - 1) M_X12_isLevel [vi x2] G2 (fun r3 G4 => (r3 = 0 → Q (some (vj (-9223372036854775808))) G4) ∧ (¬ (r3 = 0) → isO E G4 x0 12 ∧ (isO E G4 (gR G4 x0 32) 14 ∧ (vp_in x1 (gN G4 (gR G4 x0 32)) ∧ ((¬ (gI G4 (gR G4 x0 32) (Int32.toNatClampNeg x1)) = 0 → wpI E (d - 1) M_X12_handOf [vr x0, vi x1] G4 (fun r8 G9 => isO E G9 x0 12 ∧ (wp E d M_X12_expected 48 [some (vr x0), some (vi x1), some (vi x2), some (vi r8), some (vj 0), none, some (vj 0), none, some (vi 0)] [] (sI G9 x0 62 (-1)) Q))) ∧ ((gI G4 (gR G4 x0 32) (Int32.toNatClampNeg x1)) = 0 → Q (some (vj (-9223372036854775808))) G4)))))))))) : wp E d M_X12_expected 0 [some (vr x0), some (vi x1), some (vi x2), none, none, none, none, none, none] [] G Q := by
  refine wp_aload_n (pc := 0) d_X12_expected_0 rfl ?_
  refine wp_iload_n (pc := 1) d_X12_expected_1 rfl ?_
  obtain ⟨ho11, h⟩ := h
  refine wp_invV (pc := 2) (N := M_X12_isProblem) (As := [vi _]) (rest := []) (r := (cn_12, ct_12, 95)) d_X12_expected_2 ml_X12_453 mk_X12_isProblem mv_X12_isProblem h0 ho11 rfl rfl (Nat.le_of_ble_eq_true rfl) ?_
  refine wpM.mono h (fun rr G2 hr => ?_)
  obtain ⟨r1, rfl, h⟩ := hr
  show wp E d M_X12_expected 5 [some (vr _), some (vi _), some (vi _), none, none, none, none, none, none] [vi _] G2 Q
  refine wp_if_eq (pc := 5) (tgt := 24) d_X12_expected_5 (by decide) (fun hc => ?_) (fun hc => ?_)
  · have h := h.1 hc
    refine wp_ldc2 (pc := 24) (v := (-9223372036854775808)) d_X12_expected_24 cj_X12_466 ?_
    exact wp_lret (pc := 27) d_X12_expected_27 rfl h
  · have h := h.2 hc
    refine wp_iload_n (pc := 8) d_X12_expected_8 rfl ?_
    refine wp_invS (pc := 9) (N := M_X12_isLevel) (As := [vi _]) (rest := []) d_X12_expected_9 ml_X12_583 mk_X12_isLevel ms_X12_isLevel h0 (Nat.le_of_ble_eq_true rfl) ?_
    refine wpM.mono h (fun rr G4 hr => ?_)
    obtain ⟨r3, rfl, h⟩ := hr
    show wp E d M_X12_expected 12 [some (vr _), some (vi _), some (vi _), none, none, none, none, none, none] [vi _] G4 Q
    refine wp_if_eq (pc := 12) (tgt := 24) d_X12_expected_12 (by decide) (fun hc => ?_) (fun hc => ?_)
    · have h := h.1 hc
      refine wp_ldc2 (pc := 24) (v := (-9223372036854775808)) d_X12_expected_24 cj_X12_466 ?_
      exact wp_lret (pc := 27) d_X12_expected_27 rfl h
    · have h := h.2 hc
      refine wp_aload_n (pc := 15) d_X12_expected_15 rfl ?_
      obtain ⟨ho5, h⟩ := h
      refine wp_getR (pc := 16) d_X12_expected_16 fl_X12_103 (fun _ _ _ => rfl) ho5 ?_
      refine wp_iload_n (pc := 19) d_X12_expected_19 rfl ?_
      obtain ⟨ho6, h⟩ := h
      obtain ⟨hi7, h⟩ := h
      refine wp_iald (pc := 20) d_X12_expected_20 ho6 hi7 ?_
      refine wp_if_ne (pc := 21) (tgt := 28) d_X12_expected_21 (by decide) (fun hc => ?_) (fun hc => ?_)
      · have h := h.1 hc
        refine wp_aload_n (pc := 28) d_X12_expected_28 rfl ?_
        refine wp_iload_n (pc := 29) d_X12_expected_29 rfl ?_
        refine wp_invV (pc := 30) (N := M_X12_handOf) (As := [vi _]) (rest := []) (r := (cn_12, ct_12, 95)) d_X12_expected_30 ml_X12_580 mk_X12_handOf mv_X12_handOf h0 ho5 rfl rfl (Nat.le_of_ble_eq_true rfl) ?_
        refine wpM.mono h (fun rr G9 hr => ?_)
        obtain ⟨r8, rfl, h⟩ := hr
        show wp E d M_X12_expected 33 [some (vr _), some (vi _), some (vi _), none, none, none, none, none, none] [vi _] G9 Q
        refine wp_istore_n (pc := 33) (lv' := [some (vr _), some (vi _), some (vi _), some (vi _), none, none, none, none, none]) d_X12_expected_33 (by decide) rfl ?_
        refine wp_lconst (pc := 34) (v := 0) d_X12_expected_34 rfl ?_
        refine wp_lstore (pc := 35) (lv' := [some (vr _), some (vi _), some (vi _), some (vi _), some (vj _), none, none, none, none]) d_X12_expected_35 (by decide) rfl ?_
        refine wp_lconst (pc := 37) (v := 0) d_X12_expected_37 rfl ?_
        refine wp_lstore (pc := 38) (lv' := [some (vr _), some (vi _), some (vi _), some (vi _), some (vj _), none, some (vj _), none, none]) d_X12_expected_38 (by decide) rfl ?_
        refine wp_aload_n (pc := 40) d_X12_expected_40 rfl ?_
        refine wp_iconst (pc := 41) (v := (-1)) d_X12_expected_41 rfl ?_
        obtain ⟨ho10, h⟩ := h
        refine wp_putI (pc := 42) d_X12_expected_42 fl_X12_146 (fun _ _ _ => rfl) (Or.inl rfl) ho10 (okI_int _) ?_
        refine wp_iconst (pc := 45) (v := 0) d_X12_expected_45 rfl ?_
        refine wp_istore (pc := 46) (lv' := [some (vr _), some (vi _), some (vi _), some (vi _), some (vj _), none, some (vj _), none, some (vi _)]) d_X12_expected_46 (by decide) rfl ?_
        refine wp_sub ?_ h
        exact ⟨rfl, ⟨rfl, ⟨rfl, ⟨rfl, ⟨rfl, ⟨rfl, ⟨rfl, trivial⟩⟩⟩⟩⟩⟩⟩
      · have h := h.2 hc
        refine wp_ldc2 (pc := 24) (v := (-9223372036854775808)) d_X12_expected_24 cj_X12_466 ?_
        exact wp_lret (pc := 27) d_X12_expected_27 rfl h
theorem d_X12_robust_0 : decode prog_14_method_147_code 0 = .ok (.aload_n 0, 1) := by decide +kernel
theorem d_X12_robust_1 : decode prog_14_method_147_code 1 = .ok (.iload_n 1, 1) := by decide +kernel
theorem d_X12_robust_2 : decode prog_14_method_147_code 2 = .ok (.invokevirtual 453, 3) := by decide +kernel
theorem d_X12_robust_5 : decode prog_14_method_147_code 5 = .ok (.ifCond .ne 5, 3) := by decide +kernel
theorem d_X12_robust_8 : decode prog_14_method_147_code 8 = .ok (.iconst (-1), 1) := by decide +kernel
theorem d_X12_robust_9 : decode prog_14_method_147_code 9 = .ok (.ireturn, 1) := by decide +kernel
theorem d_X12_robust_10 : decode prog_14_method_147_code 10 = .ok (.aload_n 0, 1) := by decide +kernel
theorem d_X12_robust_11 : decode prog_14_method_147_code 11 = .ok (.getfield 103, 3) := by decide +kernel
theorem d_X12_robust_14 : decode prog_14_method_147_code 14 = .ok (.iload_n 1, 1) := by decide +kernel
theorem d_X12_robust_15 : decode prog_14_method_147_code 15 = .ok (.iaload, 1) := by decide +kernel
theorem d_X12_robust_16 : decode prog_14_method_147_code 16 = .ok (.ifCond .ne 5, 3) := by decide +kernel
theorem d_X12_robust_19 : decode prog_14_method_147_code 19 = .ok (.iconst 0, 1) := by decide +kernel
theorem d_X12_robust_20 : decode prog_14_method_147_code 20 = .ok (.ireturn, 1) := by decide +kernel
theorem d_X12_robust_21 : decode prog_14_method_147_code 21 = .ok (.iconst 0, 1) := by decide +kernel
theorem d_X12_robust_22 : decode prog_14_method_147_code 22 = .ok (.istore_n 2, 1) := by decide +kernel
theorem v_X12_robust_0 {E : EE} {d : Nat} {Q : Option AV → AH → Prop} {x0 : Nat} {x1 : Int32} {G : AH} (h0 : 0 < d) (h : isO E G x0 12 ∧ (wpI E (d - 1) M_X12_isProblem [vr x0, vi x1] G (fun r1 G2 => (¬ r1 = 0 → isO E G2 x0 12 ∧ (isO E G2 (gR G2 x0 32) 14 ∧ (vp_in x1 (gN G2 (gR G2 x0 32)) ∧ ((¬ (gI G2 (gR G2 x0 32) (Int32.toNatClampNeg x1)) = 0 → wp E d M_X12_robust 23 [some (vr x0), some (vi x1), some (vi 0), none, none] [] G2 Q) ∧ ((gI G2 (gR G2 x0 32) (Int32.toNatClampNeg x1)) = 0 → Q (some (vi 0)) G2))))) ∧ (r1 = 0 → Q (some (vi (-1))) G2)))) : wp E d M_X12_robust 0 [some (vr x0), some (vi x1), none, none, none] [] G Q := by
  refine wp_aload_n (pc := 0) d_X12_robust_0 rfl ?_
  refine wp_iload_n (pc := 1) d_X12_robust_1 rfl ?_
  obtain ⟨ho6, h⟩ := h
  refine wp_invV (pc := 2) (N := M_X12_isProblem) (As := [vi _]) (rest := []) (r := (cn_12, ct_12, 95)) d_X12_robust_2 ml_X12_453 mk_X12_isProblem mv_X12_isProblem h0 ho6 rfl rfl (Nat.le_of_ble_eq_true rfl) ?_
  refine wpM.mono h (fun rr G2 hr => ?_)
  obtain ⟨r1, rfl, h⟩ := hr
  show wp E d M_X12_robust 5 [some (vr _), some (vi _), none, none, none] [vi _] G2 Q
  refine wp_if_ne (pc := 5) (tgt := 10) d_X12_robust_5 (by decide) (fun hc => ?_) (fun hc => ?_)
  · have h := h.1 hc
    refine wp_aload_n (pc := 10) d_X12_robust_10 rfl ?_
    obtain ⟨ho3, h⟩ := h
    refine wp_getR (pc := 11) d_X12_robust_11 fl_X12_103 (fun _ _ _ => rfl) ho3 ?_
    refine wp_iload_n (pc := 14) d_X12_robust_14 rfl ?_
    obtain ⟨ho4, h⟩ := h
    obtain ⟨hi5, h⟩ := h
    refine wp_iald (pc := 15) d_X12_robust_15 ho4 hi5 ?_
    refine wp_if_ne (pc := 16) (tgt := 21) d_X12_robust_16 (by decide) (fun hc => ?_) (fun hc => ?_)
    · have h := h.1 hc
      refine wp_iconst (pc := 21) (v := 0) d_X12_robust_21 rfl ?_
      refine wp_istore_n (pc := 22) (lv' := [some (vr _), some (vi _), some (vi _), none, none]) d_X12_robust_22 (by decide) rfl ?_
      refine wp_sub ?_ h
      exact ⟨rfl, ⟨rfl, ⟨rfl, trivial⟩⟩⟩
    · have h := h.2 hc
      refine wp_iconst (pc := 19) (v := 0) d_X12_robust_19 rfl ?_
      exact wp_iret (pc := 20) d_X12_robust_20 rfl h
  · have h := h.2 hc
    refine wp_iconst (pc := 8) (v := (-1)) d_X12_robust_8 rfl ?_
    exact wp_iret (pc := 9) d_X12_robust_9 rfl h
theorem d_X12_unfold_0 : decode prog_14_method_146_code 0 = .ok (.aload_n 0, 1) := by decide +kernel
theorem d_X12_unfold_1 : decode prog_14_method_146_code 1 = .ok (.iload_n 1, 1) := by decide +kernel
theorem d_X12_unfold_2 : decode prog_14_method_146_code 2 = .ok (.invokevirtual 453, 3) := by decide +kernel
theorem d_X12_unfold_5 : decode prog_14_method_146_code 5 = .ok (.ifCond .ne 5, 3) := by decide +kernel
theorem d_X12_unfold_8 : decode prog_14_method_146_code 8 = .ok (.iconst (-1), 1) := by decide +kernel
theorem d_X12_unfold_9 : decode prog_14_method_146_code 9 = .ok (.ireturn, 1) := by decide +kernel
theorem d_X12_unfold_10 : decode prog_14_method_146_code 10 = .ok (.aload_n 0, 1) := by decide +kernel
theorem d_X12_unfold_11 : decode prog_14_method_146_code 11 = .ok (.getfield 103, 3) := by decide +kernel
theorem d_X12_unfold_14 : decode prog_14_method_146_code 14 = .ok (.iload_n 1, 1) := by decide +kernel
theorem d_X12_unfold_15 : decode prog_14_method_146_code 15 = .ok (.iaload, 1) := by decide +kernel
theorem d_X12_unfold_16 : decode prog_14_method_146_code 16 = .ok (.istore_n 2, 1) := by decide +kernel
theorem d_X12_unfold_17 : decode prog_14_method_146_code 17 = .ok (.aload_n 0, 1) := by decide +kernel
theorem d_X12_unfold_18 : decode prog_14_method_146_code 18 = .ok (.getfield 103, 3) := by decide +kernel
theorem d_X12_unfold_21 : decode prog_14_method_146_code 21 = .ok (.iload_n 1, 1) := by decide +kernel
theorem d_X12_unfold_22 : decode prog_14_method_146_code 22 = .ok (.iconst 0, 1) := by decide +kernel
theorem d_X12_unfold_23 : decode prog_14_method_146_code 23 = .ok (.iastore, 1) := by decide +kernel
theorem d_X12_unfold_24 : decode prog_14_method_146_code 24 = .ok (.iload_n 2, 1) := by decide +kernel
theorem d_X12_unfold_25 : decode prog_14_method_146_code 25 = .ok (.ireturn, 1) := by decide +kernel
theorem v_X12_unfold_0 {E : EE} {d : Nat} {Q : Option AV → AH → Prop} {x0 : Nat} {x1 : Int32} {G : AH} (h0 : 0 < d) (h : isO E G x0 12 ∧ (wpI E (d - 1) M_X12_isProblem [vr x0, vi x1] G (fun r1 G2 => (¬ r1 = 0 → isO E G2 x0 12 ∧ (isO E G2 (gR G2 x0 32) 14 ∧ (vp_in x1 (gN G2 (gR G2 x0 32)) ∧ (vp_in x1 (gN G2 (gR G2 x0 32)) ∧ (Q (some (vi (gI G2 (gR G2 x0 32) (Int32.toNatClampNeg x1)))) (sI G2 (gR G2 x0 32) (Int32.toNatClampNeg x1) 0)))))) ∧ (r1 = 0 → Q (some (vi (-1))) G2)))) : wp E d M_X12_unfold 0 [some (vr x0), some (vi x1), none] [] G Q := by
  refine wp_aload_n (pc := 0) d_X12_unfold_0 rfl ?_
  refine wp_iload_n (pc := 1) d_X12_unfold_1 rfl ?_
  obtain ⟨ho7, h⟩ := h
  refine wp_invV (pc := 2) (N := M_X12_isProblem) (As := [vi _]) (rest := []) (r := (cn_12, ct_12, 95)) d_X12_unfold_2 ml_X12_453 mk_X12_isProblem mv_X12_isProblem h0 ho7 rfl rfl (Nat.le_of_ble_eq_true rfl) ?_
  refine wpM.mono h (fun rr G2 hr => ?_)
  obtain ⟨r1, rfl, h⟩ := hr
  show wp E d M_X12_unfold 5 [some (vr _), some (vi _), none] [vi _] G2 Q
  refine wp_if_ne (pc := 5) (tgt := 10) d_X12_unfold_5 (by decide) (fun hc => ?_) (fun hc => ?_)
  · have h := h.1 hc
    refine wp_aload_n (pc := 10) d_X12_unfold_10 rfl ?_
    obtain ⟨ho3, h⟩ := h
    refine wp_getR (pc := 11) d_X12_unfold_11 fl_X12_103 (fun _ _ _ => rfl) ho3 ?_
    refine wp_iload_n (pc := 14) d_X12_unfold_14 rfl ?_
    obtain ⟨ho4, h⟩ := h
    obtain ⟨hi5, h⟩ := h
    refine wp_iald (pc := 15) d_X12_unfold_15 ho4 hi5 ?_
    refine wp_istore_n (pc := 16) (lv' := [some (vr _), some (vi _), some (vi _)]) d_X12_unfold_16 (by decide) rfl ?_
    refine wp_aload_n (pc := 17) d_X12_unfold_17 rfl ?_
    refine wp_getR (pc := 18) d_X12_unfold_18 fl_X12_103 (fun _ _ _ => rfl) ho3 ?_
    refine wp_iload_n (pc := 21) d_X12_unfold_21 rfl ?_
    refine wp_iconst (pc := 22) (v := 0) d_X12_unfold_22 rfl ?_
    obtain ⟨hi6, h⟩ := h
    refine wp_iast (pc := 23) d_X12_unfold_23 ho4 hi6 ?_
    refine wp_iload_n (pc := 24) d_X12_unfold_24 rfl ?_
    exact wp_iret (pc := 25) d_X12_unfold_25 rfl h
  · have h := h.2 hc
    refine wp_iconst (pc := 8) (v := (-1)) d_X12_unfold_8 rfl ?_
    exact wp_iret (pc := 9) d_X12_unfold_9 rfl h
theorem d_X12_told_0 : decode prog_14_method_145_code 0 = .ok (.aload_n 0, 1) := by decide +kernel
theorem d_X12_told_1 : decode prog_14_method_145_code 1 = .ok (.iload_n 1, 1) := by decide +kernel
theorem d_X12_told_2 : decode prog_14_method_145_code 2 = .ok (.iload_n 3, 1) := by decide +kernel
theorem d_X12_told_3 : decode prog_14_method_145_code 3 = .ok (.invokevirtual 574, 3) := by decide +kernel
theorem d_X12_told_6 : decode prog_14_method_145_code 6 = .ok (.ifCond .eq 33, 3) := by decide +kernel
theorem d_X12_told_9 : decode prog_14_method_145_code 9 = .ok (.iload_n 2, 1) := by decide +kernel
theorem d_X12_told_10 : decode prog_14_method_145_code 10 = .ok (.ifCond .lt 29, 3) := by decide +kernel
theorem d_X12_told_13 : decode prog_14_method_145_code 13 = .ok (.iload_n 2, 1) := by decide +kernel
theorem d_X12_told_14 : decode prog_14_method_145_code 14 = .ok (.aload_n 0, 1) := by decide +kernel
theorem d_X12_told_15 : decode prog_14_method_145_code 15 = .ok (.getfield 103, 3) := by decide +kernel
theorem d_X12_told_18 : decode prog_14_method_145_code 18 = .ok (.iload_n 1, 1) := by decide +kernel
theorem d_X12_told_19 : decode prog_14_method_145_code 19 = .ok (.iaload, 1) := by decide +kernel
theorem d_X12_told_20 : decode prog_14_method_145_code 20 = .ok (.if_icmp .ge 19, 3) := by decide +kernel
theorem d_X12_told_23 : decode prog_14_method_145_code 23 = .ok (.iload 4, 2) := by decide +kernel
theorem d_X12_told_25 : decode prog_14_method_145_code 25 = .ok (.sipush (-9999), 3) := by decide +kernel
theorem d_X12_told_28 : decode prog_14_method_145_code 28 = .ok (.if_icmp .lt 11, 3) := by decide +kernel
theorem d_X12_told_31 : decode prog_14_method_145_code 31 = .ok (.iload 4, 2) := by decide +kernel
theorem d_X12_told_33 : decode prog_14_method_145_code 33 = .ok (.sipush 9999, 3) := by decide +kernel
theorem d_X12_told_36 : decode prog_14_method_145_code 36 = .ok (.if_icmp .le 5, 3) := by decide +kernel
theorem d_X12_told_39 : decode prog_14_method_145_code 39 = .ok (.iconst 0, 1) := by decide +kernel
theorem d_X12_told_40 : decode prog_14_method_145_code 40 = .ok (.ireturn, 1) := by decide +kernel
theorem d_X12_told_41 : decode prog_14_method_145_code 41 = .ok (.aload_n 0, 1) := by decide +kernel
theorem d_X12_told_42 : decode prog_14_method_145_code 42 = .ok (.getfield 109, 3) := by decide +kernel
theorem d_X12_told_45 : decode prog_14_method_145_code 45 = .ok (.bipush 16, 2) := by decide +kernel
theorem d_X12_told_47 : decode prog_14_method_145_code 47 = .ok (.bipush 6, 2) := by decide +kernel
theorem d_X12_told_49 : decode prog_14_method_145_code 49 = .ok (.iload_n 1, 1) := by decide +kernel
theorem d_X12_told_50 : decode prog_14_method_145_code 50 = .ok (.imul, 1) := by decide +kernel
theorem d_X12_told_51 : decode prog_14_method_145_code 51 = .ok (.iload_n 2, 1) := by decide +kernel
theorem d_X12_told_52 : decode prog_14_method_145_code 52 = .ok (.iadd, 1) := by decide +kernel
theorem d_X12_told_53 : decode prog_14_method_145_code 53 = .ok (.imul, 1) := by decide +kernel
theorem d_X12_told_54 : decode prog_14_method_145_code 54 = .ok (.iload_n 3, 1) := by decide +kernel
theorem d_X12_told_55 : decode prog_14_method_145_code 55 = .ok (.iadd, 1) := by decide +kernel
theorem d_X12_told_56 : decode prog_14_method_145_code 56 = .ok (.iconst 1, 1) := by decide +kernel
theorem d_X12_told_57 : decode prog_14_method_145_code 57 = .ok (.bastore, 1) := by decide +kernel
theorem d_X12_told_58 : decode prog_14_method_145_code 58 = .ok (.aload_n 0, 1) := by decide +kernel
theorem d_X12_told_59 : decode prog_14_method_145_code 59 = .ok (.getfield 112, 3) := by decide +kernel
theorem d_X12_told_62 : decode prog_14_method_145_code 62 = .ok (.bipush 16, 2) := by decide +kernel
theorem d_X12_told_64 : decode prog_14_method_145_code 64 = .ok (.bipush 6, 2) := by decide +kernel
theorem d_X12_told_66 : decode prog_14_method_145_code 66 = .ok (.iload_n 1, 1) := by decide +kernel
theorem d_X12_told_67 : decode prog_14_method_145_code 67 = .ok (.imul, 1) := by decide +kernel
theorem d_X12_told_68 : decode prog_14_method_145_code 68 = .ok (.iload_n 2, 1) := by decide +kernel
theorem d_X12_told_69 : decode prog_14_method_145_code 69 = .ok (.iadd, 1) := by decide +kernel
theorem d_X12_told_70 : decode prog_14_method_145_code 70 = .ok (.imul, 1) := by decide +kernel
theorem d_X12_told_71 : decode prog_14_method_145_code 71 = .ok (.iload_n 3, 1) := by decide +kernel
theorem d_X12_told_72 : decode prog_14_method_145_code 72 = .ok (.iadd, 1) := by decide +kernel
theorem d_X12_told_73 : decode prog_14_method_145_code 73 = .ok (.iload 4, 2) := by decide +kernel
theorem d_X12_told_75 : decode prog_14_method_145_code 75 = .ok (.iastore, 1) := by decide +kernel
theorem d_X12_told_76 : decode prog_14_method_145_code 76 = .ok (.iconst 1, 1) := by decide +kernel
theorem d_X12_told_77 : decode prog_14_method_145_code 77 = .ok (.ireturn, 1) := by decide +kernel
theorem v_X12_told_0 {E : EE} {d : Nat} {Q : Option AV → AH → Prop} {x0 : Nat} {x1 : Int32} {x2 : Int32} {x3 : Int32} {x4 : Int32} {G : AH} (h0 : 0 < d) (h : isO E G x0 12 ∧ (wpI E (d - 1) M_X12_isFact [vr x0, vi x1, vi x3] G (fun r1 G2 => (r1 = 0 → Q (some (vi 0)) G2) ∧ (¬ (r1 = 0) → (x2 < 0 → Q (some (vi 0)) G2) ∧ (¬ (x2 < 0) → isO E G2 x0 12 ∧ (isO E G2 (gR G2 x0 32) 14 ∧ (vp_in x1 (gN G2 (gR G2 x0 32)) ∧ (((gI G2 (gR G2 x0 32) (Int32.toNatClampNeg x1)) ≤ x2 → Q (some (vi 0)) G2) ∧ (¬ ((gI G2 (gR G2 x0 32) (Int32.toNatClampNeg x1)) ≤ x2) → (x4 < (-9999) → Q (some (vi 0)) G2) ∧ (¬ (x4 < (-9999)) → (x4 ≤ 9999 → isO E G2 (gR G2 x0 34) 16 ∧ (vp_in ((16 * ((6 * x1) + x2)) + x3) (gN G2 (gR G2 x0 34)) ∧ (∀ G8 : AH, G8 = sI G2 (gR G2 x0 34) (Int32.toNatClampNeg ((16 * ((6 * x1) + x2)) + x3)) (nz 1) → isO E G8 (gR G8 x0 35) 14 ∧ (vp_in ((16 * ((6 * x1) + x2)) + x3) (gN G8 (gR G8 x0 35)) ∧ (∀ G12 : AH, G12 = sI G8 (gR G8 x0 35) (Int32.toNatClampNeg ((16 * ((6 * x1) + x2)) + x3)) x4 → Q (some (vi 1)) G12))))) ∧ (¬ (x4 ≤ 9999) → Q (some (vi 0)) G2))))))))))) : wp E d M_X12_told 0 [some (vr x0), some (vi x1), some (vi x2), some (vi x3), some (vi x4)] [] G Q := by
  refine wp_aload_n (pc := 0) d_X12_told_0 rfl ?_
  refine wp_iload_n (pc := 1) d_X12_told_1 rfl ?_
  refine wp_iload_n (pc := 2) d_X12_told_2 rfl ?_
  obtain ⟨ho14, h⟩ := h
  refine wp_invV (pc := 3) (N := M_X12_isFact) (As := [vi _, vi _]) (rest := []) (r := (cn_12, ct_12, 95)) d_X12_told_3 ml_X12_574 mk_X12_isFact mv_X12_isFact h0 ho14 rfl rfl (Nat.le_of_ble_eq_true rfl) ?_
  refine wpM.mono h (fun rr G2 hr => ?_)
  obtain ⟨r1, rfl, h⟩ := hr
  show wp E d M_X12_told 6 [some (vr _), some (vi _), some (vi _), some (vi _), some (vi _)] [vi _] G2 Q
  refine wp_if_eq (pc := 6) (tgt := 39) d_X12_told_6 (by decide) (fun hc => ?_) (fun hc => ?_)
  · have h := h.1 hc
    refine wp_iconst (pc := 39) (v := 0) d_X12_told_39 rfl ?_
    exact wp_zret (pc := 40) d_X12_told_40 rfl rfl h
  · have h := h.2 hc
    refine wp_iload_n (pc := 9) d_X12_told_9 rfl ?_
    refine wp_if_lt (pc := 10) (tgt := 39) d_X12_told_10 (by decide) (fun hc => ?_) (fun hc => ?_)
    · have h := h.1 hc
      refine wp_iconst (pc := 39) (v := 0) d_X12_told_39 rfl ?_
      exact wp_zret (pc := 40) d_X12_told_40 rfl rfl h
    · have h := h.2 hc
      refine wp_iload_n (pc := 13) d_X12_told_13 rfl ?_
      refine wp_aload_n (pc := 14) d_X12_told_14 rfl ?_
      obtain ⟨ho3, h⟩ := h
      refine wp_getR (pc := 15) d_X12_told_15 fl_X12_103 (fun _ _ _ => rfl) ho3 ?_
      refine wp_iload_n (pc := 18) d_X12_told_18 rfl ?_
      obtain ⟨ho4, h⟩ := h
      obtain ⟨hi5, h⟩ := h
      refine wp_iald (pc := 19) d_X12_told_19 ho4 hi5 ?_
      refine wp_icmp_ge (pc := 20) (tgt := 39) d_X12_told_20 (by decide) (fun hc => ?_) (fun hc => ?_)
      · have h := h.1 hc
        refine wp_iconst (pc := 39) (v := 0) d_X12_told_39 rfl ?_
        exact wp_zret (pc := 40) d_X12_told_40 rfl rfl h
      · have h := h.2 hc
        refine wp_iload (pc := 23) d_X12_told_23 rfl ?_
        refine wp_sipush (pc := 25) (v := (-9999)) d_X12_told_25 rfl ?_
        refine wp_icmp_lt (pc := 28) (tgt := 39) d_X12_told_28 (by decide) (fun hc => ?_) (fun hc => ?_)
        · have h := h.1 hc
          refine wp_iconst (pc := 39) (v := 0) d_X12_told_39 rfl ?_
          exact wp_zret (pc := 40) d_X12_told_40 rfl rfl h
        · have h := h.2 hc
          refine wp_iload (pc := 31) d_X12_told_31 rfl ?_
          refine wp_sipush (pc := 33) (v := 9999) d_X12_told_33 rfl ?_
          refine wp_icmp_le (pc := 36) (tgt := 41) d_X12_told_36 (by decide) (fun hc => ?_) (fun hc => ?_)
          · have h := h.1 hc
            refine wp_aload_n (pc := 41) d_X12_told_41 rfl ?_
            refine wp_getR (pc := 42) d_X12_told_42 fl_X12_109 (fun _ _ _ => rfl) ho3 ?_
            refine wp_bipush (pc := 45) (v := 16) d_X12_told_45 rfl ?_
            refine wp_bipush (pc := 47) (v := 6) d_X12_told_47 rfl ?_
            refine wp_iload_n (pc := 49) d_X12_told_49 rfl ?_
            refine wp_imul (pc := 50) d_X12_told_50 ?_
            refine wp_iload_n (pc := 51) d_X12_told_51 rfl ?_
            refine wp_iadd (pc := 52) d_X12_told_52 ?_
            refine wp_imul (pc := 53) d_X12_told_53 ?_
            refine wp_iload_n (pc := 54) d_X12_told_54 rfl ?_
            refine wp_iadd (pc := 55) d_X12_told_55 ?_
            refine wp_iconst (pc := 56) (v := 1) d_X12_told_56 rfl ?_
            obtain ⟨ho6, h⟩ := h
            obtain ⟨hi7, h⟩ := h
            refine wp_zast (pc := 57) d_X12_told_57 ho6 hi7 ?_
            refine wp_nm (fun G8 eG8 => ?_)
            have h := h G8 eG8
            have ho9 := isO_sI eG8 ho3
            refine wp_aload_n (pc := 58) d_X12_told_58 rfl ?_
            refine wp_getR (pc := 59) d_X12_told_59 fl_X12_112 (fun _ _ _ => rfl) ho9 ?_
            refine wp_bipush (pc := 62) (v := 16) d_X12_told_62 rfl ?_
            refine wp_bipush (pc := 64) (v := 6) d_X12_told_64 rfl ?_
            refine wp_iload_n (pc := 66) d_X12_told_66 rfl ?_
            refine wp_imul (pc := 67) d_X12_told_67 ?_
            refine wp_iload_n (pc := 68) d_X12_told_68 rfl ?_
            refine wp_iadd (pc := 69) d_X12_told_69 ?_
            refine wp_imul (pc := 70) d_X12_told_70 ?_
            refine wp_iload_n (pc := 71) d_X12_told_71 rfl ?_
            refine wp_iadd (pc := 72) d_X12_told_72 ?_
            refine wp_iload (pc := 73) d_X12_told_73 rfl ?_
            obtain ⟨ho10, h⟩ := h
            obtain ⟨hi11, h⟩ := h
            refine wp_iast (pc := 75) d_X12_told_75 ho10 hi11 ?_
            refine wp_nm (fun G12 eG12 => ?_)
            have h := h G12 eG12
            have ho13 := isO_sI eG12 ho9
            refine wp_iconst (pc := 76) (v := 1) d_X12_told_76 rfl ?_
            exact wp_zret (pc := 77) d_X12_told_77 rfl rfl h
          · have h := h.2 hc
            refine wp_iconst (pc := 39) (v := 0) d_X12_told_39 rfl ?_
            exact wp_zret (pc := 40) d_X12_told_40 rfl rfl h
theorem d_X12_isFact_0 : decode prog_14_method_57_code 0 = .ok (.aload_n 0, 1) := by decide +kernel
theorem d_X12_isFact_1 : decode prog_14_method_57_code 1 = .ok (.iload_n 1, 1) := by decide +kernel
theorem d_X12_isFact_2 : decode prog_14_method_57_code 2 = .ok (.invokevirtual 453, 3) := by decide +kernel
theorem d_X12_isFact_5 : decode prog_14_method_57_code 5 = .ok (.ifCond .eq 23, 3) := by decide +kernel
theorem d_X12_isFact_8 : decode prog_14_method_57_code 8 = .ok (.iload_n 2, 1) := by decide +kernel
theorem d_X12_isFact_9 : decode prog_14_method_57_code 9 = .ok (.ifCond .lt 19, 3) := by decide +kernel
theorem d_X12_isFact_12 : decode prog_14_method_57_code 12 = .ok (.iload_n 2, 1) := by decide +kernel
theorem d_X12_isFact_13 : decode prog_14_method_57_code 13 = .ok (.aload_n 0, 1) := by decide +kernel
theorem d_X12_isFact_14 : decode prog_14_method_57_code 14 = .ok (.getfield 58, 3) := by decide +kernel
theorem d_X12_isFact_17 : decode prog_14_method_57_code 17 = .ok (.iconst 4, 1) := by decide +kernel
theorem d_X12_isFact_18 : decode prog_14_method_57_code 18 = .ok (.iload_n 1, 1) := by decide +kernel
theorem d_X12_isFact_19 : decode prog_14_method_57_code 19 = .ok (.imul, 1) := by decide +kernel
theorem d_X12_isFact_20 : decode prog_14_method_57_code 20 = .ok (.iaload, 1) := by decide +kernel
theorem d_X12_isFact_21 : decode prog_14_method_57_code 21 = .ok (.if_icmp .ge 7, 3) := by decide +kernel
theorem d_X12_isFact_24 : decode prog_14_method_57_code 24 = .ok (.iconst 1, 1) := by decide +kernel
theorem d_X12_isFact_25 : decode prog_14_method_57_code 25 = .ok (.goto 4, 3) := by decide +kernel
theorem d_X12_isFact_28 : decode prog_14_method_57_code 28 = .ok (.iconst 0, 1) := by decide +kernel
theorem d_X12_isFact_29 : decode prog_14_method_57_code 29 = .ok (.ireturn, 1) := by decide +kernel
theorem v_X12_isFact_0 {E : EE} {d : Nat} {Q : Option AV → AH → Prop} {x0 : Nat} {x1 : Int32} {x2 : Int32} {G : AH} (h0 : 0 < d) (h : isO E G x0 12 ∧ (wpI E (d - 1) M_X12_isProblem [vr x0, vi x1] G (fun r1 G2 => (r1 = 0 → Q (some (vi 0)) G2) ∧ (¬ (r1 = 0) → (x2 < 0 → Q (some (vi 0)) G2) ∧ (¬ (x2 < 0) → isO E G2 x0 12 ∧ (isO E G2 (gR G2 x0 17) 14 ∧ (vp_in (4 * x1) (gN G2 (gR G2 x0 17)) ∧ (((gI G2 (gR G2 x0 17) (Int32.toNatClampNeg (4 * x1))) ≤ x2 → Q (some (vi 0)) G2) ∧ (¬ ((gI G2 (gR G2 x0 17) (Int32.toNatClampNeg (4 * x1))) ≤ x2) → Q (some (vi 1)) G2))))))))) : wp E d M_X12_isFact 0 [some (vr x0), some (vi x1), some (vi x2)] [] G Q := by
  refine wp_aload_n (pc := 0) d_X12_isFact_0 rfl ?_
  refine wp_iload_n (pc := 1) d_X12_isFact_1 rfl ?_
  obtain ⟨ho6, h⟩ := h
  refine wp_invV (pc := 2) (N := M_X12_isProblem) (As := [vi _]) (rest := []) (r := (cn_12, ct_12, 95)) d_X12_isFact_2 ml_X12_453 mk_X12_isProblem mv_X12_isProblem h0 ho6 rfl rfl (Nat.le_of_ble_eq_true rfl) ?_
  refine wpM.mono h (fun rr G2 hr => ?_)
  obtain ⟨r1, rfl, h⟩ := hr
  show wp E d M_X12_isFact 5 [some (vr _), some (vi _), some (vi _)] [vi _] G2 Q
  refine wp_if_eq (pc := 5) (tgt := 28) d_X12_isFact_5 (by decide) (fun hc => ?_) (fun hc => ?_)
  · have h := h.1 hc
    refine wp_iconst (pc := 28) (v := 0) d_X12_isFact_28 rfl ?_
    exact wp_zret (pc := 29) d_X12_isFact_29 rfl rfl h
  · have h := h.2 hc
    refine wp_iload_n (pc := 8) d_X12_isFact_8 rfl ?_
    refine wp_if_lt (pc := 9) (tgt := 28) d_X12_isFact_9 (by decide) (fun hc => ?_) (fun hc => ?_)
    · have h := h.1 hc
      refine wp_iconst (pc := 28) (v := 0) d_X12_isFact_28 rfl ?_
      exact wp_zret (pc := 29) d_X12_isFact_29 rfl rfl h
    · have h := h.2 hc
      refine wp_iload_n (pc := 12) d_X12_isFact_12 rfl ?_
      refine wp_aload_n (pc := 13) d_X12_isFact_13 rfl ?_
      obtain ⟨ho3, h⟩ := h
      refine wp_getR (pc := 14) d_X12_isFact_14 fl_X12_58 (fun _ _ _ => rfl) ho3 ?_
      refine wp_iconst (pc := 17) (v := 4) d_X12_isFact_17 rfl ?_
      refine wp_iload_n (pc := 18) d_X12_isFact_18 rfl ?_
      refine wp_imul (pc := 19) d_X12_isFact_19 ?_
      obtain ⟨ho4, h⟩ := h
      obtain ⟨hi5, h⟩ := h
      refine wp_iald (pc := 20) d_X12_isFact_20 ho4 hi5 ?_
      refine wp_icmp_ge (pc := 21) (tgt := 28) d_X12_isFact_21 (by decide) (fun hc => ?_) (fun hc => ?_)
      · have h := h.1 hc
        refine wp_iconst (pc := 28) (v := 0) d_X12_isFact_28 rfl ?_
        exact wp_zret (pc := 29) d_X12_isFact_29 rfl rfl h
      · have h := h.2 hc
        refine wp_iconst (pc := 24) (v := 1) d_X12_isFact_24 rfl ?_
        refine wp_goto (pc := 25) (tgt := 29) d_X12_isFact_25 (by decide) ?_
        exact wp_zret (pc := 29) d_X12_isFact_29 rfl rfl h
theorem d_X12_future_0 : decode prog_14_method_144_code 0 = .ok (.aload_n 0, 1) := by decide +kernel
theorem d_X12_future_1 : decode prog_14_method_144_code 1 = .ok (.iload_n 1, 1) := by decide +kernel
theorem d_X12_future_2 : decode prog_14_method_144_code 2 = .ok (.invokevirtual 453, 3) := by decide +kernel
theorem d_X12_future_5 : decode prog_14_method_144_code 5 = .ok (.ifCond .eq 14, 3) := by decide +kernel
theorem d_X12_future_8 : decode prog_14_method_144_code 8 = .ok (.iload_n 2, 1) := by decide +kernel
theorem d_X12_future_9 : decode prog_14_method_144_code 9 = .ok (.iconst 1, 1) := by decide +kernel
theorem d_X12_future_10 : decode prog_14_method_144_code 10 = .ok (.if_icmp .lt 9, 3) := by decide +kernel
theorem d_X12_future_13 : decode prog_14_method_144_code 13 = .ok (.iload_n 2, 1) := by decide +kernel
theorem d_X12_future_14 : decode prog_14_method_144_code 14 = .ok (.bipush 100, 2) := by decide +kernel
theorem d_X12_future_16 : decode prog_14_method_144_code 16 = .ok (.if_icmp .le 5, 3) := by decide +kernel
theorem d_X12_future_19 : decode prog_14_method_144_code 19 = .ok (.iconst (-1), 1) := by decide +kernel
theorem d_X12_future_20 : decode prog_14_method_144_code 20 = .ok (.ireturn, 1) := by decide +kernel
theorem d_X12_future_21 : decode prog_14_method_144_code 21 = .ok (.aload_n 0, 1) := by decide +kernel
theorem d_X12_future_22 : decode prog_14_method_144_code 22 = .ok (.getfield 103, 3) := by decide +kernel
theorem d_X12_future_25 : decode prog_14_method_144_code 25 = .ok (.iload_n 1, 1) := by decide +kernel
theorem d_X12_future_26 : decode prog_14_method_144_code 26 = .ok (.iaload, 1) := by decide +kernel
theorem d_X12_future_27 : decode prog_14_method_144_code 27 = .ok (.bipush 6, 2) := by decide +kernel
theorem d_X12_future_29 : decode prog_14_method_144_code 29 = .ok (.if_icmp .ne 6, 3) := by decide +kernel
theorem d_X12_future_32 : decode prog_14_method_144_code 32 = .ok (.ldc 220, 2) := by decide +kernel
theorem d_X12_future_34 : decode prog_14_method_144_code 34 = .ok (.ireturn, 1) := by decide +kernel
theorem d_X12_future_35 : decode prog_14_method_144_code 35 = .ok (.aload_n 0, 1) := by decide +kernel
theorem d_X12_future_36 : decode prog_14_method_144_code 36 = .ok (.getfield 103, 3) := by decide +kernel
theorem d_X12_future_39 : decode prog_14_method_144_code 39 = .ok (.iload_n 1, 1) := by decide +kernel
theorem d_X12_future_40 : decode prog_14_method_144_code 40 = .ok (.iaload, 1) := by decide +kernel
theorem d_X12_future_41 : decode prog_14_method_144_code 41 = .ok (.istore_n 3, 1) := by decide +kernel
theorem d_X12_future_42 : decode prog_14_method_144_code 42 = .ok (.aload_n 0, 1) := by decide +kernel
theorem d_X12_future_43 : decode prog_14_method_144_code 43 = .ok (.getfield 106, 3) := by decide +kernel
theorem d_X12_future_46 : decode prog_14_method_144_code 46 = .ok (.bipush 6, 2) := by decide +kernel
theorem d_X12_future_48 : decode prog_14_method_144_code 48 = .ok (.iload_n 1, 1) := by decide +kernel
theorem d_X12_future_49 : decode prog_14_method_144_code 49 = .ok (.imul, 1) := by decide +kernel
theorem d_X12_future_50 : decode prog_14_method_144_code 50 = .ok (.iload_n 3, 1) := by decide +kernel
theorem d_X12_future_51 : decode prog_14_method_144_code 51 = .ok (.iadd, 1) := by decide +kernel
theorem d_X12_future_52 : decode prog_14_method_144_code 52 = .ok (.iload_n 2, 1) := by decide +kernel
theorem d_X12_future_53 : decode prog_14_method_144_code 53 = .ok (.iastore, 1) := by decide +kernel
theorem d_X12_future_54 : decode prog_14_method_144_code 54 = .ok (.iconst 0, 1) := by decide +kernel
theorem d_X12_future_55 : decode prog_14_method_144_code 55 = .ok (.istore 4, 2) := by decide +kernel
theorem v_X12_future_0 {E : EE} {d : Nat} {Q : Option AV → AH → Prop} {x0 : Nat} {x1 : Int32} {x2 : Int32} {G : AH} (h0 : 0 < d) (h : isO E G x0 12 ∧ (wpI E (d - 1) M_X12_isProblem [vr x0, vi x1] G (fun r1 G2 => (r1 = 0 → Q (some (vi (-1))) G2) ∧ (¬ (r1 = 0) → (x2 < 1 → Q (some (vi (-1))) G2) ∧ (¬ (x2 < 1) → (x2 ≤ 100 → isO E G2 x0 12 ∧ (isO E G2 (gR G2 x0 32) 14 ∧ (vp_in x1 (gN G2 (gR G2 x0 32)) ∧ ((¬ (gI G2 (gR G2 x0 32) (Int32.toNatClampNeg x1)) = 6 → vp_in x1 (gN G2 (gR G2 x0 32)) ∧ (isO E G2 (gR G2 x0 33) 14 ∧ (vp_in ((6 * x1) + (gI G2 (gR G2 x0 32) (Int32.toNatClampNeg x1))) (gN G2 (gR G2 x0 33)) ∧ (wp E d M_X12_future 57 [some (vr x0), some (vi x1), some (vi x2), some (vi (gI G2 (gR G2 x0 32) (Int32.toNatClampNeg x1))), some (vi 0)] [] (sI G2 (gR G2 x0 33) (Int32.toNatClampNeg ((6 * x1) + (gI G2 (gR G2 x0 32) (Int32.toNatClampNeg x1)))) x2) Q)))) ∧ ((gI G2 (gR G2 x0 32) (Int32.toNatClampNeg x1)) = 6 → Q (some (vi (-100000))) G2))))) ∧ (¬ (x2 ≤ 100) → Q (some (vi (-1))) G2)))))) : wp E d M_X12_future 0 [some (vr x0), some (vi x1), some (vi x2), none, none] [] G Q := by
  refine wp_aload_n (pc := 0) d_X12_future_0 rfl ?_
  refine wp_iload_n (pc := 1) d_X12_future_1 rfl ?_
  obtain ⟨ho9, h⟩ := h
  refine wp_invV (pc := 2) (N := M_X12_isProblem) (As := [vi _]) (rest := []) (r := (cn_12, ct_12, 95)) d_X12_future_2 ml_X12_453 mk_X12_isProblem mv_X12_isProblem h0 ho9 rfl rfl (Nat.le_of_ble_eq_true rfl) ?_
  refine wpM.mono h (fun rr G2 hr => ?_)
  obtain ⟨r1, rfl, h⟩ := hr
  show wp E d M_X12_future 5 [some (vr _), some (vi _), some (vi _), none, none] [vi _] G2 Q
  refine wp_if_eq (pc := 5) (tgt := 19) d_X12_future_5 (by decide) (fun hc => ?_) (fun hc => ?_)
  · have h := h.1 hc
    refine wp_iconst (pc := 19) (v := (-1)) d_X12_future_19 rfl ?_
    exact wp_iret (pc := 20) d_X12_future_20 rfl h
  · have h := h.2 hc
    refine wp_iload_n (pc := 8) d_X12_future_8 rfl ?_
    refine wp_iconst (pc := 9) (v := 1) d_X12_future_9 rfl ?_
    refine wp_icmp_lt (pc := 10) (tgt := 19) d_X12_future_10 (by decide) (fun hc => ?_) (fun hc => ?_)
    · have h := h.1 hc
      refine wp_iconst (pc := 19) (v := (-1)) d_X12_future_19 rfl ?_
      exact wp_iret (pc := 20) d_X12_future_20 rfl h
    · have h := h.2 hc
      refine wp_iload_n (pc := 13) d_X12_future_13 rfl ?_
      refine wp_bipush (pc := 14) (v := 100) d_X12_future_14 rfl ?_
      refine wp_icmp_le (pc := 16) (tgt := 21) d_X12_future_16 (by decide) (fun hc => ?_) (fun hc => ?_)
      · have h := h.1 hc
        refine wp_aload_n (pc := 21) d_X12_future_21 rfl ?_
        obtain ⟨ho3, h⟩ := h
        refine wp_getR (pc := 22) d_X12_future_22 fl_X12_103 (fun _ _ _ => rfl) ho3 ?_
        refine wp_iload_n (pc := 25) d_X12_future_25 rfl ?_
        obtain ⟨ho4, h⟩ := h
        obtain ⟨hi5, h⟩ := h
        refine wp_iald (pc := 26) d_X12_future_26 ho4 hi5 ?_
        refine wp_bipush (pc := 27) (v := 6) d_X12_future_27 rfl ?_
        refine wp_icmp_ne (pc := 29) (tgt := 35) d_X12_future_29 (by decide) (fun hc => ?_) (fun hc => ?_)
        · have h := h.1 hc
          refine wp_aload_n (pc := 35) d_X12_future_35 rfl ?_
          refine wp_getR (pc := 36) d_X12_future_36 fl_X12_103 (fun _ _ _ => rfl) ho3 ?_
          refine wp_iload_n (pc := 39) d_X12_future_39 rfl ?_
          obtain ⟨hi6, h⟩ := h
          refine wp_iald (pc := 40) d_X12_future_40 ho4 hi6 ?_
          refine wp_istore_n (pc := 41) (lv' := [some (vr _), some (vi _), some (vi _), some (vi _), none]) d_X12_future_41 (by decide) rfl ?_
          refine wp_aload_n (pc := 42) d_X12_future_42 rfl ?_
          refine wp_getR (pc := 43) d_X12_future_43 fl_X12_106 (fun _ _ _ => rfl) ho3 ?_
          refine wp_bipush (pc := 46) (v := 6) d_X12_future_46 rfl ?_
          refine wp_iload_n (pc := 48) d_X12_future_48 rfl ?_
          refine wp_imul (pc := 49) d_X12_future_49 ?_
          refine wp_iload_n (pc := 50) d_X12_future_50 rfl ?_
          refine wp_iadd (pc := 51) d_X12_future_51 ?_
          refine wp_iload_n (pc := 52) d_X12_future_52 rfl ?_
          obtain ⟨ho7, h⟩ := h
          obtain ⟨hi8, h⟩ := h
          refine wp_iast (pc := 53) d_X12_future_53 ho7 hi8 ?_
          refine wp_iconst (pc := 54) (v := 0) d_X12_future_54 rfl ?_
          refine wp_istore (pc := 55) (lv' := [some (vr _), some (vi _), some (vi _), some (vi _), some (vi _)]) d_X12_future_55 (by decide) rfl ?_
          refine wp_sub ?_ h
          exact ⟨rfl, ⟨rfl, ⟨rfl, ⟨rfl, ⟨rfl, trivial⟩⟩⟩⟩⟩
        · have h := h.2 hc
          refine wp_ldc (pc := 32) (v := (-100000)) d_X12_future_32 ci_X12_220 ?_
          exact wp_iret (pc := 34) d_X12_future_34 rfl h
      · have h := h.2 hc
        refine wp_iconst (pc := 19) (v := (-1)) d_X12_future_19 rfl ?_
        exact wp_iret (pc := 20) d_X12_future_20 rfl h
theorem d_X12_because_0 : decode prog_14_method_143_code 0 = .ok (.aload_n 0, 1) := by decide +kernel
theorem d_X12_because_1 : decode prog_14_method_143_code 1 = .ok (.iload_n 1, 1) := by decide +kernel
theorem d_X12_because_2 : decode prog_14_method_143_code 2 = .ok (.iload_n 2, 1) := by decide +kernel
theorem d_X12_because_3 : decode prog_14_method_143_code 3 = .ok (.invokevirtual 462, 3) := by decide +kernel
theorem d_X12_because_6 : decode prog_14_method_143_code 6 = .ok (.ifCond .ne 5, 3) := by decide +kernel
theorem d_X12_because_9 : decode prog_14_method_143_code 9 = .ok (.iconst (-1), 1) := by decide +kernel
theorem d_X12_because_10 : decode prog_14_method_143_code 10 = .ok (.ireturn, 1) := by decide +kernel
theorem d_X12_because_11 : decode prog_14_method_143_code 11 = .ok (.aload_n 0, 1) := by decide +kernel
theorem d_X12_because_12 : decode prog_14_method_143_code 12 = .ok (.iload_n 1, 1) := by decide +kernel
theorem d_X12_because_13 : decode prog_14_method_143_code 13 = .ok (.invokevirtual 571, 3) := by decide +kernel
theorem d_X12_because_16 : decode prog_14_method_143_code 16 = .ok (.aload_n 0, 1) := by decide +kernel
theorem d_X12_because_17 : decode prog_14_method_143_code 17 = .ok (.iload_n 1, 1) := by decide +kernel
theorem d_X12_because_18 : decode prog_14_method_143_code 18 = .ok (.iload_n 2, 1) := by decide +kernel
theorem d_X12_because_19 : decode prog_14_method_143_code 19 = .ok (.iload_n 3, 1) := by decide +kernel
theorem d_X12_because_20 : decode prog_14_method_143_code 20 = .ok (.invokevirtual 643, 3) := by decide +kernel
theorem d_X12_because_23 : decode prog_14_method_143_code 23 = .ok (.istore 4, 2) := by decide +kernel
theorem d_X12_because_25 : decode prog_14_method_143_code 25 = .ok (.aload_n 0, 1) := by decide +kernel
theorem d_X12_because_26 : decode prog_14_method_143_code 26 = .ok (.iload_n 1, 1) := by decide +kernel
theorem d_X12_because_27 : decode prog_14_method_143_code 27 = .ok (.iconst (-1), 1) := by decide +kernel
theorem d_X12_because_28 : decode prog_14_method_143_code 28 = .ok (.iconst 0, 1) := by decide +kernel
theorem d_X12_because_29 : decode prog_14_method_143_code 29 = .ok (.invokevirtual 592, 3) := by decide +kernel
theorem d_X12_because_32 : decode prog_14_method_143_code 32 = .ok (.istore 5, 2) := by decide +kernel
theorem d_X12_because_34 : decode prog_14_method_143_code 34 = .ok (.iconst 0, 1) := by decide +kernel
theorem d_X12_because_35 : decode prog_14_method_143_code 35 = .ok (.istore 6, 2) := by decide +kernel
theorem v_X12_because_0 {E : EE} {d : Nat} {Q : Option AV → AH → Prop} {x0 : Nat} {x1 : Int32} {x2 : Int32} {x3 : Int32} {G : AH} (h0 : 0 < d) (h : isO E G x0 12 ∧ (wpI E (d - 1) M_X12_isVar [vr x0, vi x1, vi x2] G (fun r1 G2 => (¬ r1 = 0 → isO E G2 x0 12 ∧ (wpV E (d - 1) M_X12_know [vr x0, vi x1] G2 (fun G3 => isO E G3 x0 12 ∧ (wpI E (d - 1) M_X12_bestWith [vr x0, vi x1, vi x2, vi x3] G3 (fun r4 G5 => isO E G5 x0 12 ∧ (wpI E (d - 1) M_X12_firstBest [vr x0, vi x1, vi (-1), vi 0] G5 (fun r6 G7 => wp E d M_X12_because 37 [some (vr x0), some (vi x1), some (vi x2), some (vi x3), some (vi r4), some (vi r6), some (vi 0)] [] G7 Q))))))) ∧ (r1 = 0 → Q (some (vi (-1))) G2)))) : wp E d M_X12_because 0 [some (vr x0), some (vi x1), some (vi x2), some (vi x3), none, none, none] [] G Q := by
  refine wp_aload_n (pc := 0) d_X12_because_0 rfl ?_
  refine wp_iload_n (pc := 1) d_X12_because_1 rfl ?_
  refine wp_iload_n (pc := 2) d_X12_because_2 rfl ?_
  obtain ⟨ho11, h⟩ := h
  refine wp_invV (pc := 3) (N := M_X12_isVar) (As := [vi _, vi _]) (rest := []) (r := (cn_12, ct_12, 95)) d_X12_because_3 ml_X12_462 mk_X12_isVar mv_X12_isVar h0 ho11 rfl rfl (Nat.le_of_ble_eq_true rfl) ?_
  refine wpM.mono h (fun rr G2 hr => ?_)
  obtain ⟨r1, rfl, h⟩ := hr
  show wp E d M_X12_because 6 [some (vr _), some (vi _), some (vi _), some (vi _), none, none, none] [vi _] G2 Q
  refine wp_if_ne (pc := 6) (tgt := 11) d_X12_because_6 (by decide) (fun hc => ?_) (fun hc => ?_)
  · have h := h.1 hc
    refine wp_aload_n (pc := 11) d_X12_because_11 rfl ?_
    refine wp_iload_n (pc := 12) d_X12_because_12 rfl ?_
    obtain ⟨ho10, h⟩ := h
    refine wp_invV (pc := 13) (N := M_X12_know) (As := [vi _]) (rest := []) (r := (cn_12, ct_12, 95)) d_X12_because_13 ml_X12_571 mk_X12_know mv_X12_know h0 ho10 rfl rfl (Nat.le_of_ble_eq_true rfl) ?_
    refine wpM.mono h (fun rr G3 hr => ?_)
    obtain ⟨rfl, h⟩ := hr
    show wp E d M_X12_because 16 [some (vr _), some (vi _), some (vi _), some (vi _), none, none, none] [] G3 Q
    refine wp_aload_n (pc := 16) d_X12_because_16 rfl ?_
    refine wp_iload_n (pc := 17) d_X12_because_17 rfl ?_
    refine wp_iload_n (pc := 18) d_X12_because_18 rfl ?_
    refine wp_iload_n (pc := 19) d_X12_because_19 rfl ?_
    obtain ⟨ho9, h⟩ := h
    refine wp_invV (pc := 20) (N := M_X12_bestWith) (As := [vi _, vi _, vi _]) (rest := []) (r := (cn_12, ct_12, 95)) d_X12_because_20 ml_X12_643 mk_X12_bestWith mv_X12_bestWith h0 ho9 rfl rfl (Nat.le_of_ble_eq_true rfl) ?_
    refine wpM.mono h (fun rr G5 hr => ?_)
    obtain ⟨r4, rfl, h⟩ := hr
    show wp E d M_X12_because 23 [some (vr _), some (vi _), some (vi _), some (vi _), none, none, none] [vi _] G5 Q
    refine wp_istore (pc := 23) (lv' := [some (vr _), some (vi _), some (vi _), some (vi _), some (vi _), none, none]) d_X12_because_23 (by decide) rfl ?_
    refine wp_aload_n (pc := 25) d_X12_because_25 rfl ?_
    refine wp_iload_n (pc := 26) d_X12_because_26 rfl ?_
    refine wp_iconst (pc := 27) (v := (-1)) d_X12_because_27 rfl ?_
    refine wp_iconst (pc := 28) (v := 0) d_X12_because_28 rfl ?_
    obtain ⟨ho8, h⟩ := h
    refine wp_invV (pc := 29) (N := M_X12_firstBest) (As := [vi _, vi _, vi _]) (rest := []) (r := (cn_12, ct_12, 95)) d_X12_because_29 ml_X12_592 mk_X12_firstBest mv_X12_firstBest h0 ho8 rfl rfl (Nat.le_of_ble_eq_true rfl) ?_
    refine wpM.mono h (fun rr G7 hr => ?_)
    obtain ⟨r6, rfl, h⟩ := hr
    show wp E d M_X12_because 32 [some (vr _), some (vi _), some (vi _), some (vi _), some (vi _), none, none] [vi _] G7 Q
    refine wp_istore (pc := 32) (lv' := [some (vr _), some (vi _), some (vi _), some (vi _), some (vi _), some (vi _), none]) d_X12_because_32 (by decide) rfl ?_
    refine wp_iconst (pc := 34) (v := 0) d_X12_because_34 rfl ?_
    refine wp_istore (pc := 35) (lv' := [some (vr _), some (vi _), some (vi _), some (vi _), some (vi _), some (vi _), some (vi _)]) d_X12_because_35 (by decide) rfl ?_
    refine wp_sub ?_ h
    exact ⟨rfl, ⟨rfl, ⟨rfl, ⟨rfl, ⟨rfl, ⟨rfl, ⟨rfl, trivial⟩⟩⟩⟩⟩⟩⟩
  · have h := h.2 hc
    refine wp_iconst (pc := 9) (v := (-1)) d_X12_because_9 rfl ?_
    exact wp_iret (pc := 10) d_X12_because_10 rfl h
theorem d_X12_isVar_0 : decode prog_14_method_58_code 0 = .ok (.aload_n 0, 1) := by decide +kernel
theorem d_X12_isVar_1 : decode prog_14_method_58_code 1 = .ok (.iload_n 1, 1) := by decide +kernel
theorem d_X12_isVar_2 : decode prog_14_method_58_code 2 = .ok (.invokevirtual 453, 3) := by decide +kernel
theorem d_X12_isVar_5 : decode prog_14_method_58_code 5 = .ok (.ifCond .eq 20, 3) := by decide +kernel
theorem d_X12_isVar_8 : decode prog_14_method_58_code 8 = .ok (.iload_n 2, 1) := by decide +kernel
theorem d_X12_isVar_9 : decode prog_14_method_58_code 9 = .ok (.ifCond .lt 16, 3) := by decide +kernel
theorem d_X12_isVar_12 : decode prog_14_method_58_code 12 = .ok (.iload_n 2, 1) := by decide +kernel
theorem d_X12_isVar_13 : decode prog_14_method_58_code 13 = .ok (.aload_n 0, 1) := by decide +kernel
theorem d_X12_isVar_14 : decode prog_14_method_58_code 14 = .ok (.iload_n 1, 1) := by decide +kernel
theorem d_X12_isVar_15 : decode prog_14_method_58_code 15 = .ok (.invokevirtual 456, 3) := by decide +kernel
theorem d_X12_isVar_18 : decode prog_14_method_58_code 18 = .ok (.if_icmp .ge 7, 3) := by decide +kernel
theorem d_X12_isVar_21 : decode prog_14_method_58_code 21 = .ok (.iconst 1, 1) := by decide +kernel
theorem d_X12_isVar_22 : decode prog_14_method_58_code 22 = .ok (.goto 4, 3) := by decide +kernel
theorem d_X12_isVar_25 : decode prog_14_method_58_code 25 = .ok (.iconst 0, 1) := by decide +kernel
theorem d_X12_isVar_26 : decode prog_14_method_58_code 26 = .ok (.ireturn, 1) := by decide +kernel
theorem v_X12_isVar_0 {E : EE} {d : Nat} {Q : Option AV → AH → Prop} {x0 : Nat} {x1 : Int32} {x2 : Int32} {G : AH} (h0 : 0 < d) (h : isO E G x0 12 ∧ (wpI E (d - 1) M_X12_isProblem [vr x0, vi x1] G (fun r1 G2 => (r1 = 0 → Q (some (vi 0)) G2) ∧ (¬ (r1 = 0) → (x2 < 0 → Q (some (vi 0)) G2) ∧ (¬ (x2 < 0) → isO E G2 x0 12 ∧ (wpI E (d - 1) M_X12_vars [vr x0, vi x1] G2 (fun r3 G4 => (r3 ≤ x2 → Q (some (vi 0)) G4) ∧ (¬ (r3 ≤ x2) → Q (some (vi 1)) G4)))))))) : wp E d M_X12_isVar 0 [some (vr x0), some (vi x1), some (vi x2)] [] G Q := by
  refine wp_aload_n (pc := 0) d_X12_isVar_0 rfl ?_
  refine wp_iload_n (pc := 1) d_X12_isVar_1 rfl ?_
  obtain ⟨ho6, h⟩ := h
  refine wp_invV (pc := 2) (N := M_X12_isProblem) (As := [vi _]) (rest := []) (r := (cn_12, ct_12, 95)) d_X12_isVar_2 ml_X12_453 mk_X12_isProblem mv_X12_isProblem h0 ho6 rfl rfl (Nat.le_of_ble_eq_true rfl) ?_
  refine wpM.mono h (fun rr G2 hr => ?_)
  obtain ⟨r1, rfl, h⟩ := hr
  show wp E d M_X12_isVar 5 [some (vr _), some (vi _), some (vi _)] [vi _] G2 Q
  refine wp_if_eq (pc := 5) (tgt := 25) d_X12_isVar_5 (by decide) (fun hc => ?_) (fun hc => ?_)
  · have h := h.1 hc
    refine wp_iconst (pc := 25) (v := 0) d_X12_isVar_25 rfl ?_
    exact wp_zret (pc := 26) d_X12_isVar_26 rfl rfl h
  · have h := h.2 hc
    refine wp_iload_n (pc := 8) d_X12_isVar_8 rfl ?_
    refine wp_if_lt (pc := 9) (tgt := 25) d_X12_isVar_9 (by decide) (fun hc => ?_) (fun hc => ?_)
    · have h := h.1 hc
      refine wp_iconst (pc := 25) (v := 0) d_X12_isVar_25 rfl ?_
      exact wp_zret (pc := 26) d_X12_isVar_26 rfl rfl h
    · have h := h.2 hc
      refine wp_iload_n (pc := 12) d_X12_isVar_12 rfl ?_
      refine wp_aload_n (pc := 13) d_X12_isVar_13 rfl ?_
      refine wp_iload_n (pc := 14) d_X12_isVar_14 rfl ?_
      obtain ⟨ho5, h⟩ := h
      refine wp_invV (pc := 15) (N := M_X12_vars) (As := [vi _]) (rest := [vi _]) (r := (cn_12, ct_12, 95)) d_X12_isVar_15 ml_X12_456 mk_X12_vars mv_X12_vars h0 ho5 rfl rfl (Nat.le_of_ble_eq_true rfl) ?_
      refine wpM.mono h (fun rr G4 hr => ?_)
      obtain ⟨r3, rfl, h⟩ := hr
      show wp E d M_X12_isVar 18 [some (vr _), some (vi _), some (vi _)] [vi _, vi _] G4 Q
      refine wp_icmp_ge (pc := 18) (tgt := 25) d_X12_isVar_18 (by decide) (fun hc => ?_) (fun hc => ?_)
      · have h := h.1 hc
        refine wp_iconst (pc := 25) (v := 0) d_X12_isVar_25 rfl ?_
        exact wp_zret (pc := 26) d_X12_isVar_26 rfl rfl h
      · have h := h.2 hc
        refine wp_iconst (pc := 21) (v := 1) d_X12_isVar_21 rfl ?_
        refine wp_goto (pc := 22) (tgt := 26) d_X12_isVar_22 (by decide) ?_
        exact wp_zret (pc := 26) d_X12_isVar_26 rfl rfl h
theorem d_X12_whyNot_0 : decode prog_14_method_142_code 0 = .ok (.aload_n 0, 1) := by decide +kernel
theorem d_X12_whyNot_1 : decode prog_14_method_142_code 1 = .ok (.iload_n 1, 1) := by decide +kernel
theorem d_X12_whyNot_2 : decode prog_14_method_142_code 2 = .ok (.iload_n 2, 1) := by decide +kernel
theorem d_X12_whyNot_3 : decode prog_14_method_142_code 3 = .ok (.invokevirtual 462, 3) := by decide +kernel
theorem d_X12_whyNot_6 : decode prog_14_method_142_code 6 = .ok (.ifCond .eq 11, 3) := by decide +kernel
theorem d_X12_whyNot_9 : decode prog_14_method_142_code 9 = .ok (.iload 4, 2) := by decide +kernel
theorem d_X12_whyNot_11 : decode prog_14_method_142_code 11 = .ok (.invokestatic 583, 3) := by decide +kernel
theorem d_X12_whyNot_14 : decode prog_14_method_142_code 14 = .ok (.ifCond .ne 7, 3) := by decide +kernel
theorem d_X12_whyNot_17 : decode prog_14_method_142_code 17 = .ok (.ldc2_w 466, 3) := by decide +kernel
theorem d_X12_whyNot_20 : decode prog_14_method_142_code 20 = .ok (.lreturn, 1) := by decide +kernel
theorem d_X12_whyNot_21 : decode prog_14_method_142_code 21 = .ok (.aload_n 0, 1) := by decide +kernel
theorem d_X12_whyNot_22 : decode prog_14_method_142_code 22 = .ok (.iload_n 1, 1) := by decide +kernel
theorem d_X12_whyNot_23 : decode prog_14_method_142_code 23 = .ok (.invokevirtual 571, 3) := by decide +kernel
theorem d_X12_whyNot_26 : decode prog_14_method_142_code 26 = .ok (.aload_n 0, 1) := by decide +kernel
theorem d_X12_whyNot_27 : decode prog_14_method_142_code 27 = .ok (.iload_n 1, 1) := by decide +kernel
theorem d_X12_whyNot_28 : decode prog_14_method_142_code 28 = .ok (.iload_n 2, 1) := by decide +kernel
theorem d_X12_whyNot_29 : decode prog_14_method_142_code 29 = .ok (.iload_n 3, 1) := by decide +kernel
theorem d_X12_whyNot_30 : decode prog_14_method_142_code 30 = .ok (.invokevirtual 643, 3) := by decide +kernel
theorem d_X12_whyNot_33 : decode prog_14_method_142_code 33 = .ok (.istore 5, 2) := by decide +kernel
theorem d_X12_whyNot_35 : decode prog_14_method_142_code 35 = .ok (.iload 5, 2) := by decide +kernel
theorem d_X12_whyNot_37 : decode prog_14_method_142_code 37 = .ok (.ifCond .ge 9, 3) := by decide +kernel
theorem d_X12_whyNot_40 : decode prog_14_method_142_code 40 = .ok (.ldc2_w 466, 3) := by decide +kernel
theorem d_X12_whyNot_43 : decode prog_14_method_142_code 43 = .ok (.goto 17, 3) := by decide +kernel
theorem d_X12_whyNot_46 : decode prog_14_method_142_code 46 = .ok (.aload_n 0, 1) := by decide +kernel
theorem d_X12_whyNot_47 : decode prog_14_method_142_code 47 = .ok (.getfield 159, 3) := by decide +kernel
theorem d_X12_whyNot_50 : decode prog_14_method_142_code 50 = .ok (.sipush 20000, 3) := by decide +kernel
theorem d_X12_whyNot_53 : decode prog_14_method_142_code 53 = .ok (.iload 4, 2) := by decide +kernel
theorem d_X12_whyNot_55 : decode prog_14_method_142_code 55 = .ok (.imul, 1) := by decide +kernel
theorem d_X12_whyNot_56 : decode prog_14_method_142_code 56 = .ok (.iload 5, 2) := by decide +kernel
theorem d_X12_whyNot_58 : decode prog_14_method_142_code 58 = .ok (.iadd, 1) := by decide +kernel
theorem d_X12_whyNot_59 : decode prog_14_method_142_code 59 = .ok (.laload, 1) := by decide +kernel
theorem d_X12_whyNot_60 : decode prog_14_method_142_code 60 = .ok (.lreturn, 1) := by decide +kernel
theorem v_X12_whyNot_0 {E : EE} {d : Nat} {Q : Option AV → AH → Prop} {x0 : Nat} {x1 : Int32} {x2 : Int32} {x3 : Int32} {x4 : Int32} {G : AH} (h0 : 0 < d) (h : isO E G x0 12 ∧ (wpI E (d - 1) M_X12_isVar [vr x0, vi x1, vi x2] G (fun r1 G2 => (r1 = 0 → Q (some (vj (-9223372036854775808))) G2) ∧ (¬ (r1 = 0) → wpI E (d - 1) M_X12_isLevel [vi x4] G2 (fun r3 G4 => (¬ r3 = 0 → isO E G4 x0 12 ∧ (wpV E (d - 1) M_X12_know [vr x0, vi x1] G4 (fun G5 => isO E G5 x0 12 ∧ (wpI E (d - 1) M_X12_bestWith [vr x0, vi x1, vi x2, vi x3] G5 (fun r6 G7 => (0 ≤ r6 → isO E G7 x0 12 ∧ (isO E G7 (gR G7 x0 66) 15 ∧ (vp_in ((20000 * x4) + r6) (gN G7 (gR G7 x0 66)) ∧ (Q (some (vj (gJ G7 (gR G7 x0 66) (Int32.toNatClampNeg ((20000 * x4) + r6))))) G7)))) ∧ (¬ (0 ≤ r6) → Q (some (vj (-9223372036854775808))) G7)))))) ∧ (r3 = 0 → Q (some (vj (-9223372036854775808))) G4)))))) : wp E d M_X12_whyNot 0 [some (vr x0), some (vi x1), some (vi x2), some (vi x3), some (vi x4), none] [] G Q := by
  refine wp_aload_n (pc := 0) d_X12_whyNot_0 rfl ?_
  refine wp_iload_n (pc := 1) d_X12_whyNot_1 rfl ?_
  refine wp_iload_n (pc := 2) d_X12_whyNot_2 rfl ?_
  obtain ⟨ho13, h⟩ := h
  refine wp_invV (pc := 3) (N := M_X12_isVar) (As := [vi _, vi _]) (rest := []) (r := (cn_12, ct_12, 95)) d_X12_whyNot_3 ml_X12_462 mk_X12_isVar mv_X12_isVar h0 ho13 rfl rfl (Nat.le_of_ble_eq_true rfl) ?_
  refine wpM.mono h (fun rr G2 hr => ?_)
  obtain ⟨r1, rfl, h⟩ := hr
  show wp E d M_X12_whyNot 6 [some (vr _), some (vi _), some (vi _), some (vi _), some (vi _), none] [vi _] G2 Q
  refine wp_if_eq (pc := 6) (tgt := 17) d_X12_whyNot_6 (by decide) (fun hc => ?_) (fun hc => ?_)
  · have h := h.1 hc
    refine wp_ldc2 (pc := 17) (v := (-9223372036854775808)) d_X12_whyNot_17 cj_X12_466 ?_
    exact wp_lret (pc := 20) d_X12_whyNot_20 rfl h
  · have h := h.2 hc
    refine wp_iload (pc := 9) d_X12_whyNot_9 rfl ?_
    refine wp_invS (pc := 11) (N := M_X12_isLevel) (As := [vi _]) (rest := []) d_X12_whyNot_11 ml_X12_583 mk_X12_isLevel ms_X12_isLevel h0 (Nat.le_of_ble_eq_true rfl) ?_
    refine wpM.mono h (fun rr G4 hr => ?_)
    obtain ⟨r3, rfl, h⟩ := hr
    show wp E d M_X12_whyNot 14 [some (vr _), some (vi _), some (vi _), some (vi _), some (vi _), none] [vi _] G4 Q
    refine wp_if_ne (pc := 14) (tgt := 21) d_X12_whyNot_14 (by decide) (fun hc => ?_) (fun hc => ?_)
    · have h := h.1 hc
      refine wp_aload_n (pc := 21) d_X12_whyNot_21 rfl ?_
      refine wp_iload_n (pc := 22) d_X12_whyNot_22 rfl ?_
      obtain ⟨ho12, h⟩ := h
      refine wp_invV (pc := 23) (N := M_X12_know) (As := [vi _]) (rest := []) (r := (cn_12, ct_12, 95)) d_X12_whyNot_23 ml_X12_571 mk_X12_know mv_X12_know h0 ho12 rfl rfl (Nat.le_of_ble_eq_true rfl) ?_
      refine wpM.mono h (fun rr G5 hr => ?_)
      obtain ⟨rfl, h⟩ := hr
      show wp E d M_X12_whyNot 26 [some (vr _), some (vi _), some (vi _), some (vi _), some (vi _), none] [] G5 Q
      refine wp_aload_n (pc := 26) d_X12_whyNot_26 rfl ?_
      refine wp_iload_n (pc := 27) d_X12_whyNot_27 rfl ?_
      refine wp_iload_n (pc := 28) d_X12_whyNot_28 rfl ?_
      refine wp_iload_n (pc := 29) d_X12_whyNot_29 rfl ?_
      obtain ⟨ho11, h⟩ := h
      refine wp_invV (pc := 30) (N := M_X12_bestWith) (As := [vi _, vi _, vi _]) (rest := []) (r := (cn_12, ct_12, 95)) d_X12_whyNot_30 ml_X12_643 mk_X12_bestWith mv_X12_bestWith h0 ho11 rfl rfl (Nat.le_of_ble_eq_true rfl) ?_
      refine wpM.mono h (fun rr G7 hr => ?_)
      obtain ⟨r6, rfl, h⟩ := hr
      show wp E d M_X12_whyNot 33 [some (vr _), some (vi _), some (vi _), some (vi _), some (vi _), none] [vi _] G7 Q
      refine wp_istore (pc := 33) (lv' := [some (vr _), some (vi _), some (vi _), some (vi _), some (vi _), some (vi _)]) d_X12_whyNot_33 (by decide) rfl ?_
      refine wp_iload (pc := 35) d_X12_whyNot_35 rfl ?_
      refine wp_if_ge (pc := 37) (tgt := 46) d_X12_whyNot_37 (by decide) (fun hc => ?_) (fun hc => ?_)
      · have h := h.1 hc
        refine wp_aload_n (pc := 46) d_X12_whyNot_46 rfl ?_
        obtain ⟨ho8, h⟩ := h
        refine wp_getR (pc := 47) d_X12_whyNot_47 fl_X12_159 (fun _ _ _ => rfl) ho8 ?_
        refine wp_sipush (pc := 50) (v := 20000) d_X12_whyNot_50 rfl ?_
        refine wp_iload (pc := 53) d_X12_whyNot_53 rfl ?_
        refine wp_imul (pc := 55) d_X12_whyNot_55 ?_
        refine wp_iload (pc := 56) d_X12_whyNot_56 rfl ?_
        refine wp_iadd (pc := 58) d_X12_whyNot_58 ?_
        obtain ⟨ho9, h⟩ := h
        obtain ⟨hi10, h⟩ := h
        refine wp_lald (pc := 59) d_X12_whyNot_59 ho9 hi10 ?_
        exact wp_lret (pc := 60) d_X12_whyNot_60 rfl h
      · have h := h.2 hc
        refine wp_ldc2 (pc := 40) (v := (-9223372036854775808)) d_X12_whyNot_40 cj_X12_466 ?_
        refine wp_goto (pc := 43) (tgt := 60) d_X12_whyNot_43 (by decide) ?_
        exact wp_lret (pc := 60) d_X12_whyNot_60 rfl h
    · have h := h.2 hc
      refine wp_ldc2 (pc := 17) (v := (-9223372036854775808)) d_X12_whyNot_17 cj_X12_466 ?_
      exact wp_lret (pc := 20) d_X12_whyNot_20 rfl h
theorem d_X12_without_0 : decode prog_14_method_140_code 0 = .ok (.aload_n 0, 1) := by decide +kernel
theorem d_X12_without_1 : decode prog_14_method_140_code 1 = .ok (.iload_n 1, 1) := by decide +kernel
theorem d_X12_without_2 : decode prog_14_method_140_code 2 = .ok (.iload_n 2, 1) := by decide +kernel
theorem d_X12_without_3 : decode prog_14_method_140_code 3 = .ok (.invokevirtual 568, 3) := by decide +kernel
theorem d_X12_without_6 : decode prog_14_method_140_code 6 = .ok (.ifCond .eq 10, 3) := by decide +kernel
theorem d_X12_without_9 : decode prog_14_method_140_code 9 = .ok (.iload_n 3, 1) := by decide +kernel
theorem d_X12_without_10 : decode prog_14_method_140_code 10 = .ok (.invokestatic 583, 3) := by decide +kernel
theorem d_X12_without_13 : decode prog_14_method_140_code 13 = .ok (.ifCond .ne 7, 3) := by decide +kernel
theorem d_X12_without_16 : decode prog_14_method_140_code 16 = .ok (.ldc2_w 466, 3) := by decide +kernel
theorem d_X12_without_19 : decode prog_14_method_140_code 19 = .ok (.lreturn, 1) := by decide +kernel
theorem d_X12_without_20 : decode prog_14_method_140_code 20 = .ok (.aload_n 0, 1) := by decide +kernel
theorem d_X12_without_21 : decode prog_14_method_140_code 21 = .ok (.iload_n 1, 1) := by decide +kernel
theorem d_X12_without_22 : decode prog_14_method_140_code 22 = .ok (.invokevirtual 571, 3) := by decide +kernel
theorem d_X12_without_25 : decode prog_14_method_140_code 25 = .ok (.aload_n 0, 1) := by decide +kernel
theorem d_X12_without_26 : decode prog_14_method_140_code 26 = .ok (.getfield 88, 3) := by decide +kernel
theorem d_X12_without_29 : decode prog_14_method_140_code 29 = .ok (.bipush 24, 2) := by decide +kernel
theorem d_X12_without_31 : decode prog_14_method_140_code 31 = .ok (.iload_n 1, 1) := by decide +kernel
theorem d_X12_without_32 : decode prog_14_method_140_code 32 = .ok (.imul, 1) := by decide +kernel
theorem d_X12_without_33 : decode prog_14_method_140_code 33 = .ok (.iload_n 2, 1) := by decide +kernel
theorem d_X12_without_34 : decode prog_14_method_140_code 34 = .ok (.iadd, 1) := by decide +kernel
theorem d_X12_without_35 : decode prog_14_method_140_code 35 = .ok (.iaload, 1) := by decide +kernel
theorem d_X12_without_36 : decode prog_14_method_140_code 36 = .ok (.istore 4, 2) := by decide +kernel
theorem d_X12_without_38 : decode prog_14_method_140_code 38 = .ok (.iconst 0, 1) := by decide +kernel
theorem d_X12_without_39 : decode prog_14_method_140_code 39 = .ok (.istore 5, 2) := by decide +kernel
theorem v_X12_without_0 {E : EE} {d : Nat} {Q : Option AV → AH → Prop} {x0 : Nat} {x1 : Int32} {x2 : Int32} {x3 : Int32} {G : AH} (h0 : 0 < d) (h : isO E G x0 12 ∧ (wpI E (d - 1) M_X12_isRule [vr x0, vi x1, vi x2] G (fun r1 G2 => (r1 = 0 → Q (some (vj (-9223372036854775808))) G2) ∧ (¬ (r1 = 0) → wpI E (d - 1) M_X12_isLevel [vi x3] G2 (fun r3 G4 => (¬ r3 = 0 → isO E G4 x0 12 ∧ (wpV E (d - 1) M_X12_know [vr x0, vi x1] G4 (fun G5 => isO E G5 x0 12 ∧ (isO E G5 (gR G5 x0 27) 14 ∧ (vp_in ((24 * x1) + x2) (gN G5 (gR G5 x0 27)) ∧ (wp E d M_X12_without 41 [some (vr x0), some (vi x1), some (vi x2), some (vi x3), some (vi (gI G5 (gR G5 x0 27) (Int32.toNatClampNeg ((24 * x1) + x2)))), some (vi 0), none, none, none] [] G5 Q)))))) ∧ (r3 = 0 → Q (some (vj (-9223372036854775808))) G4)))))) : wp E d M_X12_without 0 [some (vr x0), some (vi x1), some (vi x2), some (vi x3), none, none, none, none, none] [] G Q := by
  refine wp_aload_n (pc := 0) d_X12_without_0 rfl ?_
  refine wp_iload_n (pc := 1) d_X12_without_1 rfl ?_
  refine wp_iload_n (pc := 2) d_X12_without_2 rfl ?_
  obtain ⟨ho10, h⟩ := h
  refine wp_invV (pc := 3) (N := M_X12_isRule) (As := [vi _, vi _]) (rest := []) (r := (cn_12, ct_12, 95)) d_X12_without_3 ml_X12_568 mk_X12_isRule mv_X12_isRule h0 ho10 rfl rfl (Nat.le_of_ble_eq_true rfl) ?_
  refine wpM.mono h (fun rr G2 hr => ?_)
  obtain ⟨r1, rfl, h⟩ := hr
  show wp E d M_X12_without 6 [some (vr _), some (vi _), some (vi _), some (vi _), none, none, none, none, none] [vi _] G2 Q
  refine wp_if_eq (pc := 6) (tgt := 16) d_X12_without_6 (by decide) (fun hc => ?_) (fun hc => ?_)
  · have h := h.1 hc
    refine wp_ldc2 (pc := 16) (v := (-9223372036854775808)) d_X12_without_16 cj_X12_466 ?_
    exact wp_lret (pc := 19) d_X12_without_19 rfl h
  · have h := h.2 hc
    refine wp_iload_n (pc := 9) d_X12_without_9 rfl ?_
    refine wp_invS (pc := 10) (N := M_X12_isLevel) (As := [vi _]) (rest := []) d_X12_without_10 ml_X12_583 mk_X12_isLevel ms_X12_isLevel h0 (Nat.le_of_ble_eq_true rfl) ?_
    refine wpM.mono h (fun rr G4 hr => ?_)
    obtain ⟨r3, rfl, h⟩ := hr
    show wp E d M_X12_without 13 [some (vr _), some (vi _), some (vi _), some (vi _), none, none, none, none, none] [vi _] G4 Q
    refine wp_if_ne (pc := 13) (tgt := 20) d_X12_without_13 (by decide) (fun hc => ?_) (fun hc => ?_)
    · have h := h.1 hc
      refine wp_aload_n (pc := 20) d_X12_without_20 rfl ?_
      refine wp_iload_n (pc := 21) d_X12_without_21 rfl ?_
      obtain ⟨ho9, h⟩ := h
      refine wp_invV (pc := 22) (N := M_X12_know) (As := [vi _]) (rest := []) (r := (cn_12, ct_12, 95)) d_X12_without_22 ml_X12_571 mk_X12_know mv_X12_know h0 ho9 rfl rfl (Nat.le_of_ble_eq_true rfl) ?_
      refine wpM.mono h (fun rr G5 hr => ?_)
      obtain ⟨rfl, h⟩ := hr
      show wp E d M_X12_without 25 [some (vr _), some (vi _), some (vi _), some (vi _), none, none, none, none, none] [] G5 Q
      refine wp_aload_n (pc := 25) d_X12_without_25 rfl ?_
      obtain ⟨ho6, h⟩ := h
      refine wp_getR (pc := 26) d_X12_without_26 fl_X12_88 (fun _ _ _ => rfl) ho6 ?_
      refine wp_bipush (pc := 29) (v := 24) d_X12_without_29 rfl ?_
      refine wp_iload_n (pc := 31) d_X12_without_31 rfl ?_
      refine wp_imul (pc := 32) d_X12_without_32 ?_
      refine wp_iload_n (pc := 33) d_X12_without_33 rfl ?_
      refine wp_iadd (pc := 34) d_X12_without_34 ?_
      obtain ⟨ho7, h⟩ := h
      obtain ⟨hi8, h⟩ := h
      refine wp_iald (pc := 35) d_X12_without_35 ho7 hi8 ?_
      refine wp_istore (pc := 36) (lv' := [some (vr _), some (vi _), some (vi _), some (vi _), some (vi _), none, none, none, none]) d_X12_without_36 (by decide) rfl ?_
      refine wp_iconst (pc := 38) (v := 0) d_X12_without_38 rfl ?_
      refine wp_istore (pc := 39) (lv' := [some (vr _), some (vi _), some (vi _), some (vi _), some (vi _), some (vi _), none, none, none]) d_X12_without_39 (by decide) rfl ?_
      refine wp_sub ?_ h
      exact ⟨rfl, ⟨rfl, ⟨rfl, ⟨rfl, ⟨rfl, ⟨rfl, trivial⟩⟩⟩⟩⟩⟩
    · have h := h.2 hc
      refine wp_ldc2 (pc := 16) (v := (-9223372036854775808)) d_X12_without_16 cj_X12_466 ?_
      exact wp_lret (pc := 19) d_X12_without_19 rfl h
theorem d_X12_isRule_0 : decode prog_14_method_59_code 0 = .ok (.aload_n 0, 1) := by decide +kernel
theorem d_X12_isRule_1 : decode prog_14_method_59_code 1 = .ok (.iload_n 1, 1) := by decide +kernel
theorem d_X12_isRule_2 : decode prog_14_method_59_code 2 = .ok (.invokevirtual 453, 3) := by decide +kernel
theorem d_X12_isRule_5 : decode prog_14_method_59_code 5 = .ok (.ifCond .eq 20, 3) := by decide +kernel
theorem d_X12_isRule_8 : decode prog_14_method_59_code 8 = .ok (.iload_n 2, 1) := by decide +kernel
theorem d_X12_isRule_9 : decode prog_14_method_59_code 9 = .ok (.ifCond .lt 16, 3) := by decide +kernel
theorem d_X12_isRule_12 : decode prog_14_method_59_code 12 = .ok (.iload_n 2, 1) := by decide +kernel
theorem d_X12_isRule_13 : decode prog_14_method_59_code 13 = .ok (.aload_n 0, 1) := by decide +kernel
theorem d_X12_isRule_14 : decode prog_14_method_59_code 14 = .ok (.iload_n 1, 1) := by decide +kernel
theorem d_X12_isRule_15 : decode prog_14_method_59_code 15 = .ok (.invokevirtual 459, 3) := by decide +kernel
theorem d_X12_isRule_18 : decode prog_14_method_59_code 18 = .ok (.if_icmp .ge 7, 3) := by decide +kernel
theorem d_X12_isRule_21 : decode prog_14_method_59_code 21 = .ok (.iconst 1, 1) := by decide +kernel
theorem d_X12_isRule_22 : decode prog_14_method_59_code 22 = .ok (.goto 4, 3) := by decide +kernel
theorem d_X12_isRule_25 : decode prog_14_method_59_code 25 = .ok (.iconst 0, 1) := by decide +kernel
theorem d_X12_isRule_26 : decode prog_14_method_59_code 26 = .ok (.ireturn, 1) := by decide +kernel
theorem v_X12_isRule_0 {E : EE} {d : Nat} {Q : Option AV → AH → Prop} {x0 : Nat} {x1 : Int32} {x2 : Int32} {G : AH} (h0 : 0 < d) (h : isO E G x0 12 ∧ (wpI E (d - 1) M_X12_isProblem [vr x0, vi x1] G (fun r1 G2 => (r1 = 0 → Q (some (vi 0)) G2) ∧ (¬ (r1 = 0) → (x2 < 0 → Q (some (vi 0)) G2) ∧ (¬ (x2 < 0) → isO E G2 x0 12 ∧ (wpI E (d - 1) M_X12_rulesOf [vr x0, vi x1] G2 (fun r3 G4 => (r3 ≤ x2 → Q (some (vi 0)) G4) ∧ (¬ (r3 ≤ x2) → Q (some (vi 1)) G4)))))))) : wp E d M_X12_isRule 0 [some (vr x0), some (vi x1), some (vi x2)] [] G Q := by
  refine wp_aload_n (pc := 0) d_X12_isRule_0 rfl ?_
  refine wp_iload_n (pc := 1) d_X12_isRule_1 rfl ?_
  obtain ⟨ho6, h⟩ := h
  refine wp_invV (pc := 2) (N := M_X12_isProblem) (As := [vi _]) (rest := []) (r := (cn_12, ct_12, 95)) d_X12_isRule_2 ml_X12_453 mk_X12_isProblem mv_X12_isProblem h0 ho6 rfl rfl (Nat.le_of_ble_eq_true rfl) ?_
  refine wpM.mono h (fun rr G2 hr => ?_)
  obtain ⟨r1, rfl, h⟩ := hr
  show wp E d M_X12_isRule 5 [some (vr _), some (vi _), some (vi _)] [vi _] G2 Q
  refine wp_if_eq (pc := 5) (tgt := 25) d_X12_isRule_5 (by decide) (fun hc => ?_) (fun hc => ?_)
  · have h := h.1 hc
    refine wp_iconst (pc := 25) (v := 0) d_X12_isRule_25 rfl ?_
    exact wp_zret (pc := 26) d_X12_isRule_26 rfl rfl h
  · have h := h.2 hc
    refine wp_iload_n (pc := 8) d_X12_isRule_8 rfl ?_
    refine wp_if_lt (pc := 9) (tgt := 25) d_X12_isRule_9 (by decide) (fun hc => ?_) (fun hc => ?_)
    · have h := h.1 hc
      refine wp_iconst (pc := 25) (v := 0) d_X12_isRule_25 rfl ?_
      exact wp_zret (pc := 26) d_X12_isRule_26 rfl rfl h
    · have h := h.2 hc
      refine wp_iload_n (pc := 12) d_X12_isRule_12 rfl ?_
      refine wp_aload_n (pc := 13) d_X12_isRule_13 rfl ?_
      refine wp_iload_n (pc := 14) d_X12_isRule_14 rfl ?_
      obtain ⟨ho5, h⟩ := h
      refine wp_invV (pc := 15) (N := M_X12_rulesOf) (As := [vi _]) (rest := [vi _]) (r := (cn_12, ct_12, 95)) d_X12_isRule_15 ml_X12_459 mk_X12_rulesOf mv_X12_rulesOf h0 ho5 rfl rfl (Nat.le_of_ble_eq_true rfl) ?_
      refine wpM.mono h (fun rr G4 hr => ?_)
      obtain ⟨r3, rfl, h⟩ := hr
      show wp E d M_X12_isRule 18 [some (vr _), some (vi _), some (vi _)] [vi _, vi _] G4 Q
      refine wp_icmp_ge (pc := 18) (tgt := 25) d_X12_isRule_18 (by decide) (fun hc => ?_) (fun hc => ?_)
      · have h := h.1 hc
        refine wp_iconst (pc := 25) (v := 0) d_X12_isRule_25 rfl ?_
        exact wp_zret (pc := 26) d_X12_isRule_26 rfl rfl h
      · have h := h.2 hc
        refine wp_iconst (pc := 21) (v := 1) d_X12_isRule_21 rfl ?_
        refine wp_goto (pc := 22) (tgt := 26) d_X12_isRule_22 (by decide) ?_
        exact wp_zret (pc := 26) d_X12_isRule_26 rfl rfl h
theorem d_X12_relax_0 : decode prog_14_method_139_code 0 = .ok (.aload_n 0, 1) := by decide +kernel
theorem d_X12_relax_1 : decode prog_14_method_139_code 1 = .ok (.iload_n 1, 1) := by decide +kernel
theorem d_X12_relax_2 : decode prog_14_method_139_code 2 = .ok (.invokevirtual 453, 3) := by decide +kernel
theorem d_X12_relax_5 : decode prog_14_method_139_code 5 = .ok (.ifCond .ne 5, 3) := by decide +kernel
theorem d_X12_relax_8 : decode prog_14_method_139_code 8 = .ok (.iconst (-1), 1) := by decide +kernel
theorem d_X12_relax_9 : decode prog_14_method_139_code 9 = .ok (.ireturn, 1) := by decide +kernel
theorem d_X12_relax_10 : decode prog_14_method_139_code 10 = .ok (.aload_n 0, 1) := by decide +kernel
theorem d_X12_relax_11 : decode prog_14_method_139_code 11 = .ok (.iload_n 1, 1) := by decide +kernel
theorem d_X12_relax_12 : decode prog_14_method_139_code 12 = .ok (.invokevirtual 631, 3) := by decide +kernel
theorem d_X12_relax_15 : decode prog_14_method_139_code 15 = .ok (.iconst (-1), 1) := by decide +kernel
theorem d_X12_relax_16 : decode prog_14_method_139_code 16 = .ok (.istore_n 2, 1) := by decide +kernel
theorem d_X12_relax_17 : decode prog_14_method_139_code 17 = .ok (.iconst 0, 1) := by decide +kernel
theorem d_X12_relax_18 : decode prog_14_method_139_code 18 = .ok (.istore_n 3, 1) := by decide +kernel
theorem d_X12_relax_19 : decode prog_14_method_139_code 19 = .ok (.iconst 0, 1) := by decide +kernel
theorem d_X12_relax_20 : decode prog_14_method_139_code 20 = .ok (.istore 4, 2) := by decide +kernel
theorem v_X12_relax_0 {E : EE} {d : Nat} {Q : Option AV → AH → Prop} {x0 : Nat} {x1 : Int32} {G : AH} (h0 : 0 < d) (h : isO E G x0 12 ∧ (wpI E (d - 1) M_X12_isProblem [vr x0, vi x1] G (fun r1 G2 => (¬ r1 = 0 → isO E G2 x0 12 ∧ (wpV E (d - 1) M_X12_findMasks [vr x0, vi x1] G2 (fun G3 => wp E d M_X12_relax 22 [some (vr x0), some (vi x1), some (vi (-1)), some (vi 0), some (vi 0), none, none] [] G3 Q))) ∧ (r1 = 0 → Q (some (vi (-1))) G2)))) : wp E d M_X12_relax 0 [some (vr x0), some (vi x1), none, none, none, none, none] [] G Q := by
  refine wp_aload_n (pc := 0) d_X12_relax_0 rfl ?_
  refine wp_iload_n (pc := 1) d_X12_relax_1 rfl ?_
  obtain ⟨ho5, h⟩ := h
  refine wp_invV (pc := 2) (N := M_X12_isProblem) (As := [vi _]) (rest := []) (r := (cn_12, ct_12, 95)) d_X12_relax_2 ml_X12_453 mk_X12_isProblem mv_X12_isProblem h0 ho5 rfl rfl (Nat.le_of_ble_eq_true rfl) ?_
  refine wpM.mono h (fun rr G2 hr => ?_)
  obtain ⟨r1, rfl, h⟩ := hr
  show wp E d M_X12_relax 5 [some (vr _), some (vi _), none, none, none, none, none] [vi _] G2 Q
  refine wp_if_ne (pc := 5) (tgt := 10) d_X12_relax_5 (by decide) (fun hc => ?_) (fun hc => ?_)
  · have h := h.1 hc
    refine wp_aload_n (pc := 10) d_X12_relax_10 rfl ?_
    refine wp_iload_n (pc := 11) d_X12_relax_11 rfl ?_
    obtain ⟨ho4, h⟩ := h
    refine wp_invV (pc := 12) (N := M_X12_findMasks) (As := [vi _]) (rest := []) (r := (cn_12, ct_12, 95)) d_X12_relax_12 ml_X12_631 mk_X12_findMasks mv_X12_findMasks h0 ho4 rfl rfl (Nat.le_of_ble_eq_true rfl) ?_
    refine wpM.mono h (fun rr G3 hr => ?_)
    obtain ⟨rfl, h⟩ := hr
    show wp E d M_X12_relax 15 [some (vr _), some (vi _), none, none, none, none, none] [] G3 Q
    refine wp_iconst (pc := 15) (v := (-1)) d_X12_relax_15 rfl ?_
    refine wp_istore_n (pc := 16) (lv' := [some (vr _), some (vi _), some (vi _), none, none, none, none]) d_X12_relax_16 (by decide) rfl ?_
    refine wp_iconst (pc := 17) (v := 0) d_X12_relax_17 rfl ?_
    refine wp_istore_n (pc := 18) (lv' := [some (vr _), some (vi _), some (vi _), some (vi _), none, none, none]) d_X12_relax_18 (by decide) rfl ?_
    refine wp_iconst (pc := 19) (v := 0) d_X12_relax_19 rfl ?_
    refine wp_istore (pc := 20) (lv' := [some (vr _), some (vi _), some (vi _), some (vi _), some (vi _), none, none]) d_X12_relax_20 (by decide) rfl ?_
    refine wp_sub ?_ h
    exact ⟨rfl, ⟨rfl, ⟨rfl, ⟨rfl, ⟨rfl, trivial⟩⟩⟩⟩⟩
  · have h := h.2 hc
    refine wp_iconst (pc := 8) (v := (-1)) d_X12_relax_8 rfl ?_
    exact wp_iret (pc := 9) d_X12_relax_9 rfl h
