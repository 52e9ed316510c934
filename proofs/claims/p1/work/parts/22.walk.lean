theorem d_X12_take_0 : decode prog_14_method_182_code 0 = .ok (.aload_n 0, 1) := by decide +kernel
theorem d_X12_take_1 : decode prog_14_method_182_code 1 = .ok (.getfield 9, 3) := by decide +kernel
theorem d_X12_take_4 : decode prog_14_method_182_code 4 = .ok (.iconst 0, 1) := by decide +kernel
theorem d_X12_take_5 : decode prog_14_method_182_code 5 = .ok (.iconst 0, 1) := by decide +kernel
theorem d_X12_take_6 : decode prog_14_method_182_code 6 = .ok (.bastore, 1) := by decide +kernel
theorem d_X12_take_7 : decode prog_14_method_182_code 7 = .ok (.aload_n 0, 1) := by decide +kernel
theorem d_X12_take_8 : decode prog_14_method_182_code 8 = .ok (.getfield 9, 3) := by decide +kernel
theorem d_X12_take_11 : decode prog_14_method_182_code 11 = .ok (.iconst 1, 1) := by decide +kernel
theorem d_X12_take_12 : decode prog_14_method_182_code 12 = .ok (.aload_n 0, 1) := by decide +kernel
theorem d_X12_take_13 : decode prog_14_method_182_code 13 = .ok (.getfield 713, 3) := by decide +kernel
theorem d_X12_take_16 : decode prog_14_method_182_code 16 = .ok (.i2b, 1) := by decide +kernel
theorem d_X12_take_17 : decode prog_14_method_182_code 17 = .ok (.bastore, 1) := by decide +kernel
theorem d_X12_take_18 : decode prog_14_method_182_code 18 = .ok (.iconst 0, 1) := by decide +kernel
theorem d_X12_take_19 : decode prog_14_method_182_code 19 = .ok (.istore_n 1, 1) := by decide +kernel
theorem d_X12_take_20 : decode prog_14_method_182_code 20 = .ok (.iload_n 1, 1) := by decide +kernel
theorem d_X12_take_21 : decode prog_14_method_182_code 21 = .ok (.aload_n 0, 1) := by decide +kernel
theorem d_X12_take_22 : decode prog_14_method_182_code 22 = .ok (.getfield 708, 3) := by decide +kernel
theorem d_X12_take_25 : decode prog_14_method_182_code 25 = .ok (.if_icmp .ge 23, 3) := by decide +kernel
theorem d_X12_take_28 : decode prog_14_method_182_code 28 = .ok (.aload_n 0, 1) := by decide +kernel
theorem d_X12_take_29 : decode prog_14_method_182_code 29 = .ok (.getfield 9, 3) := by decide +kernel
theorem d_X12_take_32 : decode prog_14_method_182_code 32 = .ok (.iconst 2, 1) := by decide +kernel
theorem d_X12_take_33 : decode prog_14_method_182_code 33 = .ok (.iload_n 1, 1) := by decide +kernel
theorem d_X12_take_34 : decode prog_14_method_182_code 34 = .ok (.iadd, 1) := by decide +kernel
theorem d_X12_take_35 : decode prog_14_method_182_code 35 = .ok (.aload_n 0, 1) := by decide +kernel
theorem d_X12_take_36 : decode prog_14_method_182_code 36 = .ok (.getfield 205, 3) := by decide +kernel
theorem d_X12_take_39 : decode prog_14_method_182_code 39 = .ok (.iload_n 1, 1) := by decide +kernel
theorem d_X12_take_40 : decode prog_14_method_182_code 40 = .ok (.baload, 1) := by decide +kernel
theorem d_X12_take_41 : decode prog_14_method_182_code 41 = .ok (.bastore, 1) := by decide +kernel
theorem d_X12_take_42 : decode prog_14_method_182_code 42 = .ok (.iinc 1 1, 3) := by decide +kernel
theorem d_X12_take_45 : decode prog_14_method_182_code 45 = .ok (.goto (-25), 3) := by decide +kernel
theorem d_X12_take_48 : decode prog_14_method_182_code 48 = .ok (.aload_n 0, 1) := by decide +kernel
theorem d_X12_take_49 : decode prog_14_method_182_code 49 = .ok (.iconst 2, 1) := by decide +kernel
theorem d_X12_take_50 : decode prog_14_method_182_code 50 = .ok (.aload_n 0, 1) := by decide +kernel
theorem d_X12_take_51 : decode prog_14_method_182_code 51 = .ok (.getfield 708, 3) := by decide +kernel
theorem d_X12_take_54 : decode prog_14_method_182_code 54 = .ok (.iadd, 1) := by decide +kernel
theorem d_X12_take_55 : decode prog_14_method_182_code 55 = .ok (.putfield 217, 3) := by decide +kernel
theorem d_X12_take_58 : decode prog_14_method_182_code 58 = .ok (.lconst 0, 1) := by decide +kernel
theorem d_X12_take_59 : decode prog_14_method_182_code 59 = .ok (.lstore_n 1, 1) := by decide +kernel
theorem d_X12_take_60 : decode prog_14_method_182_code 60 = .ok (.iconst 0, 1) := by decide +kernel
theorem d_X12_take_61 : decode prog_14_method_182_code 61 = .ok (.istore_n 3, 1) := by decide +kernel
theorem d_X12_take_62 : decode prog_14_method_182_code 62 = .ok (.iload_n 3, 1) := by decide +kernel
theorem d_X12_take_63 : decode prog_14_method_182_code 63 = .ok (.aload_n 0, 1) := by decide +kernel
theorem d_X12_take_64 : decode prog_14_method_182_code 64 = .ok (.getfield 217, 3) := by decide +kernel
theorem d_X12_take_67 : decode prog_14_method_182_code 67 = .ok (.if_icmp .ge 20, 3) := by decide +kernel
theorem d_X12_take_70 : decode prog_14_method_182_code 70 = .ok (.lload_n 1, 1) := by decide +kernel
theorem d_X12_take_71 : decode prog_14_method_182_code 71 = .ok (.aload_n 0, 1) := by decide +kernel
theorem d_X12_take_72 : decode prog_14_method_182_code 72 = .ok (.getfield 9, 3) := by decide +kernel
theorem d_X12_take_75 : decode prog_14_method_182_code 75 = .ok (.iload_n 3, 1) := by decide +kernel
theorem d_X12_take_76 : decode prog_14_method_182_code 76 = .ok (.baload, 1) := by decide +kernel
theorem d_X12_take_77 : decode prog_14_method_182_code 77 = .ok (.invokestatic 725, 3) := by decide +kernel
theorem d_X12_take_80 : decode prog_14_method_182_code 80 = .ok (.lstore_n 1, 1) := by decide +kernel
theorem d_X12_take_81 : decode prog_14_method_182_code 81 = .ok (.iinc 3 1, 3) := by decide +kernel
theorem d_X12_take_84 : decode prog_14_method_182_code 84 = .ok (.goto (-22), 3) := by decide +kernel
theorem d_X12_take_87 : decode prog_14_method_182_code 87 = .ok (.bipush 7, 2) := by decide +kernel
theorem d_X12_take_89 : decode prog_14_method_182_code 89 = .ok (.istore_n 3, 1) := by decide +kernel
theorem d_X12_take_90 : decode prog_14_method_182_code 90 = .ok (.iload_n 3, 1) := by decide +kernel
theorem d_X12_take_91 : decode prog_14_method_182_code 91 = .ok (.ifCond .lt 36, 3) := by decide +kernel
theorem d_X12_take_94 : decode prog_14_method_182_code 94 = .ok (.aload_n 0, 1) := by decide +kernel
theorem d_X12_take_95 : decode prog_14_method_182_code 95 = .ok (.getfield 9, 3) := by decide +kernel
theorem d_X12_take_98 : decode prog_14_method_182_code 98 = .ok (.aload_n 0, 1) := by decide +kernel
theorem d_X12_take_99 : decode prog_14_method_182_code 99 = .ok (.getfield 217, 3) := by decide +kernel
theorem d_X12_take_102 : decode prog_14_method_182_code 102 = .ok (.lload_n 1, 1) := by decide +kernel
theorem d_X12_take_103 : decode prog_14_method_182_code 103 = .ok (.bipush 8, 2) := by decide +kernel
theorem d_X12_take_105 : decode prog_14_method_182_code 105 = .ok (.iload_n 3, 1) := by decide +kernel
theorem d_X12_take_106 : decode prog_14_method_182_code 106 = .ok (.imul, 1) := by decide +kernel
theorem d_X12_take_107 : decode prog_14_method_182_code 107 = .ok (.lshr, 1) := by decide +kernel
theorem d_X12_take_108 : decode prog_14_method_182_code 108 = .ok (.l2i, 1) := by decide +kernel
theorem d_X12_take_109 : decode prog_14_method_182_code 109 = .ok (.i2b, 1) := by decide +kernel
theorem d_X12_take_110 : decode prog_14_method_182_code 110 = .ok (.bastore, 1) := by decide +kernel
theorem d_X12_take_111 : decode prog_14_method_182_code 111 = .ok (.aload_n 0, 1) := by decide +kernel
theorem d_X12_take_112 : decode prog_14_method_182_code 112 = .ok (.dup, 1) := by decide +kernel
theorem d_X12_take_113 : decode prog_14_method_182_code 113 = .ok (.getfield 217, 3) := by decide +kernel
theorem d_X12_take_116 : decode prog_14_method_182_code 116 = .ok (.iconst 1, 1) := by decide +kernel
theorem d_X12_take_117 : decode prog_14_method_182_code 117 = .ok (.iadd, 1) := by decide +kernel
theorem d_X12_take_118 : decode prog_14_method_182_code 118 = .ok (.putfield 217, 3) := by decide +kernel
theorem d_X12_take_121 : decode prog_14_method_182_code 121 = .ok (.iinc 3 (-1), 3) := by decide +kernel
theorem d_X12_take_124 : decode prog_14_method_182_code 124 = .ok (.goto (-34), 3) := by decide +kernel
theorem d_X12_take_127 : decode prog_14_method_182_code 127 = .ok (.aload_n 0, 1) := by decide +kernel
theorem d_X12_take_128 : decode prog_14_method_182_code 128 = .ok (.getfield 217, 3) := by decide +kernel
theorem d_X12_take_131 : decode prog_14_method_182_code 131 = .ok (.ireturn, 1) := by decide +kernel
theorem v_X12_take_0 {E : EE} {d : Nat} {Q : Option AV → AH → Prop} {x0 : Nat} {G : AH} (h : isO E G x0 12 ∧ (isO E G (gR G x0 0) 13 ∧ (vp_in 0 (gN G (gR G x0 0)) ∧ (∀ G4 : AH, G4 = sI G (gR G x0 0) (Int32.toNatClampNeg 0) (i2b 0) → isO E G4 (gR G4 x0 0) 13 ∧ (vp_in 1 (gN G4 (gR G4 x0 0)) ∧ (∀ G8 : AH, G8 = sI G4 (gR G4 x0 0) (Int32.toNatClampNeg 1) (i2b (i2b (gI G4 x0 91))) → wp E d M_X12_take 20 [some (vr x0), some (vi 0), none, none] [] G8 Q)))))) : wp E d M_X12_take 0 [some (vr x0), none, none, none] [] G Q := by
  refine wp_aload_n (pc := 0) d_X12_take_0 rfl ?_
  obtain ⟨ho1, h⟩ := h
  refine wp_getR (pc := 1) d_X12_take_1 fl_X12_9 (fun _ _ _ => rfl) ho1 ?_
  refine wp_iconst (pc := 4) (v := 0) d_X12_take_4 rfl ?_
  refine wp_iconst (pc := 5) (v := 0) d_X12_take_5 rfl ?_
  obtain ⟨ho2, h⟩ := h
  obtain ⟨hi3, h⟩ := h
  refine wp_bast (pc := 6) d_X12_take_6 ho2 hi3 ?_
  refine wp_nm (fun G4 eG4 => ?_)
  have h := h G4 eG4
  have ho5 := isO_sI eG4 ho1
  refine wp_aload_n (pc := 7) d_X12_take_7 rfl ?_
  refine wp_getR (pc := 8) d_X12_take_8 fl_X12_9 (fun _ _ _ => rfl) ho5 ?_
  refine wp_iconst (pc := 11) (v := 1) d_X12_take_11 rfl ?_
  refine wp_aload_n (pc := 12) d_X12_take_12 rfl ?_
  refine wp_getI (pc := 13) d_X12_take_13 fl_X12_713 (fun _ _ _ => rfl) ho5 ?_
  refine wp_i2b (pc := 16) d_X12_take_16 ?_
  obtain ⟨ho6, h⟩ := h
  obtain ⟨hi7, h⟩ := h
  refine wp_bast (pc := 17) d_X12_take_17 ho6 hi7 ?_
  refine wp_nm (fun G8 eG8 => ?_)
  have h := h G8 eG8
  have ho9 := isO_sI eG8 ho5
  refine wp_iconst (pc := 18) (v := 0) d_X12_take_18 rfl ?_
  refine wp_istore_n (pc := 19) (lv' := [some (vr _), some (vi _), none, none]) d_X12_take_19 (by decide) rfl ?_
  refine wp_sub ?_ h
  exact ⟨rfl, ⟨rfl, trivial⟩⟩
theorem v_X12_take_20 {E : EE} {d : Nat} {Q : Option AV → AH → Prop} {x0 : Nat} {x1 : Int32} {G : AH} (h : isO E G x0 12 ∧ (((gI G x0 89) ≤ x1 → wp E d M_X12_take 62 [some (vr x0), some (vj 0), none, some (vi 0)] [] (sI G x0 1 (2 + (gI G x0 89))) Q) ∧ (¬ ((gI G x0 89) ≤ x1) → isO E G (gR G x0 88) 13 ∧ (vp_in x1 (gN G (gR G x0 88)) ∧ (isO E G (gR G x0 0) 13 ∧ (vp_in (2 + x1) (gN G (gR G x0 0)) ∧ (wp E d M_X12_take 20 [some (vr x0), some (vi (x1 + 1)), none, none] [] (sI G (gR G x0 0) (Int32.toNatClampNeg (2 + x1)) (i2b (gI G (gR G x0 88) (Int32.toNatClampNeg x1)))) Q))))))) : wp E d M_X12_take 20 [some (vr x0), some (vi x1), none, none] [] G Q := by
  refine wp_iload_n (pc := 20) d_X12_take_20 rfl ?_
  refine wp_aload_n (pc := 21) d_X12_take_21 rfl ?_
  obtain ⟨ho1, h⟩ := h
  refine wp_getI (pc := 22) d_X12_take_22 fl_X12_708 (fun _ _ _ => rfl) ho1 ?_
  refine wp_icmp_ge (pc := 25) (tgt := 48) d_X12_take_25 (by decide) (fun hc => ?_) (fun hc => ?_)
  · have h := h.1 hc
    refine wp_aload_n (pc := 48) d_X12_take_48 rfl ?_
    refine wp_iconst (pc := 49) (v := 2) d_X12_take_49 rfl ?_
    refine wp_aload_n (pc := 50) d_X12_take_50 rfl ?_
    refine wp_getI (pc := 51) d_X12_take_51 fl_X12_708 (fun _ _ _ => rfl) ho1 ?_
    refine wp_iadd (pc := 54) d_X12_take_54 ?_
    refine wp_putI (pc := 55) d_X12_take_55 fl_X12_217 (fun _ _ _ => rfl) (Or.inl rfl) ho1 (okI_int _) ?_
    refine wp_lconst (pc := 58) (v := 0) d_X12_take_58 rfl ?_
    refine wp_lstore_n (pc := 59) (lv' := [some (vr _), some (vj _), none, none]) d_X12_take_59 (by decide) rfl ?_
    refine wp_iconst (pc := 60) (v := 0) d_X12_take_60 rfl ?_
    refine wp_istore_n (pc := 61) (lv' := [some (vr _), some (vj _), none, some (vi _)]) d_X12_take_61 (by decide) rfl ?_
    refine wp_sub ?_ h
    exact ⟨rfl, ⟨rfl, ⟨rfl, trivial⟩⟩⟩
  · have h := h.2 hc
    refine wp_aload_n (pc := 28) d_X12_take_28 rfl ?_
    refine wp_getR (pc := 29) d_X12_take_29 fl_X12_9 (fun _ _ _ => rfl) ho1 ?_
    refine wp_iconst (pc := 32) (v := 2) d_X12_take_32 rfl ?_
    refine wp_iload_n (pc := 33) d_X12_take_33 rfl ?_
    refine wp_iadd (pc := 34) d_X12_take_34 ?_
    refine wp_aload_n (pc := 35) d_X12_take_35 rfl ?_
    refine wp_getR (pc := 36) d_X12_take_36 fl_X12_205 (fun _ _ _ => rfl) ho1 ?_
    refine wp_iload_n (pc := 39) d_X12_take_39 rfl ?_
    obtain ⟨ho2, h⟩ := h
    obtain ⟨hi3, h⟩ := h
    refine wp_bald (pc := 40) d_X12_take_40 ho2 hi3 ?_
    obtain ⟨ho4, h⟩ := h
    obtain ⟨hi5, h⟩ := h
    refine wp_bast (pc := 41) d_X12_take_41 ho4 hi5 ?_
    refine wp_iinc (pc := 42) (v := 1) (lv' := [some (vr _), some (vi _), none, none]) d_X12_take_42 (by decide) rfl rfl rfl ?_
    refine wp_goto (pc := 45) (tgt := 20) d_X12_take_45 (by decide) ?_
    refine wp_sub ?_ h
    exact ⟨rfl, ⟨rfl, trivial⟩⟩
theorem v_X12_take_62 {E : EE} {d : Nat} {Q : Option AV → AH → Prop} {x0 : Nat} {x1 : Int64} {x3 : Int32} {G : AH} (h0 : 0 < d) (h : isO E G x0 12 ∧ (((gI G x0 1) ≤ x3 → wp E d M_X12_take 90 [some (vr x0), some (vj x1), none, some (vi 7)] [] G Q) ∧ (¬ ((gI G x0 1) ≤ x3) → isO E G (gR G x0 0) 13 ∧ (vp_in x3 (gN G (gR G x0 0)) ∧ (wpJ E (d - 1) M_X12_mixed [vj x1, vi (gI G (gR G x0 0) (Int32.toNatClampNeg x3))] G (fun r4 G5 => wp E d M_X12_take 62 [some (vr x0), some (vj r4), none, some (vi (x3 + 1))] [] G5 Q)))))) : wp E d M_X12_take 62 [some (vr x0), some (vj x1), none, some (vi x3)] [] G Q := by
  refine wp_iload_n (pc := 62) d_X12_take_62 rfl ?_
  refine wp_aload_n (pc := 63) d_X12_take_63 rfl ?_
  obtain ⟨ho1, h⟩ := h
  refine wp_getI (pc := 64) d_X12_take_64 fl_X12_217 (fun _ _ _ => rfl) ho1 ?_
  refine wp_icmp_ge (pc := 67) (tgt := 87) d_X12_take_67 (by decide) (fun hc => ?_) (fun hc => ?_)
  · have h := h.1 hc
    refine wp_bipush (pc := 87) (v := 7) d_X12_take_87 rfl ?_
    refine wp_istore_n (pc := 89) (lv' := [some (vr _), some (vj _), none, some (vi _)]) d_X12_take_89 (by decide) rfl ?_
    refine wp_sub ?_ h
    exact ⟨rfl, ⟨rfl, ⟨rfl, trivial⟩⟩⟩
  · have h := h.2 hc
    refine wp_lload_n (pc := 70) d_X12_take_70 rfl ?_
    refine wp_aload_n (pc := 71) d_X12_take_71 rfl ?_
    refine wp_getR (pc := 72) d_X12_take_72 fl_X12_9 (fun _ _ _ => rfl) ho1 ?_
    refine wp_iload_n (pc := 75) d_X12_take_75 rfl ?_
    obtain ⟨ho2, h⟩ := h
    obtain ⟨hi3, h⟩ := h
    refine wp_bald (pc := 76) d_X12_take_76 ho2 hi3 ?_
    refine wp_invS (pc := 77) (N := M_X12_mixed) (As := [vj _, vi _]) (rest := []) d_X12_take_77 ml_X12_725 mk_X12_mixed ms_X12_mixed h0 (Nat.le_of_ble_eq_true rfl) ?_
    refine wpM.mono h (fun rr G5 hr => ?_)
    obtain ⟨r4, rfl, h⟩ := hr
    show wp E d M_X12_take 80 [some (vr _), some (vj _), none, some (vi _)] [vj _] G5 Q
    refine wp_lstore_n (pc := 80) (lv' := [some (vr _), some (vj _), none, some (vi _)]) d_X12_take_80 (by decide) rfl ?_
    refine wp_iinc (pc := 81) (v := 1) (lv' := [some (vr _), some (vj _), none, some (vi _)]) d_X12_take_81 (by decide) rfl rfl rfl ?_
    refine wp_goto (pc := 84) (tgt := 62) d_X12_take_84 (by decide) ?_
    refine wp_sub ?_ h
    exact ⟨rfl, ⟨rfl, ⟨rfl, trivial⟩⟩⟩
theorem v_X12_take_90 {E : EE} {d : Nat} {Q : Option AV → AH → Prop} {x0 : Nat} {x1 : Int64} {x3 : Int32} {G : AH} (h : (x3 < 0 → isO E G x0 12 ∧ (Q (some (vi (gI G x0 1))) G)) ∧ (¬ (x3 < 0) → isO E G x0 12 ∧ (isO E G (gR G x0 0) 13 ∧ (vp_in (gI G x0 1) (gN G (gR G x0 0)) ∧ (∀ G5 : AH, G5 = sI G (gR G x0 0) (Int32.toNatClampNeg (gI G x0 1)) (i2b (i2b (Int64.toInt32 (x1 >>> (Int32.toInt64 (8 * x3) &&& 63))))) → ∀ G7 : AH, G7 = sI G5 x0 1 ((gI G5 x0 1) + 1) → wp E d M_X12_take 90 [some (vr x0), some (vj x1), none, some (vi (x3 + (-1)))] [] G7 Q))))) : wp E d M_X12_take 90 [some (vr x0), some (vj x1), none, some (vi x3)] [] G Q := by
  refine wp_iload_n (pc := 90) d_X12_take_90 rfl ?_
  refine wp_if_lt (pc := 91) (tgt := 127) d_X12_take_91 (by decide) (fun hc => ?_) (fun hc => ?_)
  · have h := h.1 hc
    refine wp_aload_n (pc := 127) d_X12_take_127 rfl ?_
    obtain ⟨ho1, h⟩ := h
    refine wp_getI (pc := 128) d_X12_take_128 fl_X12_217 (fun _ _ _ => rfl) ho1 ?_
    exact wp_iret (pc := 131) d_X12_take_131 rfl h
  · have h := h.2 hc
    refine wp_aload_n (pc := 94) d_X12_take_94 rfl ?_
    obtain ⟨ho2, h⟩ := h
    refine wp_getR (pc := 95) d_X12_take_95 fl_X12_9 (fun _ _ _ => rfl) ho2 ?_
    refine wp_aload_n (pc := 98) d_X12_take_98 rfl ?_
    refine wp_getI (pc := 99) d_X12_take_99 fl_X12_217 (fun _ _ _ => rfl) ho2 ?_
    refine wp_lload_n (pc := 102) d_X12_take_102 rfl ?_
    refine wp_bipush (pc := 103) (v := 8) d_X12_take_103 rfl ?_
    refine wp_iload_n (pc := 105) d_X12_take_105 rfl ?_
    refine wp_imul (pc := 106) d_X12_take_106 ?_
    refine wp_lshr (pc := 107) d_X12_take_107 ?_
    refine wp_l2i (pc := 108) d_X12_take_108 ?_
    refine wp_i2b (pc := 109) d_X12_take_109 ?_
    obtain ⟨ho3, h⟩ := h
    obtain ⟨hi4, h⟩ := h
    refine wp_bast (pc := 110) d_X12_take_110 ho3 hi4 ?_
    refine wp_nm (fun G5 eG5 => ?_)
    have h := h G5 eG5
    have ho6 := isO_sI eG5 ho2
    refine wp_aload_n (pc := 111) d_X12_take_111 rfl ?_
    refine wp_dup (pc := 112) d_X12_take_112 (c1_r _) ?_
    refine wp_getI (pc := 113) d_X12_take_113 fl_X12_217 (fun _ _ _ => rfl) ho6 ?_
    refine wp_iconst (pc := 116) (v := 1) d_X12_take_116 rfl ?_
    refine wp_iadd (pc := 117) d_X12_take_117 ?_
    refine wp_putI (pc := 118) d_X12_take_118 fl_X12_217 (fun _ _ _ => rfl) (Or.inl rfl) ho6 (okI_int _) ?_
    refine wp_nm (fun G7 eG7 => ?_)
    have h := h G7 eG7
    have ho8 := isO_sI eG7 ho6
    refine wp_iinc (pc := 121) (v := (-1)) (lv' := [some (vr _), some (vj _), none, some (vi _)]) d_X12_take_121 (by decide) rfl rfl rfl ?_
    refine wp_goto (pc := 124) (tgt := 90) d_X12_take_124 (by decide) ?_
    refine wp_sub ?_ h
    exact ⟨rfl, ⟨rfl, ⟨rfl, trivial⟩⟩⟩
theorem d_X12_crash_0 : decode prog_14_method_181_code 0 = .ok (.iload_n 1, 1) := by decide +kernel
theorem d_X12_crash_1 : decode prog_14_method_181_code 1 = .ok (.ifCond .ge 5, 3) := by decide +kernel
theorem d_X12_crash_4 : decode prog_14_method_181_code 4 = .ok (.iconst (-1), 1) := by decide +kernel
theorem d_X12_crash_5 : decode prog_14_method_181_code 5 = .ok (.ireturn, 1) := by decide +kernel
theorem d_X12_crash_6 : decode prog_14_method_181_code 6 = .ok (.aload_n 0, 1) := by decide +kernel
theorem d_X12_crash_7 : decode prog_14_method_181_code 7 = .ok (.getfield 211, 3) := by decide +kernel
theorem d_X12_crash_10 : decode prog_14_method_181_code 10 = .ok (.ifCond .lt 74, 3) := by decide +kernel
theorem d_X12_crash_13 : decode prog_14_method_181_code 13 = .ok (.aload_n 0, 1) := by decide +kernel
theorem d_X12_crash_14 : decode prog_14_method_181_code 14 = .ok (.getfield 208, 3) := by decide +kernel
theorem d_X12_crash_17 : decode prog_14_method_181_code 17 = .ok (.aload_n 0, 1) := by decide +kernel
theorem d_X12_crash_18 : decode prog_14_method_181_code 18 = .ok (.getfield 211, 3) := by decide +kernel
theorem d_X12_crash_21 : decode prog_14_method_181_code 21 = .ok (.iaload, 1) := by decide +kernel
theorem d_X12_crash_22 : decode prog_14_method_181_code 22 = .ok (.i2l, 1) := by decide +kernel
theorem d_X12_crash_23 : decode prog_14_method_181_code 23 = .ok (.iload_n 1, 1) := by decide +kernel
theorem d_X12_crash_24 : decode prog_14_method_181_code 24 = .ok (.i2l, 1) := by decide +kernel
theorem d_X12_crash_25 : decode prog_14_method_181_code 25 = .ok (.ladd, 1) := by decide +kernel
theorem d_X12_crash_26 : decode prog_14_method_181_code 26 = .ok (.lstore_n 2, 1) := by decide +kernel
theorem d_X12_crash_84 : decode prog_14_method_181_code 84 = .ok (.aload_n 0, 1) := by decide +kernel
theorem d_X12_crash_85 : decode prog_14_method_181_code 85 = .ok (.getfield 713, 3) := by decide +kernel
theorem d_X12_crash_88 : decode prog_14_method_181_code 88 = .ok (.ireturn, 1) := by decide +kernel
theorem v_X12_crash_0 {E : EE} {d : Nat} {Q : Option AV → AH → Prop} {x0 : Nat} {x1 : Int32} {G : AH} (h : (0 ≤ x1 → isO E G x0 12 ∧ (((gI G x0 92) < 0 → wp E d M_X12_crash 84 [some (vr x0), some (vi x1), none, none] [] G Q) ∧ (¬ ((gI G x0 92) < 0) → isO E G (gR G x0 90) 14 ∧ (vp_in (gI G x0 92) (gN G (gR G x0 90)) ∧ (wp E d M_X12_crash 27 [some (vr x0), some (vi x1), some (vj ((Int32.toInt64 (gI G (gR G x0 90) (Int32.toNatClampNeg (gI G x0 92)))) + (Int32.toInt64 x1))), none] [] G Q))))) ∧ (¬ (0 ≤ x1) → Q (some (vi (-1))) G)) : wp E d M_X12_crash 0 [some (vr x0), some (vi x1), none, none] [] G Q := by
  refine wp_iload_n (pc := 0) d_X12_crash_0 rfl ?_
  refine wp_if_ge (pc := 1) (tgt := 6) d_X12_crash_1 (by decide) (fun hc => ?_) (fun hc => ?_)
  · have h := h.1 hc
    refine wp_aload_n (pc := 6) d_X12_crash_6 rfl ?_
    obtain ⟨ho1, h⟩ := h
    refine wp_getI (pc := 7) d_X12_crash_7 fl_X12_211 (fun _ _ _ => rfl) ho1 ?_
    refine wp_if_lt (pc := 10) (tgt := 84) d_X12_crash_10 (by decide) (fun hc => ?_) (fun hc => ?_)
    · have h := h.1 hc
      refine wp_sub ?_ h
      exact ⟨rfl, ⟨rfl, trivial⟩⟩
    · have h := h.2 hc
      refine wp_aload_n (pc := 13) d_X12_crash_13 rfl ?_
      refine wp_getR (pc := 14) d_X12_crash_14 fl_X12_208 (fun _ _ _ => rfl) ho1 ?_
      refine wp_aload_n (pc := 17) d_X12_crash_17 rfl ?_
      refine wp_getI (pc := 18) d_X12_crash_18 fl_X12_211 (fun _ _ _ => rfl) ho1 ?_
      obtain ⟨ho2, h⟩ := h
      obtain ⟨hi3, h⟩ := h
      refine wp_iald (pc := 21) d_X12_crash_21 ho2 hi3 ?_
      refine wp_i2l (pc := 22) d_X12_crash_22 ?_
      refine wp_iload_n (pc := 23) d_X12_crash_23 rfl ?_
      refine wp_i2l (pc := 24) d_X12_crash_24 ?_
      refine wp_ladd (pc := 25) d_X12_crash_25 ?_
      refine wp_lstore_n (pc := 26) (lv' := [some (vr _), some (vi _), some (vj _), none]) d_X12_crash_26 (by decide) rfl ?_
      refine wp_sub ?_ h
      exact ⟨rfl, ⟨rfl, ⟨rfl, trivial⟩⟩⟩
  · have h := h.2 hc
    refine wp_iconst (pc := 4) (v := (-1)) d_X12_crash_4 rfl ?_
    exact wp_iret (pc := 5) d_X12_crash_5 rfl h
theorem v_X12_crash_84 {E : EE} {d : Nat} {Q : Option AV → AH → Prop} {x0 : Nat} {x1 : Int32} {G : AH} (h : isO E G x0 12 ∧ (Q (some (vi (gI G x0 91))) G)) : wp E d M_X12_crash 84 [some (vr x0), some (vi x1), none, none] [] G Q := by
  refine wp_aload_n (pc := 84) d_X12_crash_84 rfl ?_
  obtain ⟨ho1, h⟩ := h
  refine wp_getI (pc := 85) d_X12_crash_85 fl_X12_713 (fun _ _ _ => rfl) ho1 ?_
  exact wp_iret (pc := 88) d_X12_crash_88 rfl h
theorem d_X12_byteAt_0 : decode prog_14_method_180_code 0 = .ok (.iload_n 1, 1) := by decide +kernel
theorem d_X12_byteAt_1 : decode prog_14_method_180_code 1 = .ok (.ifCond .lt 11, 3) := by decide +kernel
theorem d_X12_byteAt_4 : decode prog_14_method_180_code 4 = .ok (.iload_n 1, 1) := by decide +kernel
theorem d_X12_byteAt_5 : decode prog_14_method_180_code 5 = .ok (.aload_n 0, 1) := by decide +kernel
theorem d_X12_byteAt_6 : decode prog_14_method_180_code 6 = .ok (.getfield 708, 3) := by decide +kernel
theorem d_X12_byteAt_9 : decode prog_14_method_180_code 9 = .ok (.if_icmp .lt 7, 3) := by decide +kernel
theorem d_X12_byteAt_12 : decode prog_14_method_180_code 12 = .ok (.iconst (-1), 1) := by decide +kernel
theorem d_X12_byteAt_13 : decode prog_14_method_180_code 13 = .ok (.goto 13, 3) := by decide +kernel
theorem d_X12_byteAt_16 : decode prog_14_method_180_code 16 = .ok (.aload_n 0, 1) := by decide +kernel
theorem d_X12_byteAt_17 : decode prog_14_method_180_code 17 = .ok (.getfield 205, 3) := by decide +kernel
theorem d_X12_byteAt_20 : decode prog_14_method_180_code 20 = .ok (.iload_n 1, 1) := by decide +kernel
theorem d_X12_byteAt_21 : decode prog_14_method_180_code 21 = .ok (.baload, 1) := by decide +kernel
theorem d_X12_byteAt_22 : decode prog_14_method_180_code 22 = .ok (.sipush 255, 3) := by decide +kernel
theorem d_X12_byteAt_25 : decode prog_14_method_180_code 25 = .ok (.iand, 1) := by decide +kernel
theorem d_X12_byteAt_26 : decode prog_14_method_180_code 26 = .ok (.ireturn, 1) := by decide +kernel
theorem v_X12_byteAt_0 {E : EE} {d : Nat} {Q : Option AV → AH → Prop} {x0 : Nat} {x1 : Int32} {G : AH} (h : (x1 < 0 → wp E d M_X12_byteAt 12 [some (vr x0), some (vi x1)] [] G Q) ∧ (¬ (x1 < 0) → isO E G x0 12 ∧ ((x1 < (gI G x0 89) → isO E G (gR G x0 88) 13 ∧ (vp_in x1 (gN G (gR G x0 88)) ∧ (Q (some (vi ((gI G (gR G x0 88) (Int32.toNatClampNeg x1)) &&& 255))) G))) ∧ (¬ (x1 < (gI G x0 89)) → wp E d M_X12_byteAt 12 [some (vr x0), some (vi x1)] [] G Q)))) : wp E d M_X12_byteAt 0 [some (vr x0), some (vi x1)] [] G Q := by
  refine wp_iload_n (pc := 0) d_X12_byteAt_0 rfl ?_
  refine wp_if_lt (pc := 1) (tgt := 12) d_X12_byteAt_1 (by decide) (fun hc => ?_) (fun hc => ?_)
  · have h := h.1 hc
    refine wp_sub ?_ h
    exact ⟨rfl, ⟨rfl, trivial⟩⟩
  · have h := h.2 hc
    refine wp_iload_n (pc := 4) d_X12_byteAt_4 rfl ?_
    refine wp_aload_n (pc := 5) d_X12_byteAt_5 rfl ?_
    obtain ⟨ho1, h⟩ := h
    refine wp_getI (pc := 6) d_X12_byteAt_6 fl_X12_708 (fun _ _ _ => rfl) ho1 ?_
    refine wp_icmp_lt (pc := 9) (tgt := 16) d_X12_byteAt_9 (by decide) (fun hc => ?_) (fun hc => ?_)
    · have h := h.1 hc
      refine wp_aload_n (pc := 16) d_X12_byteAt_16 rfl ?_
      refine wp_getR (pc := 17) d_X12_byteAt_17 fl_X12_205 (fun _ _ _ => rfl) ho1 ?_
      refine wp_iload_n (pc := 20) d_X12_byteAt_20 rfl ?_
      obtain ⟨ho2, h⟩ := h
      obtain ⟨hi3, h⟩ := h
      refine wp_bald (pc := 21) d_X12_byteAt_21 ho2 hi3 ?_
      refine wp_sipush (pc := 22) (v := 255) d_X12_byteAt_22 rfl ?_
      refine wp_iand (pc := 25) d_X12_byteAt_25 ?_
      exact wp_iret (pc := 26) d_X12_byteAt_26 rfl h
    · have h := h.2 hc
      refine wp_sub ?_ h
      exact ⟨rfl, ⟨rfl, trivial⟩⟩
theorem v_X12_byteAt_12 {E : EE} {d : Nat} {Q : Option AV → AH → Prop} {x0 : Nat} {x1 : Int32} {G : AH} (h : Q (some (vi (-1))) G) : wp E d M_X12_byteAt 12 [some (vr x0), some (vi x1)] [] G Q := by
  refine wp_iconst (pc := 12) (v := (-1)) d_X12_byteAt_12 rfl ?_
  refine wp_goto (pc := 13) (tgt := 26) d_X12_byteAt_13 (by decide) ?_
  exact wp_iret (pc := 26) d_X12_byteAt_26 rfl h
theorem d_X12_size_0 : decode prog_14_method_179_code 0 = .ok (.aload_n 0, 1) := by decide +kernel
theorem d_X12_size_1 : decode prog_14_method_179_code 1 = .ok (.getfield 708, 3) := by decide +kernel
theorem d_X12_size_4 : decode prog_14_method_179_code 4 = .ok (.ireturn, 1) := by decide +kernel
theorem v_X12_size_0 {E : EE} {d : Nat} {Q : Option AV → AH → Prop} {x0 : Nat} {G : AH} (h : isO E G x0 12 ∧ (Q (some (vi (gI G x0 89))) G)) : wp E d M_X12_size 0 [some (vr x0)] [] G Q := by
  refine wp_aload_n (pc := 0) d_X12_size_0 rfl ?_
  obtain ⟨ho1, h⟩ := h
  refine wp_getI (pc := 1) d_X12_size_1 fl_X12_708 (fun _ _ _ => rfl) ho1 ?_
  exact wp_iret (pc := 4) d_X12_size_4 rfl h
theorem d_X12_rows_0 : decode prog_14_method_178_code 0 = .ok (.aload_n 0, 1) := by decide +kernel
theorem d_X12_rows_1 : decode prog_14_method_178_code 1 = .ok (.getfield 713, 3) := by decide +kernel
theorem d_X12_rows_4 : decode prog_14_method_178_code 4 = .ok (.ireturn, 1) := by decide +kernel
theorem v_X12_rows_0 {E : EE} {d : Nat} {Q : Option AV → AH → Prop} {x0 : Nat} {G : AH} (h : isO E G x0 12 ∧ (Q (some (vi (gI G x0 91))) G)) : wp E d M_X12_rows 0 [some (vr x0)] [] G Q := by
  refine wp_aload_n (pc := 0) d_X12_rows_0 rfl ?_
  obtain ⟨ho1, h⟩ := h
  refine wp_getI (pc := 1) d_X12_rows_1 fl_X12_713 (fun _ _ _ => rfl) ho1 ?_
  exact wp_iret (pc := 4) d_X12_rows_4 rfl h
theorem d_X12_load_0 : decode prog_14_method_177_code 0 = .ok (.iload_n 1, 1) := by decide +kernel
theorem d_X12_load_1 : decode prog_14_method_177_code 1 = .ok (.ifCond .lt 11, 3) := by decide +kernel
theorem d_X12_load_4 : decode prog_14_method_177_code 4 = .ok (.iload_n 1, 1) := by decide +kernel
theorem d_X12_load_5 : decode prog_14_method_177_code 5 = .ok (.aload_n 0, 1) := by decide +kernel
theorem d_X12_load_6 : decode prog_14_method_177_code 6 = .ok (.getfield 713, 3) := by decide +kernel
theorem d_X12_load_9 : decode prog_14_method_177_code 9 = .ok (.if_icmp .lt 5, 3) := by decide +kernel
theorem d_X12_load_12 : decode prog_14_method_177_code 12 = .ok (.iconst (-1), 1) := by decide +kernel
theorem d_X12_load_13 : decode prog_14_method_177_code 13 = .ok (.ireturn, 1) := by decide +kernel
theorem d_X12_load_14 : decode prog_14_method_177_code 14 = .ok (.aload_n 0, 1) := by decide +kernel
theorem d_X12_load_15 : decode prog_14_method_177_code 15 = .ok (.invokevirtual 444, 3) := by decide +kernel
theorem d_X12_load_18 : decode prog_14_method_177_code 18 = .ok (.istore_n 2, 1) := by decide +kernel
theorem d_X12_load_19 : decode prog_14_method_177_code 19 = .ok (.iload_n 2, 1) := by decide +kernel
theorem d_X12_load_20 : decode prog_14_method_177_code 20 = .ok (.iconst 4, 1) := by decide +kernel
theorem d_X12_load_21 : decode prog_14_method_177_code 21 = .ok (.if_icmp .ne 6, 3) := by decide +kernel
theorem d_X12_load_24 : decode prog_14_method_177_code 24 = .ok (.ldc 220, 2) := by decide +kernel
theorem d_X12_load_26 : decode prog_14_method_177_code 26 = .ok (.ireturn, 1) := by decide +kernel
theorem d_X12_load_27 : decode prog_14_method_177_code 27 = .ok (.aload_n 0, 1) := by decide +kernel
theorem d_X12_load_28 : decode prog_14_method_177_code 28 = .ok (.iconst 1, 1) := by decide +kernel
theorem d_X12_load_29 : decode prog_14_method_177_code 29 = .ok (.putfield 729, 3) := by decide +kernel
theorem d_X12_load_32 : decode prog_14_method_177_code 32 = .ok (.aload_n 0, 1) := by decide +kernel
theorem d_X12_load_33 : decode prog_14_method_177_code 33 = .ok (.aload_n 0, 1) := by decide +kernel
theorem d_X12_load_34 : decode prog_14_method_177_code 34 = .ok (.getfield 208, 3) := by decide +kernel
theorem d_X12_load_37 : decode prog_14_method_177_code 37 = .ok (.iload_n 1, 1) := by decide +kernel
theorem d_X12_load_38 : decode prog_14_method_177_code 38 = .ok (.iaload, 1) := by decide +kernel
theorem d_X12_load_39 : decode prog_14_method_177_code 39 = .ok (.aload_n 0, 1) := by decide +kernel
theorem d_X12_load_40 : decode prog_14_method_177_code 40 = .ok (.getfield 208, 3) := by decide +kernel
theorem d_X12_load_43 : decode prog_14_method_177_code 43 = .ok (.iload_n 1, 1) := by decide +kernel
theorem d_X12_load_44 : decode prog_14_method_177_code 44 = .ok (.iconst 1, 1) := by decide +kernel
theorem d_X12_load_45 : decode prog_14_method_177_code 45 = .ok (.iadd, 1) := by decide +kernel
theorem d_X12_load_46 : decode prog_14_method_177_code 46 = .ok (.iaload, 1) := by decide +kernel
theorem d_X12_load_47 : decode prog_14_method_177_code 47 = .ok (.iload_n 2, 1) := by decide +kernel
theorem d_X12_load_48 : decode prog_14_method_177_code 48 = .ok (.invokevirtual 739, 3) := by decide +kernel
theorem d_X12_load_51 : decode prog_14_method_177_code 51 = .ok (.istore_n 3, 1) := by decide +kernel
theorem d_X12_load_52 : decode prog_14_method_177_code 52 = .ok (.aload_n 0, 1) := by decide +kernel
theorem d_X12_load_53 : decode prog_14_method_177_code 53 = .ok (.getfield 19, 3) := by decide +kernel
theorem d_X12_load_56 : decode prog_14_method_177_code 56 = .ok (.iload_n 2, 1) := by decide +kernel
theorem d_X12_load_57 : decode prog_14_method_177_code 57 = .ok (.iconst 1, 1) := by decide +kernel
theorem d_X12_load_58 : decode prog_14_method_177_code 58 = .ok (.bastore, 1) := by decide +kernel
theorem d_X12_load_59 : decode prog_14_method_177_code 59 = .ok (.iload_n 2, 1) := by decide +kernel
theorem d_X12_load_60 : decode prog_14_method_177_code 60 = .ok (.ireturn, 1) := by decide +kernel
theorem v_X12_load_0 {E : EE} {d : Nat} {Q : Option AV → AH → Prop} {x0 : Nat} {x1 : Int32} {G : AH} (h0 : 0 < d) (h : (x1 < 0 → Q (some (vi (-1))) G) ∧ (¬ (x1 < 0) → isO E G x0 12 ∧ ((x1 < (gI G x0 91) → wpI E (d - 1) M_X12_freeSlot [vr x0] G (fun r2 G3 => (¬ r2 = 4 → isO E G3 x0 12 ∧ (∀ G5 : AH, G5 = sI G3 x0 93 1 → isO E G5 (gR G5 x0 90) 14 ∧ (vp_in x1 (gN G5 (gR G5 x0 90)) ∧ (vp_in (x1 + 1) (gN G5 (gR G5 x0 90)) ∧ (wpI E (d - 1) M_X12_readRow [vr x0, vi (gI G5 (gR G5 x0 90) (Int32.toNatClampNeg x1)), vi (gI G5 (gR G5 x0 90) (Int32.toNatClampNeg (x1 + 1))), vi r2] G5 (fun r10 G11 => isO E G11 x0 12 ∧ (isO E G11 (gR G11 x0 5) 16 ∧ (vp_in r2 (gN G11 (gR G11 x0 5)) ∧ (∀ G15 : AH, G15 = sI G11 (gR G11 x0 5) (Int32.toNatClampNeg r2) (nz 1) → Q (some (vi r2)) G15))))))))) ∧ (r2 = 4 → Q (some (vi (-100000))) G3))) ∧ (¬ (x1 < (gI G x0 91)) → Q (some (vi (-1))) G)))) : wp E d M_X12_load 0 [some (vr x0), some (vi x1), none, none] [] G Q := by
  refine wp_iload_n (pc := 0) d_X12_load_0 rfl ?_
  refine wp_if_lt (pc := 1) (tgt := 12) d_X12_load_1 (by decide) (fun hc => ?_) (fun hc => ?_)
  · have h := h.1 hc
    refine wp_iconst (pc := 12) (v := (-1)) d_X12_load_12 rfl ?_
    exact wp_iret (pc := 13) d_X12_load_13 rfl h
  · have h := h.2 hc
    refine wp_iload_n (pc := 4) d_X12_load_4 rfl ?_
    refine wp_aload_n (pc := 5) d_X12_load_5 rfl ?_
    obtain ⟨ho1, h⟩ := h
    refine wp_getI (pc := 6) d_X12_load_6 fl_X12_713 (fun _ _ _ => rfl) ho1 ?_
    refine wp_icmp_lt (pc := 9) (tgt := 14) d_X12_load_9 (by decide) (fun hc => ?_) (fun hc => ?_)
    · have h := h.1 hc
      refine wp_aload_n (pc := 14) d_X12_load_14 rfl ?_
      refine wp_invV (pc := 15) (N := M_X12_freeSlot) (As := []) (rest := []) (r := (cn_12, ct_12, 95)) d_X12_load_15 ml_X12_444 mk_X12_freeSlot mv_X12_freeSlot h0 ho1 rfl rfl (Nat.le_of_ble_eq_true rfl) ?_
      refine wpM.mono h (fun rr G3 hr => ?_)
      obtain ⟨r2, rfl, h⟩ := hr
      show wp E d M_X12_load 18 [some (vr _), some (vi _), none, none] [vi _] G3 Q
      refine wp_istore_n (pc := 18) (lv' := [some (vr _), some (vi _), some (vi _), none]) d_X12_load_18 (by decide) rfl ?_
      refine wp_iload_n (pc := 19) d_X12_load_19 rfl ?_
      refine wp_iconst (pc := 20) (v := 4) d_X12_load_20 rfl ?_
      refine wp_icmp_ne (pc := 21) (tgt := 27) d_X12_load_21 (by decide) (fun hc => ?_) (fun hc => ?_)
      · have h := h.1 hc
        refine wp_aload_n (pc := 27) d_X12_load_27 rfl ?_
        refine wp_iconst (pc := 28) (v := 1) d_X12_load_28 rfl ?_
        obtain ⟨ho4, h⟩ := h
        refine wp_putI (pc := 29) d_X12_load_29 fl_X12_729 (fun _ _ _ => rfl) (Or.inl rfl) ho4 okI_z1 ?_
        refine wp_nm (fun G5 eG5 => ?_)
        have h := h G5 eG5
        have ho6 := isO_sI eG5 ho4
        refine wp_aload_n (pc := 32) d_X12_load_32 rfl ?_
        refine wp_aload_n (pc := 33) d_X12_load_33 rfl ?_
        refine wp_getR (pc := 34) d_X12_load_34 fl_X12_208 (fun _ _ _ => rfl) ho6 ?_
        refine wp_iload_n (pc := 37) d_X12_load_37 rfl ?_
        obtain ⟨ho7, h⟩ := h
        obtain ⟨hi8, h⟩ := h
        refine wp_iald (pc := 38) d_X12_load_38 ho7 hi8 ?_
        refine wp_aload_n (pc := 39) d_X12_load_39 rfl ?_
        refine wp_getR (pc := 40) d_X12_load_40 fl_X12_208 (fun _ _ _ => rfl) ho6 ?_
        refine wp_iload_n (pc := 43) d_X12_load_43 rfl ?_
        refine wp_iconst (pc := 44) (v := 1) d_X12_load_44 rfl ?_
        refine wp_iadd (pc := 45) d_X12_load_45 ?_
        obtain ⟨hi9, h⟩ := h
        refine wp_iald (pc := 46) d_X12_load_46 ho7 hi9 ?_
        refine wp_iload_n (pc := 47) d_X12_load_47 rfl ?_
        refine wp_invV (pc := 48) (N := M_X12_readRow) (As := [vi _, vi _, vi _]) (rest := []) (r := (cn_12, ct_12, 95)) d_X12_load_48 ml_X12_739 mk_X12_readRow mv_X12_readRow h0 ho6 rfl rfl (Nat.le_of_ble_eq_true rfl) ?_
        refine wpM.mono h (fun rr G11 hr => ?_)
        obtain ⟨r10, rfl, h⟩ := hr
        show wp E d M_X12_load 51 [some (vr _), some (vi _), some (vi _), none] [vi _] G11 Q
        refine wp_istore_n (pc := 51) (lv' := [some (vr _), some (vi _), some (vi _), some (vi _)]) d_X12_load_51 (by decide) rfl ?_
        refine wp_aload_n (pc := 52) d_X12_load_52 rfl ?_
        obtain ⟨ho12, h⟩ := h
        refine wp_getR (pc := 53) d_X12_load_53 fl_X12_19 (fun _ _ _ => rfl) ho12 ?_
        refine wp_iload_n (pc := 56) d_X12_load_56 rfl ?_
        refine wp_iconst (pc := 57) (v := 1) d_X12_load_57 rfl ?_
        obtain ⟨ho13, h⟩ := h
        obtain ⟨hi14, h⟩ := h
        refine wp_zast (pc := 58) d_X12_load_58 ho13 hi14 ?_
        refine wp_nm (fun G15 eG15 => ?_)
        have h := h G15 eG15
        have ho16 := isO_sI eG15 ho12
        refine wp_iload_n (pc := 59) d_X12_load_59 rfl ?_
        exact wp_iret (pc := 60) d_X12_load_60 rfl h
      · have h := h.2 hc
        refine wp_ldc (pc := 24) (v := (-100000)) d_X12_load_24 ci_X12_220 ?_
        exact wp_iret (pc := 26) d_X12_load_26 rfl h
    · have h := h.2 hc
      refine wp_iconst (pc := 12) (v := (-1)) d_X12_load_12 rfl ?_
      exact wp_iret (pc := 13) d_X12_load_13 rfl h
theorem d_X12_freeSlot_0 : decode prog_14_method_49_code 0 = .ok (.iconst 0, 1) := by decide +kernel
theorem d_X12_freeSlot_1 : decode prog_14_method_49_code 1 = .ok (.istore_n 1, 1) := by decide +kernel
theorem d_X12_freeSlot_2 : decode prog_14_method_49_code 2 = .ok (.iload_n 1, 1) := by decide +kernel
theorem d_X12_freeSlot_3 : decode prog_14_method_49_code 3 = .ok (.iconst 4, 1) := by decide +kernel
theorem d_X12_freeSlot_4 : decode prog_14_method_49_code 4 = .ok (.if_icmp .ge 18, 3) := by decide +kernel
theorem d_X12_freeSlot_7 : decode prog_14_method_49_code 7 = .ok (.aload_n 0, 1) := by decide +kernel
theorem d_X12_freeSlot_8 : decode prog_14_method_49_code 8 = .ok (.getfield 19, 3) := by decide +kernel
theorem d_X12_freeSlot_11 : decode prog_14_method_49_code 11 = .ok (.iload_n 1, 1) := by decide +kernel
theorem d_X12_freeSlot_12 : decode prog_14_method_49_code 12 = .ok (.baload, 1) := by decide +kernel
theorem d_X12_freeSlot_13 : decode prog_14_method_49_code 13 = .ok (.ifCond .eq 9, 3) := by decide +kernel
theorem d_X12_freeSlot_16 : decode prog_14_method_49_code 16 = .ok (.iinc 1 1, 3) := by decide +kernel
theorem d_X12_freeSlot_19 : decode prog_14_method_49_code 19 = .ok (.goto (-17), 3) := by decide +kernel
theorem d_X12_freeSlot_22 : decode prog_14_method_49_code 22 = .ok (.iload_n 1, 1) := by decide +kernel
theorem d_X12_freeSlot_23 : decode prog_14_method_49_code 23 = .ok (.ireturn, 1) := by decide +kernel
theorem v_X12_freeSlot_0 {E : EE} {d : Nat} {Q : Option AV → AH → Prop} {x0 : Nat} {G : AH} (h : wp E d M_X12_freeSlot 2 [some (vr x0), some (vi 0)] [] G Q) : wp E d M_X12_freeSlot 0 [some (vr x0), none] [] G Q := by
  refine wp_iconst (pc := 0) (v := 0) d_X12_freeSlot_0 rfl ?_
  refine wp_istore_n (pc := 1) (lv' := [some (vr _), some (vi _)]) d_X12_freeSlot_1 (by decide) rfl ?_
  refine wp_sub ?_ h
  exact ⟨rfl, ⟨rfl, trivial⟩⟩
theorem v_X12_freeSlot_2 {E : EE} {d : Nat} {Q : Option AV → AH → Prop} {x0 : Nat} {x1 : Int32} {G : AH} (h : (4 ≤ x1 → Q (some (vi x1)) G) ∧ (¬ (4 ≤ x1) → isO E G x0 12 ∧ (isO E G (gR G x0 5) 16 ∧ (vp_in x1 (gN G (gR G x0 5)) ∧ (((gI G (gR G x0 5) (Int32.toNatClampNeg x1)) = 0 → Q (some (vi x1)) G) ∧ (¬ ((gI G (gR G x0 5) (Int32.toNatClampNeg x1)) = 0) → wp E d M_X12_freeSlot 2 [some (vr x0), some (vi (x1 + 1))] [] G Q)))))) : wp E d M_X12_freeSlot 2 [some (vr x0), some (vi x1)] [] G Q := by
  refine wp_iload_n (pc := 2) d_X12_freeSlot_2 rfl ?_
  refine wp_iconst (pc := 3) (v := 4) d_X12_freeSlot_3 rfl ?_
  refine wp_icmp_ge (pc := 4) (tgt := 22) d_X12_freeSlot_4 (by decide) (fun hc => ?_) (fun hc => ?_)
  · have h := h.1 hc
    refine wp_iload_n (pc := 22) d_X12_freeSlot_22 rfl ?_
    exact wp_iret (pc := 23) d_X12_freeSlot_23 rfl h
  · have h := h.2 hc
    refine wp_aload_n (pc := 7) d_X12_freeSlot_7 rfl ?_
    obtain ⟨ho1, h⟩ := h
    refine wp_getR (pc := 8) d_X12_freeSlot_8 fl_X12_19 (fun _ _ _ => rfl) ho1 ?_
    refine wp_iload_n (pc := 11) d_X12_freeSlot_11 rfl ?_
    obtain ⟨ho2, h⟩ := h
    obtain ⟨hi3, h⟩ := h
    refine wp_zald (pc := 12) d_X12_freeSlot_12 ho2 hi3 ?_
    refine wp_if_eq (pc := 13) (tgt := 22) d_X12_freeSlot_13 (by decide) (fun hc => ?_) (fun hc => ?_)
    · have h := h.1 hc
      refine wp_iload_n (pc := 22) d_X12_freeSlot_22 rfl ?_
      exact wp_iret (pc := 23) d_X12_freeSlot_23 rfl h
    · have h := h.2 hc
      refine wp_iinc (pc := 16) (v := 1) (lv' := [some (vr _), some (vi _)]) d_X12_freeSlot_16 (by decide) rfl rfl rfl ?_
      refine wp_goto (pc := 19) (tgt := 2) d_X12_freeSlot_19 (by decide) ?_
      refine wp_sub ?_ h
      exact ⟨rfl, ⟨rfl, trivial⟩⟩
theorem d_X12_save_0 : decode prog_14_method_173_code 0 = .ok (.aload_n 0, 1) := by decide +kernel
theorem d_X12_save_1 : decode prog_14_method_173_code 1 = .ok (.iload_n 1, 1) := by decide +kernel
theorem d_X12_save_2 : decode prog_14_method_173_code 2 = .ok (.invokevirtual 453, 3) := by decide +kernel
theorem d_X12_save_5 : decode prog_14_method_173_code 5 = .ok (.ifCond .ne 5, 3) := by decide +kernel
theorem d_X12_save_8 : decode prog_14_method_173_code 8 = .ok (.iconst (-1), 1) := by decide +kernel
theorem d_X12_save_9 : decode prog_14_method_173_code 9 = .ok (.ireturn, 1) := by decide +kernel
theorem d_X12_save_10 : decode prog_14_method_173_code 10 = .ok (.aload_n 0, 1) := by decide +kernel
theorem d_X12_save_11 : decode prog_14_method_173_code 11 = .ok (.getfield 713, 3) := by decide +kernel
theorem d_X12_save_14 : decode prog_14_method_173_code 14 = .ok (.bipush 100, 2) := by decide +kernel
theorem d_X12_save_16 : decode prog_14_method_173_code 16 = .ok (.if_icmp .eq 19, 3) := by decide +kernel
theorem d_X12_save_19 : decode prog_14_method_173_code 19 = .ok (.aload_n 0, 1) := by decide +kernel
theorem d_X12_save_20 : decode prog_14_method_173_code 20 = .ok (.getfield 708, 3) := by decide +kernel
theorem d_X12_save_23 : decode prog_14_method_173_code 23 = .ok (.aload_n 0, 1) := by decide +kernel
theorem d_X12_save_24 : decode prog_14_method_173_code 24 = .ok (.iload_n 1, 1) := by decide +kernel
theorem d_X12_save_25 : decode prog_14_method_173_code 25 = .ok (.invokevirtual 716, 3) := by decide +kernel
theorem d_X12_save_28 : decode prog_14_method_173_code 28 = .ok (.iadd, 1) := by decide +kernel
theorem d_X12_save_29 : decode prog_14_method_173_code 29 = .ok (.sipush 19990, 3) := by decide +kernel
theorem d_X12_save_32 : decode prog_14_method_173_code 32 = .ok (.if_icmp .le 6, 3) := by decide +kernel
theorem d_X12_save_35 : decode prog_14_method_173_code 35 = .ok (.ldc 220, 2) := by decide +kernel
theorem d_X12_save_37 : decode prog_14_method_173_code 37 = .ok (.ireturn, 1) := by decide +kernel
theorem d_X12_save_38 : decode prog_14_method_173_code 38 = .ok (.aload_n 0, 1) := by decide +kernel
theorem d_X12_save_39 : decode prog_14_method_173_code 39 = .ok (.getfield 708, 3) := by decide +kernel
theorem d_X12_save_42 : decode prog_14_method_173_code 42 = .ok (.istore_n 2, 1) := by decide +kernel
theorem d_X12_save_43 : decode prog_14_method_173_code 43 = .ok (.aload_n 0, 1) := by decide +kernel
theorem d_X12_save_44 : decode prog_14_method_173_code 44 = .ok (.ldc2_w 719, 3) := by decide +kernel
theorem d_X12_save_47 : decode prog_14_method_173_code 47 = .ok (.iconst 1, 1) := by decide +kernel
theorem d_X12_save_48 : decode prog_14_method_173_code 48 = .ok (.invokevirtual 721, 3) := by decide +kernel
theorem d_X12_save_51 : decode prog_14_method_173_code 51 = .ok (.aload_n 0, 1) := by decide +kernel
theorem d_X12_save_52 : decode prog_14_method_173_code 52 = .ok (.aload_n 0, 1) := by decide +kernel
theorem d_X12_save_53 : decode prog_14_method_173_code 53 = .ok (.getfield 27, 3) := by decide +kernel
theorem d_X12_save_56 : decode prog_14_method_173_code 56 = .ok (.iload_n 1, 1) := by decide +kernel
theorem d_X12_save_57 : decode prog_14_method_173_code 57 = .ok (.iaload, 1) := by decide +kernel
theorem d_X12_save_58 : decode prog_14_method_173_code 58 = .ok (.i2l, 1) := by decide +kernel
theorem d_X12_save_59 : decode prog_14_method_173_code 59 = .ok (.iconst 2, 1) := by decide +kernel
theorem d_X12_save_60 : decode prog_14_method_173_code 60 = .ok (.invokevirtual 721, 3) := by decide +kernel
theorem d_X12_save_63 : decode prog_14_method_173_code 63 = .ok (.iconst 0, 1) := by decide +kernel
theorem d_X12_save_64 : decode prog_14_method_173_code 64 = .ok (.istore_n 3, 1) := by decide +kernel
theorem v_X12_save_0 {E : EE} {d : Nat} {Q : Option AV → AH → Prop} {x0 : Nat} {x1 : Int32} {G : AH} (h0 : 0 < d) (h : isO E G x0 12 ∧ (wpI E (d - 1) M_X12_isProblem [vr x0, vi x1] G (fun r1 G2 => (¬ r1 = 0 → isO E G2 x0 12 ∧ (((gI G2 x0 91) = 100 → Q (some (vi (-100000))) G2) ∧ (¬ ((gI G2 x0 91) = 100) → wpI E (d - 1) M_X12_needOf [vr x0, vi x1] G2 (fun r4 G5 => (((gI G2 x0 89) + r4) ≤ 19990 → isO E G5 x0 12 ∧ (wpV E (d - 1) M_X12_storeBytes [vr x0, vj 211, vi 1] G5 (fun G7 => isO E G7 x0 12 ∧ (isO E G7 (gR G7 x0 7) 14 ∧ (vp_in x1 (gN G7 (gR G7 x0 7)) ∧ (wpV E (d - 1) M_X12_storeBytes [vr x0, vj (Int32.toInt64 (gI G7 (gR G7 x0 7) (Int32.toNatClampNeg x1))), vi 2] G7 (fun G11 => wp E d M_X12_save 65 [some (vr x0), some (vi x1), some (vi (gI G5 x0 89)), some (vi 0), none, none, none] [] G11 Q))))))) ∧ (¬ (((gI G2 x0 89) + r4) ≤ 19990) → Q (some (vi (-100000))) G5))))) ∧ (r1 = 0 → Q (some (vi (-1))) G2)))) : wp E d M_X12_save 0 [some (vr x0), some (vi x1), none, none, none, none, none] [] G Q := by
  refine wp_aload_n (pc := 0) d_X12_save_0 rfl ?_
  refine wp_iload_n (pc := 1) d_X12_save_1 rfl ?_
  obtain ⟨ho12, h⟩ := h
  refine wp_invV (pc := 2) (N := M_X12_isProblem) (As := [vi _]) (rest := []) (r := (cn_12, ct_12, 95)) d_X12_save_2 ml_X12_453 mk_X12_isProblem mv_X12_isProblem h0 ho12 rfl rfl (Nat.le_of_ble_eq_true rfl) ?_
  refine wpM.mono h (fun rr G2 hr => ?_)
  obtain ⟨r1, rfl, h⟩ := hr
  show wp E d M_X12_save 5 [some (vr _), some (vi _), none, none, none, none, none] [vi _] G2 Q
  refine wp_if_ne (pc := 5) (tgt := 10) d_X12_save_5 (by decide) (fun hc => ?_) (fun hc => ?_)
  · have h := h.1 hc
    refine wp_aload_n (pc := 10) d_X12_save_10 rfl ?_
    obtain ⟨ho3, h⟩ := h
    refine wp_getI (pc := 11) d_X12_save_11 fl_X12_713 (fun _ _ _ => rfl) ho3 ?_
    refine wp_bipush (pc := 14) (v := 100) d_X12_save_14 rfl ?_
    refine wp_icmp_eq (pc := 16) (tgt := 35) d_X12_save_16 (by decide) (fun hc => ?_) (fun hc => ?_)
    · have h := h.1 hc
      refine wp_ldc (pc := 35) (v := (-100000)) d_X12_save_35 ci_X12_220 ?_
      exact wp_iret (pc := 37) d_X12_save_37 rfl h
    · have h := h.2 hc
      refine wp_aload_n (pc := 19) d_X12_save_19 rfl ?_
      refine wp_getI (pc := 20) d_X12_save_20 fl_X12_708 (fun _ _ _ => rfl) ho3 ?_
      refine wp_aload_n (pc := 23) d_X12_save_23 rfl ?_
      refine wp_iload_n (pc := 24) d_X12_save_24 rfl ?_
      refine wp_invV (pc := 25) (N := M_X12_needOf) (As := [vi _]) (rest := [vi _]) (r := (cn_12, ct_12, 95)) d_X12_save_25 ml_X12_716 mk_X12_needOf mv_X12_needOf h0 ho3 rfl rfl (Nat.le_of_ble_eq_true rfl) ?_
      refine wpM.mono h (fun rr G5 hr => ?_)
      obtain ⟨r4, rfl, h⟩ := hr
      show wp E d M_X12_save 28 [some (vr _), some (vi _), none, none, none, none, none] [vi _, vi _] G5 Q
      refine wp_iadd (pc := 28) d_X12_save_28 ?_
      refine wp_sipush (pc := 29) (v := 19990) d_X12_save_29 rfl ?_
      refine wp_icmp_le (pc := 32) (tgt := 38) d_X12_save_32 (by decide) (fun hc => ?_) (fun hc => ?_)
      · have h := h.1 hc
        refine wp_aload_n (pc := 38) d_X12_save_38 rfl ?_
        obtain ⟨ho6, h⟩ := h
        refine wp_getI (pc := 39) d_X12_save_39 fl_X12_708 (fun _ _ _ => rfl) ho6 ?_
        refine wp_istore_n (pc := 42) (lv' := [some (vr _), some (vi _), some (vi _), none, none, none, none]) d_X12_save_42 (by decide) rfl ?_
        refine wp_aload_n (pc := 43) d_X12_save_43 rfl ?_
        refine wp_ldc2 (pc := 44) (v := 211) d_X12_save_44 cj_X12_719 ?_
        refine wp_iconst (pc := 47) (v := 1) d_X12_save_47 rfl ?_
        refine wp_invV (pc := 48) (N := M_X12_storeBytes) (As := [vj _, vi _]) (rest := []) (r := (cn_12, ct_12, 95)) d_X12_save_48 ml_X12_721 mk_X12_storeBytes mv_X12_storeBytes h0 ho6 rfl rfl (Nat.le_of_ble_eq_true rfl) ?_
        refine wpM.mono h (fun rr G7 hr => ?_)
        obtain ⟨rfl, h⟩ := hr
        show wp E d M_X12_save 51 [some (vr _), some (vi _), some (vi _), none, none, none, none] [] G7 Q
        refine wp_aload_n (pc := 51) d_X12_save_51 rfl ?_
        refine wp_aload_n (pc := 52) d_X12_save_52 rfl ?_
        obtain ⟨ho8, h⟩ := h
        refine wp_getR (pc := 53) d_X12_save_53 fl_X12_27 (fun _ _ _ => rfl) ho8 ?_
        refine wp_iload_n (pc := 56) d_X12_save_56 rfl ?_
        obtain ⟨ho9, h⟩ := h
        obtain ⟨hi10, h⟩ := h
        refine wp_iald (pc := 57) d_X12_save_57 ho9 hi10 ?_
        refine wp_i2l (pc := 58) d_X12_save_58 ?_
        refine wp_iconst (pc := 59) (v := 2) d_X12_save_59 rfl ?_
        refine wp_invV (pc := 60) (N := M_X12_storeBytes) (As := [vj _, vi _]) (rest := []) (r := (cn_12, ct_12, 95)) d_X12_save_60 ml_X12_721 mk_X12_storeBytes mv_X12_storeBytes h0 ho8 rfl rfl (Nat.le_of_ble_eq_true rfl) ?_
        refine wpM.mono h (fun rr G11 hr => ?_)
        obtain ⟨rfl, h⟩ := hr
        show wp E d M_X12_save 63 [some (vr _), some (vi _), some (vi _), none, none, none, none] [] G11 Q
        refine wp_iconst (pc := 63) (v := 0) d_X12_save_63 rfl ?_
        refine wp_istore_n (pc := 64) (lv' := [some (vr _), some (vi _), some (vi _), some (vi _), none, none, none]) d_X12_save_64 (by decide) rfl ?_
        refine wp_sub ?_ h
        exact ⟨rfl, ⟨rfl, ⟨rfl, ⟨rfl, trivial⟩⟩⟩⟩
      · have h := h.2 hc
        refine wp_ldc (pc := 35) (v := (-100000)) d_X12_save_35 ci_X12_220 ?_
        exact wp_iret (pc := 37) d_X12_save_37 rfl h
  · have h := h.2 hc
    refine wp_iconst (pc := 8) (v := (-1)) d_X12_save_8 rfl ?_
    exact wp_iret (pc := 9) d_X12_save_9 rfl h
theorem d_X12_isProblem_0 : decode prog_14_method_52_code 0 = .ok (.iload_n 1, 1) := by decide +kernel
theorem d_X12_isProblem_1 : decode prog_14_method_52_code 1 = .ok (.ifCond .lt 21, 3) := by decide +kernel
theorem d_X12_isProblem_4 : decode prog_14_method_52_code 4 = .ok (.iload_n 1, 1) := by decide +kernel
theorem d_X12_isProblem_5 : decode prog_14_method_52_code 5 = .ok (.iconst 4, 1) := by decide +kernel
theorem d_X12_isProblem_6 : decode prog_14_method_52_code 6 = .ok (.if_icmp .ge 16, 3) := by decide +kernel
theorem d_X12_isProblem_9 : decode prog_14_method_52_code 9 = .ok (.aload_n 0, 1) := by decide +kernel
theorem d_X12_isProblem_10 : decode prog_14_method_52_code 10 = .ok (.getfield 19, 3) := by decide +kernel
theorem d_X12_isProblem_13 : decode prog_14_method_52_code 13 = .ok (.iload_n 1, 1) := by decide +kernel
theorem d_X12_isProblem_14 : decode prog_14_method_52_code 14 = .ok (.baload, 1) := by decide +kernel
theorem d_X12_isProblem_15 : decode prog_14_method_52_code 15 = .ok (.ifCond .eq 7, 3) := by decide +kernel
theorem d_X12_isProblem_18 : decode prog_14_method_52_code 18 = .ok (.iconst 1, 1) := by decide +kernel
theorem d_X12_isProblem_19 : decode prog_14_method_52_code 19 = .ok (.goto 4, 3) := by decide +kernel
theorem d_X12_isProblem_22 : decode prog_14_method_52_code 22 = .ok (.iconst 0, 1) := by decide +kernel
theorem d_X12_isProblem_23 : decode prog_14_method_52_code 23 = .ok (.ireturn, 1) := by decide +kernel
theorem v_X12_isProblem_0 {E : EE} {d : Nat} {Q : Option AV → AH → Prop} {x0 : Nat} {x1 : Int32} {G : AH} (h : (x1 < 0 → Q (some (vi 0)) G) ∧ (¬ (x1 < 0) → (4 ≤ x1 → Q (some (vi 0)) G) ∧ (¬ (4 ≤ x1) → isO E G x0 12 ∧ (isO E G (gR G x0 5) 16 ∧ (vp_in x1 (gN G (gR G x0 5)) ∧ (((gI G (gR G x0 5) (Int32.toNatClampNeg x1)) = 0 → Q (some (vi 0)) G) ∧ (¬ ((gI G (gR G x0 5) (Int32.toNatClampNeg x1)) = 0) → Q (some (vi 1)) G))))))) : wp E d M_X12_isProblem 0 [some (vr x0), some (vi x1)] [] G Q := by
  refine wp_iload_n (pc := 0) d_X12_isProblem_0 rfl ?_
  refine wp_if_lt (pc := 1) (tgt := 22) d_X12_isProblem_1 (by decide) (fun hc => ?_) (fun hc => ?_)
  · have h := h.1 hc
    refine wp_iconst (pc := 22) (v := 0) d_X12_isProblem_22 rfl ?_
    exact wp_zret (pc := 23) d_X12_isProblem_23 rfl rfl h
  · have h := h.2 hc
    refine wp_iload_n (pc := 4) d_X12_isProblem_4 rfl ?_
    refine wp_iconst (pc := 5) (v := 4) d_X12_isProblem_5 rfl ?_
    refine wp_icmp_ge (pc := 6) (tgt := 22) d_X12_isProblem_6 (by decide) (fun hc => ?_) (fun hc => ?_)
    · have h := h.1 hc
      refine wp_iconst (pc := 22) (v := 0) d_X12_isProblem_22 rfl ?_
      exact wp_zret (pc := 23) d_X12_isProblem_23 rfl rfl h
    · have h := h.2 hc
      refine wp_aload_n (pc := 9) d_X12_isProblem_9 rfl ?_
      obtain ⟨ho1, h⟩ := h
      refine wp_getR (pc := 10) d_X12_isProblem_10 fl_X12_19 (fun _ _ _ => rfl) ho1 ?_
      refine wp_iload_n (pc := 13) d_X12_isProblem_13 rfl ?_
      obtain ⟨ho2, h⟩ := h
      obtain ⟨hi3, h⟩ := h
      refine wp_zald (pc := 14) d_X12_isProblem_14 ho2 hi3 ?_
      refine wp_if_eq (pc := 15) (tgt := 22) d_X12_isProblem_15 (by decide) (fun hc => ?_) (fun hc => ?_)
      · have h := h.1 hc
        refine wp_iconst (pc := 22) (v := 0) d_X12_isProblem_22 rfl ?_
        exact wp_zret (pc := 23) d_X12_isProblem_23 rfl rfl h
      · have h := h.2 hc
        refine wp_iconst (pc := 18) (v := 1) d_X12_isProblem_18 rfl ?_
        refine wp_goto (pc := 19) (tgt := 23) d_X12_isProblem_19 (by decide) ?_
        exact wp_zret (pc := 23) d_X12_isProblem_23 rfl rfl h
theorem d_X12_below_0 : decode prog_14_method_169_code 0 = .ok (.aload_n 0, 1) := by decide +kernel
theorem d_X12_below_1 : decode prog_14_method_169_code 1 = .ok (.getfield 15, 3) := by decide +kernel
theorem d_X12_below_4 : decode prog_14_method_169_code 4 = .ok (.lreturn, 1) := by decide +kernel
theorem v_X12_below_0 {E : EE} {d : Nat} {Q : Option AV → AH → Prop} {x0 : Nat} {G : AH} (h : isO E G x0 12 ∧ (Q (some (vj (gJ G x0 3))) G)) : wp E d M_X12_below 0 [some (vr x0)] [] G Q := by
  refine wp_aload_n (pc := 0) d_X12_below_0 rfl ?_
  obtain ⟨ho1, h⟩ := h
  refine wp_getJ (pc := 1) d_X12_below_1 fl_X12_15 (fun _ _ _ => rfl) ho1 ?_
  exact wp_lret (pc := 4) d_X12_below_4 rfl h
theorem d_X12_above_0 : decode prog_14_method_168_code 0 = .ok (.aload_n 0, 1) := by decide +kernel
theorem d_X12_above_1 : decode prog_14_method_168_code 1 = .ok (.getfield 605, 3) := by decide +kernel
theorem d_X12_above_4 : decode prog_14_method_168_code 4 = .ok (.lreturn, 1) := by decide +kernel
theorem v_X12_above_0 {E : EE} {d : Nat} {Q : Option AV → AH → Prop} {x0 : Nat} {G : AH} (h : isO E G x0 12 ∧ (Q (some (vj (gJ G x0 2))) G)) : wp E d M_X12_above 0 [some (vr x0)] [] G Q := by
  refine wp_aload_n (pc := 0) d_X12_above_0 rfl ?_
  obtain ⟨ho1, h⟩ := h
  refine wp_getJ (pc := 1) d_X12_above_1 fl_X12_605 (fun _ _ _ => rfl) ho1 ?_
  exact wp_lret (pc := 4) d_X12_above_4 rfl h
theorem d_X12_prove_0 : decode prog_14_method_167_code 0 = .ok (.aload_n 0, 1) := by decide +kernel
theorem d_X12_prove_1 : decode prog_14_method_167_code 1 = .ok (.iload_n 1, 1) := by decide +kernel
theorem d_X12_prove_2 : decode prog_14_method_167_code 2 = .ok (.invokevirtual 453, 3) := by decide +kernel
theorem d_X12_prove_5 : decode prog_14_method_167_code 5 = .ok (.ifCond .ne 5, 3) := by decide +kernel
theorem d_X12_prove_8 : decode prog_14_method_167_code 8 = .ok (.iconst (-1), 1) := by decide +kernel
theorem d_X12_prove_9 : decode prog_14_method_167_code 9 = .ok (.ireturn, 1) := by decide +kernel
theorem d_X12_prove_10 : decode prog_14_method_167_code 10 = .ok (.aload_n 0, 1) := by decide +kernel
theorem d_X12_prove_11 : decode prog_14_method_167_code 11 = .ok (.iload_n 1, 1) := by decide +kernel
theorem d_X12_prove_12 : decode prog_14_method_167_code 12 = .ok (.invokevirtual 571, 3) := by decide +kernel
theorem d_X12_prove_15 : decode prog_14_method_167_code 15 = .ok (.aload_n 0, 1) := by decide +kernel
theorem d_X12_prove_16 : decode prog_14_method_167_code 16 = .ok (.iload_n 1, 1) := by decide +kernel
theorem d_X12_prove_17 : decode prog_14_method_167_code 17 = .ok (.invokevirtual 580, 3) := by decide +kernel
theorem d_X12_prove_20 : decode prog_14_method_167_code 20 = .ok (.istore_n 2, 1) := by decide +kernel
theorem d_X12_prove_21 : decode prog_14_method_167_code 21 = .ok (.iconst 0, 1) := by decide +kernel
theorem d_X12_prove_22 : decode prog_14_method_167_code 22 = .ok (.istore_n 3, 1) := by decide +kernel
theorem v_X12_prove_0 {E : EE} {d : Nat} {Q : Option AV → AH → Prop} {x0 : Nat} {x1 : Int32} {G : AH} (h0 : 0 < d) (h : isO E G x0 12 ∧ (wpI E (d - 1) M_X12_isProblem [vr x0, vi x1] G (fun r1 G2 => (¬ r1 = 0 → isO E G2 x0 12 ∧ (wpV E (d - 1) M_X12_know [vr x0, vi x1] G2 (fun G3 => isO E G3 x0 12 ∧ (wpI E (d - 1) M_X12_handOf [vr x0, vi x1] G3 (fun r4 G5 => wp E d M_X12_prove 23 [some (vr x0), some (vi x1), some (vi r4), some (vi 0)] [] G5 Q))))) ∧ (r1 = 0 → Q (some (vi (-1))) G2)))) : wp E d M_X12_prove 0 [some (vr x0), some (vi x1), none, none] [] G Q := by
  refine wp_aload_n (pc := 0) d_X12_prove_0 rfl ?_
  refine wp_iload_n (pc := 1) d_X12_prove_1 rfl ?_
  obtain ⟨ho8, h⟩ := h
  refine wp_invV (pc := 2) (N := M_X12_isProblem) (As := [vi _]) (rest := []) (r := (cn_12, ct_12, 95)) d_X12_prove_2 ml_X12_453 mk_X12_isProblem mv_X12_isProblem h0 ho8 rfl rfl (Nat.le_of_ble_eq_true rfl) ?_
  refine wpM.mono h (fun rr G2 hr => ?_)
  obtain ⟨r1, rfl, h⟩ := hr
  show wp E d M_X12_prove 5 [some (vr _), some (vi _), none, none] [vi _] G2 Q
  refine wp_if_ne (pc := 5) (tgt := 10) d_X12_prove_5 (by decide) (fun hc => ?_) (fun hc => ?_)
  · have h := h.1 hc
    refine wp_aload_n (pc := 10) d_X12_prove_10 rfl ?_
    refine wp_iload_n (pc := 11) d_X12_prove_11 rfl ?_
    obtain ⟨ho7, h⟩ := h
    refine wp_invV (pc := 12) (N := M_X12_know) (As := [vi _]) (rest := []) (r := (cn_12, ct_12, 95)) d_X12_prove_12 ml_X12_571 mk_X12_know mv_X12_know h0 ho7 rfl rfl (Nat.le_of_ble_eq_true rfl) ?_
    refine wpM.mono h (fun rr G3 hr => ?_)
    obtain ⟨rfl, h⟩ := hr
    show wp E d M_X12_prove 15 [some (vr _), some (vi _), none, none] [] G3 Q
    refine wp_aload_n (pc := 15) d_X12_prove_15 rfl ?_
    refine wp_iload_n (pc := 16) d_X12_prove_16 rfl ?_
    obtain ⟨ho6, h⟩ := h
    refine wp_invV (pc := 17) (N := M_X12_handOf) (As := [vi _]) (rest := []) (r := (cn_12, ct_12, 95)) d_X12_prove_17 ml_X12_580 mk_X12_handOf mv_X12_handOf h0 ho6 rfl rfl (Nat.le_of_ble_eq_true rfl) ?_
    refine wpM.mono h (fun rr G5 hr => ?_)
    obtain ⟨r4, rfl, h⟩ := hr
    show wp E d M_X12_prove 20 [some (vr _), some (vi _), none, none] [vi _] G5 Q
    refine wp_istore_n (pc := 20) (lv' := [some (vr _), some (vi _), some (vi _), none]) d_X12_prove_20 (by decide) rfl ?_
    refine wp_iconst (pc := 21) (v := 0) d_X12_prove_21 rfl ?_
    refine wp_istore_n (pc := 22) (lv' := [some (vr _), some (vi _), some (vi _), some (vi _)]) d_X12_prove_22 (by decide) rfl ?_
    refine wp_sub ?_ h
    exact ⟨rfl, ⟨rfl, ⟨rfl, ⟨rfl, trivial⟩⟩⟩⟩
  · have h := h.2 hc
    refine wp_iconst (pc := 8) (v := (-1)) d_X12_prove_8 rfl ?_
    exact wp_iret (pc := 9) d_X12_prove_9 rfl h
