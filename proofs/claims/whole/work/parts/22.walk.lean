/-! decode rows and regions (by program): X12_special X12_names X12_aVar X12_states X12_items X12_item X12_isRelation X12_tell X12_ruleStatement X12_varStatement X12_aSet X12_aRange X12_factStatement X12_needOf X12_vars X12_placeOf X12_take X12_crash X12_byteAt X12_size X12_rows X12_load X12_freeSlot X12_save X12_isProblem X12_storeBytes X12_below X12_above X12_prove X12_know X12_weighAll X12_takeFacts -/
theorem d_X12_special_0 : decode prog_14_method_38_code 0 = .ok (.aload_n 0, 1) := by decide +kernel
theorem d_X12_special_1 : decode prog_14_method_38_code 1 = .ok (.getfield 292, 3) := by decide +kernel
theorem d_X12_special_4 : decode prog_14_method_38_code 4 = .ok (.istore_n 1, 1) := by decide +kernel
theorem d_X12_special_5 : decode prog_14_method_38_code 5 = .ok (.aload_n 0, 1) := by decide +kernel
theorem d_X12_special_6 : decode prog_14_method_38_code 6 = .ok (.iconst 0, 1) := by decide +kernel
theorem d_X12_special_7 : decode prog_14_method_38_code 7 = .ok (.invokevirtual 330, 3) := by decide +kernel
theorem d_X12_special_10 : decode prog_14_method_38_code 10 = .ok (.aload_n 0, 1) := by decide +kernel
theorem d_X12_special_11 : decode prog_14_method_38_code 11 = .ok (.bipush 40, 2) := by decide +kernel
theorem d_X12_special_13 : decode prog_14_method_38_code 13 = .ok (.invokevirtual 373, 3) := by decide +kernel
theorem d_X12_special_16 : decode prog_14_method_38_code 16 = .ok (.iconst 0, 1) := by decide +kernel
theorem d_X12_special_17 : decode prog_14_method_38_code 17 = .ok (.istore_n 2, 1) := by decide +kernel
theorem d_X12_special_18 : decode prog_14_method_38_code 18 = .ok (.iload_n 1, 1) := by decide +kernel
theorem d_X12_special_19 : decode prog_14_method_38_code 19 = .ok (.sipush 311, 3) := by decide +kernel
theorem d_X12_special_22 : decode prog_14_method_38_code 22 = .ok (.if_icmp .ne 15, 3) := by decide +kernel
theorem d_X12_special_25 : decode prog_14_method_38_code 25 = .ok (.aload_n 0, 1) := by decide +kernel
theorem d_X12_special_26 : decode prog_14_method_38_code 26 = .ok (.iconst 0, 1) := by decide +kernel
theorem d_X12_special_27 : decode prog_14_method_38_code 27 = .ok (.sipush 9999, 3) := by decide +kernel
theorem d_X12_special_30 : decode prog_14_method_38_code 30 = .ok (.invokevirtual 354, 3) := by decide +kernel
theorem d_X12_special_33 : decode prog_14_method_38_code 33 = .ok (.istore_n 3, 1) := by decide +kernel
theorem d_X12_special_34 : decode prog_14_method_38_code 34 = .ok (.goto 18, 3) := by decide +kernel
theorem d_X12_special_37 : decode prog_14_method_38_code 37 = .ok (.iload_n 1, 1) := by decide +kernel
theorem d_X12_special_38 : decode prog_14_method_38_code 38 = .ok (.sipush 312, 3) := by decide +kernel
theorem d_X12_special_41 : decode prog_14_method_38_code 41 = .ok (.if_icmp .eq 11, 3) := by decide +kernel
theorem d_X12_special_44 : decode prog_14_method_38_code 44 = .ok (.aload_n 0, 1) := by decide +kernel
theorem d_X12_special_45 : decode prog_14_method_38_code 45 = .ok (.bipush 12, 2) := by decide +kernel
theorem d_X12_special_47 : decode prog_14_method_38_code 47 = .ok (.iconst 0, 1) := by decide +kernel
theorem d_X12_special_48 : decode prog_14_method_38_code 48 = .ok (.invokevirtual 414, 3) := by decide +kernel
theorem d_X12_special_51 : decode prog_14_method_38_code 51 = .ok (.istore_n 2, 1) := by decide +kernel
theorem d_X12_special_52 : decode prog_14_method_38_code 52 = .ok (.iload_n 1, 1) := by decide +kernel
theorem d_X12_special_53 : decode prog_14_method_38_code 53 = .ok (.sipush 306, 3) := by decide +kernel
theorem d_X12_special_56 : decode prog_14_method_38_code 56 = .ok (.if_icmp .eq 23, 3) := by decide +kernel
theorem d_X12_special_59 : decode prog_14_method_38_code 59 = .ok (.iload_n 1, 1) := by decide +kernel
theorem d_X12_special_60 : decode prog_14_method_38_code 60 = .ok (.sipush 309, 3) := by decide +kernel
theorem d_X12_special_63 : decode prog_14_method_38_code 63 = .ok (.if_icmp .eq 16, 3) := by decide +kernel
theorem d_X12_special_66 : decode prog_14_method_38_code 66 = .ok (.iload_n 1, 1) := by decide +kernel
theorem d_X12_special_67 : decode prog_14_method_38_code 67 = .ok (.sipush 312, 3) := by decide +kernel
theorem d_X12_special_70 : decode prog_14_method_38_code 70 = .ok (.if_icmp .eq 9, 3) := by decide +kernel
theorem d_X12_special_73 : decode prog_14_method_38_code 73 = .ok (.aload_n 0, 1) := by decide +kernel
theorem d_X12_special_74 : decode prog_14_method_38_code 74 = .ok (.bipush 58, 2) := by decide +kernel
theorem d_X12_special_76 : decode prog_14_method_38_code 76 = .ok (.invokevirtual 373, 3) := by decide +kernel
theorem d_X12_special_79 : decode prog_14_method_38_code 79 = .ok (.iload_n 1, 1) := by decide +kernel
theorem d_X12_special_80 : decode prog_14_method_38_code 80 = .ok (.sipush 308, 3) := by decide +kernel
theorem d_X12_special_83 : decode prog_14_method_38_code 83 = .ok (.if_icmp .ne 13, 3) := by decide +kernel
theorem d_X12_special_86 : decode prog_14_method_38_code 86 = .ok (.aload_n 0, 1) := by decide +kernel
theorem d_X12_special_87 : decode prog_14_method_38_code 87 = .ok (.iload_n 2, 1) := by decide +kernel
theorem d_X12_special_88 : decode prog_14_method_38_code 88 = .ok (.iconst 1, 1) := by decide +kernel
theorem d_X12_special_89 : decode prog_14_method_38_code 89 = .ok (.invokevirtual 414, 3) := by decide +kernel
theorem d_X12_special_92 : decode prog_14_method_38_code 92 = .ok (.istore_n 3, 1) := by decide +kernel
theorem d_X12_special_93 : decode prog_14_method_38_code 93 = .ok (.goto 37, 3) := by decide +kernel
theorem d_X12_special_96 : decode prog_14_method_38_code 96 = .ok (.iload_n 1, 1) := by decide +kernel
theorem d_X12_special_97 : decode prog_14_method_38_code 97 = .ok (.sipush 307, 3) := by decide +kernel
theorem d_X12_special_100 : decode prog_14_method_38_code 100 = .ok (.if_icmp .eq 24, 3) := by decide +kernel
theorem d_X12_special_103 : decode prog_14_method_38_code 103 = .ok (.iload_n 1, 1) := by decide +kernel
theorem d_X12_special_104 : decode prog_14_method_38_code 104 = .ok (.sipush 310, 3) := by decide +kernel
theorem d_X12_special_107 : decode prog_14_method_38_code 107 = .ok (.if_icmp .eq 17, 3) := by decide +kernel
theorem d_X12_special_110 : decode prog_14_method_38_code 110 = .ok (.iload_n 1, 1) := by decide +kernel
theorem d_X12_special_111 : decode prog_14_method_38_code 111 = .ok (.sipush 311, 3) := by decide +kernel
theorem d_X12_special_114 : decode prog_14_method_38_code 114 = .ok (.if_icmp .eq 10, 3) := by decide +kernel
theorem d_X12_special_117 : decode prog_14_method_38_code 117 = .ok (.iload_n 1, 1) := by decide +kernel
theorem d_X12_special_118 : decode prog_14_method_38_code 118 = .ok (.sipush 312, 3) := by decide +kernel
theorem d_X12_special_121 : decode prog_14_method_38_code 121 = .ok (.if_icmp .ne 9, 3) := by decide +kernel
theorem d_X12_special_124 : decode prog_14_method_38_code 124 = .ok (.aload_n 0, 1) := by decide +kernel
theorem d_X12_special_125 : decode prog_14_method_38_code 125 = .ok (.iload_n 1, 1) := by decide +kernel
theorem d_X12_special_126 : decode prog_14_method_38_code 126 = .ok (.iload_n 2, 1) := by decide +kernel
theorem d_X12_special_127 : decode prog_14_method_38_code 127 = .ok (.invokevirtual 418, 3) := by decide +kernel
theorem d_X12_special_130 : decode prog_14_method_38_code 130 = .ok (.iload_n 1, 1) := by decide +kernel
theorem d_X12_special_131 : decode prog_14_method_38_code 131 = .ok (.sipush 310, 3) := by decide +kernel
theorem d_X12_special_134 : decode prog_14_method_38_code 134 = .ok (.if_icmp .ne 13, 3) := by decide +kernel
theorem d_X12_special_137 : decode prog_14_method_38_code 137 = .ok (.aload_n 0, 1) := by decide +kernel
theorem d_X12_special_138 : decode prog_14_method_38_code 138 = .ok (.bipush 58, 2) := by decide +kernel
theorem d_X12_special_140 : decode prog_14_method_38_code 140 = .ok (.invokevirtual 373, 3) := by decide +kernel
theorem d_X12_special_143 : decode prog_14_method_38_code 143 = .ok (.aload_n 0, 1) := by decide +kernel
theorem d_X12_special_144 : decode prog_14_method_38_code 144 = .ok (.invokevirtual 421, 3) := by decide +kernel
theorem d_X12_special_147 : decode prog_14_method_38_code 147 = .ok (.aload_n 0, 1) := by decide +kernel
theorem d_X12_special_148 : decode prog_14_method_38_code 148 = .ok (.bipush 41, 2) := by decide +kernel
theorem d_X12_special_150 : decode prog_14_method_38_code 150 = .ok (.invokevirtual 373, 3) := by decide +kernel
theorem d_X12_special_153 : decode prog_14_method_38_code 153 = .ok (.return_, 1) := by decide +kernel
theorem v_X12_special_0 {E : EE} {d : Nat} {Q : Option AV → AH → Prop} {x0 : Nat} {G : AH} (h0 : 0 < d) (h : isO E G x0 12 ∧ (wpV E (d - 1) M_X12_keep [vr x0, vi 0] G (fun G2 => isO E G2 x0 12 ∧ (wpV E (d - 1) M_X12_need [vr x0, vi 40] G2 (fun G3 => (¬ (gI G x0 41) = 311 → ((gI G x0 41) = 312 → wp E d M_X12_special 52 [some (vr x0), some (vi (gI G x0 41)), some (vi 0), none] [] G3 Q) ∧ (¬ ((gI G x0 41) = 312) → isO E G3 x0 12 ∧ (wpI E (d - 1) M_X12_names [vr x0, vi 12, vi 0] G3 (fun r4 G5 => wp E d M_X12_special 52 [some (vr x0), some (vi (gI G x0 41)), some (vi r4), none] [] G5 Q)))) ∧ ((gI G x0 41) = 311 → isO E G3 x0 12 ∧ (wpI E (d - 1) M_X12_aNumber [vr x0, vi 0, vi 9999] G3 (fun r7 G8 => wp E d M_X12_special 52 [some (vr x0), some (vi (gI G x0 41)), some (vi 0), none] [] G8 Q)))))))) : wp E d M_X12_special 0 [some (vr x0), none, none, none] [] G Q := by
  refine wp_aload_n (pc := 0) d_X12_special_0 rfl ?_
  obtain ⟨ho1, h⟩ := h
  refine wp_getI (pc := 1) d_X12_special_1 fl_X12_292 (fun _ _ _ => rfl) ho1 ?_
  refine wp_istore_n (pc := 4) (lv' := [some (vr _), some (vi _), none, none]) d_X12_special_4 (by decide) rfl ?_
  refine wp_aload_n (pc := 5) d_X12_special_5 rfl ?_
  refine wp_iconst (pc := 6) (v := 0) d_X12_special_6 rfl ?_
  refine wp_invV (pc := 7) (N := M_X12_keep) (As := [vi _]) (rest := []) (r := (cn_12, ct_12, 95)) d_X12_special_7 ml_X12_330 mk_X12_keep mv_X12_keep h0 ho1 rfl rfl (Nat.le_of_ble_eq_true rfl) ?_
  refine wpM.mono h (fun rr G2 hr => ?_)
  obtain ⟨rfl, h⟩ := hr
  show wp E d M_X12_special 10 [some (vr _), some (vi _), none, none] [] G2 Q
  refine wp_aload_n (pc := 10) d_X12_special_10 rfl ?_
  refine wp_bipush (pc := 11) (v := 40) d_X12_special_11 rfl ?_
  obtain ⟨ho10, h⟩ := h
  refine wp_invV (pc := 13) (N := M_X12_need) (As := [vi _]) (rest := []) (r := (cn_12, ct_12, 95)) d_X12_special_13 ml_X12_373 mk_X12_need mv_X12_need h0 ho10 rfl rfl (Nat.le_of_ble_eq_true rfl) ?_
  refine wpM.mono h (fun rr G3 hr => ?_)
  obtain ⟨rfl, h⟩ := hr
  show wp E d M_X12_special 16 [some (vr _), some (vi _), none, none] [] G3 Q
  refine wp_iconst (pc := 16) (v := 0) d_X12_special_16 rfl ?_
  refine wp_istore_n (pc := 17) (lv' := [some (vr _), some (vi _), some (vi _), none]) d_X12_special_17 (by decide) rfl ?_
  refine wp_iload_n (pc := 18) d_X12_special_18 rfl ?_
  refine wp_sipush (pc := 19) (v := 311) d_X12_special_19 rfl ?_
  refine wp_icmp_ne (pc := 22) (tgt := 37) d_X12_special_22 (by decide) (fun hc => ?_) (fun hc => ?_)
  · have h := h.1 hc
    refine wp_iload_n (pc := 37) d_X12_special_37 rfl ?_
    refine wp_sipush (pc := 38) (v := 312) d_X12_special_38 rfl ?_
    refine wp_icmp_eq (pc := 41) (tgt := 52) d_X12_special_41 (by decide) (fun hc => ?_) (fun hc => ?_)
    · have h := h.1 hc
      refine wp_sub ?_ h
      exact ⟨rfl, ⟨rfl, ⟨rfl, trivial⟩⟩⟩
    · have h := h.2 hc
      refine wp_aload_n (pc := 44) d_X12_special_44 rfl ?_
      refine wp_bipush (pc := 45) (v := 12) d_X12_special_45 rfl ?_
      refine wp_iconst (pc := 47) (v := 0) d_X12_special_47 rfl ?_
      obtain ⟨ho6, h⟩ := h
      refine wp_invV (pc := 48) (N := M_X12_names) (As := [vi _, vi _]) (rest := []) (r := (cn_12, ct_12, 95)) d_X12_special_48 ml_X12_414 mk_X12_names mv_X12_names h0 ho6 rfl rfl (Nat.le_of_ble_eq_true rfl) ?_
      refine wpM.mono h (fun rr G5 hr => ?_)
      obtain ⟨r4, rfl, h⟩ := hr
      show wp E d M_X12_special 51 [some (vr _), some (vi _), some (vi _), none] [vi _] G5 Q
      refine wp_istore_n (pc := 51) (lv' := [some (vr _), some (vi _), some (vi _), none]) d_X12_special_51 (by decide) rfl ?_
      refine wp_sub ?_ h
      exact ⟨rfl, ⟨rfl, ⟨rfl, trivial⟩⟩⟩
  · have h := h.2 hc
    refine wp_aload_n (pc := 25) d_X12_special_25 rfl ?_
    refine wp_iconst (pc := 26) (v := 0) d_X12_special_26 rfl ?_
    refine wp_sipush (pc := 27) (v := 9999) d_X12_special_27 rfl ?_
    obtain ⟨ho9, h⟩ := h
    refine wp_invV (pc := 30) (N := M_X12_aNumber) (As := [vi _, vi _]) (rest := []) (r := (cn_12, ct_12, 95)) d_X12_special_30 ml_X12_354 mk_X12_aNumber mv_X12_aNumber h0 ho9 rfl rfl (Nat.le_of_ble_eq_true rfl) ?_
    refine wpM.mono h (fun rr G8 hr => ?_)
    obtain ⟨r7, rfl, h⟩ := hr
    show wp E d M_X12_special 33 [some (vr _), some (vi _), some (vi _), none] [vi _] G8 Q
    refine wp_istore_n (pc := 33) (lv' := [some (vr _), some (vi _), some (vi _), some (vi _)]) d_X12_special_33 (by decide) rfl ?_
    refine wp_goto (pc := 34) (tgt := 52) d_X12_special_34 (by decide) ?_
    refine wp_sub ?_ h
    exact ⟨rfl, ⟨rfl, ⟨rfl, trivial⟩⟩⟩
theorem v_X12_special_52 {E : EE} {d : Nat} {Q : Option AV → AH → Prop} {x0 : Nat} {x1 : Int32} {x2 : Int32} {G : AH} (h0 : 0 < d) (h : (x1 = 306 → wp E d M_X12_special 79 [some (vr x0), some (vi x1), some (vi x2), none] [] G Q) ∧ (¬ (x1 = 306) → (x1 = 309 → wp E d M_X12_special 79 [some (vr x0), some (vi x1), some (vi x2), none] [] G Q) ∧ (¬ (x1 = 309) → (x1 = 312 → wp E d M_X12_special 79 [some (vr x0), some (vi x1), some (vi x2), none] [] G Q) ∧ (¬ (x1 = 312) → isO E G x0 12 ∧ (wpV E (d - 1) M_X12_need [vr x0, vi 58] G (fun G1 => wp E d M_X12_special 79 [some (vr x0), some (vi x1), some (vi x2), none] [] G1 Q)))))) : wp E d M_X12_special 52 [some (vr x0), some (vi x1), some (vi x2), none] [] G Q := by
  refine wp_iload_n (pc := 52) d_X12_special_52 rfl ?_
  refine wp_sipush (pc := 53) (v := 306) d_X12_special_53 rfl ?_
  refine wp_icmp_eq (pc := 56) (tgt := 79) d_X12_special_56 (by decide) (fun hc => ?_) (fun hc => ?_)
  · have h := h.1 hc
    refine wp_sub ?_ h
    exact ⟨rfl, ⟨rfl, ⟨rfl, trivial⟩⟩⟩
  · have h := h.2 hc
    refine wp_iload_n (pc := 59) d_X12_special_59 rfl ?_
    refine wp_sipush (pc := 60) (v := 309) d_X12_special_60 rfl ?_
    refine wp_icmp_eq (pc := 63) (tgt := 79) d_X12_special_63 (by decide) (fun hc => ?_) (fun hc => ?_)
    · have h := h.1 hc
      refine wp_sub ?_ h
      exact ⟨rfl, ⟨rfl, ⟨rfl, trivial⟩⟩⟩
    · have h := h.2 hc
      refine wp_iload_n (pc := 66) d_X12_special_66 rfl ?_
      refine wp_sipush (pc := 67) (v := 312) d_X12_special_67 rfl ?_
      refine wp_icmp_eq (pc := 70) (tgt := 79) d_X12_special_70 (by decide) (fun hc => ?_) (fun hc => ?_)
      · have h := h.1 hc
        refine wp_sub ?_ h
        exact ⟨rfl, ⟨rfl, ⟨rfl, trivial⟩⟩⟩
      · have h := h.2 hc
        refine wp_aload_n (pc := 73) d_X12_special_73 rfl ?_
        refine wp_bipush (pc := 74) (v := 58) d_X12_special_74 rfl ?_
        obtain ⟨ho2, h⟩ := h
        refine wp_invV (pc := 76) (N := M_X12_need) (As := [vi _]) (rest := []) (r := (cn_12, ct_12, 95)) d_X12_special_76 ml_X12_373 mk_X12_need mv_X12_need h0 ho2 rfl rfl (Nat.le_of_ble_eq_true rfl) ?_
        refine wpM.mono h (fun rr G1 hr => ?_)
        obtain ⟨rfl, h⟩ := hr
        show wp E d M_X12_special 79 [some (vr _), some (vi _), some (vi _), none] [] G1 Q
        refine wp_sub ?_ h
        exact ⟨rfl, ⟨rfl, ⟨rfl, trivial⟩⟩⟩
theorem v_X12_special_79 {E : EE} {d : Nat} {Q : Option AV → AH → Prop} {x0 : Nat} {x1 : Int32} {x2 : Int32} {G : AH} (h0 : 0 < d) (h : (¬ x1 = 308 → (x1 = 307 → wp E d M_X12_special 124 [some (vr x0), some (vi x1), some (vi x2), none] [] G Q) ∧ (¬ (x1 = 307) → (x1 = 310 → wp E d M_X12_special 124 [some (vr x0), some (vi x1), some (vi x2), none] [] G Q) ∧ (¬ (x1 = 310) → (x1 = 311 → wp E d M_X12_special 124 [some (vr x0), some (vi x1), some (vi x2), none] [] G Q) ∧ (¬ (x1 = 311) → (¬ x1 = 312 → wp E d M_X12_special 130 [some (vr x0), some (vi x1), some (vi x2), none] [] G Q) ∧ (x1 = 312 → wp E d M_X12_special 124 [some (vr x0), some (vi x1), some (vi x2), none] [] G Q))))) ∧ (x1 = 308 → isO E G x0 12 ∧ (wpI E (d - 1) M_X12_names [vr x0, vi x2, vi 1] G (fun r1 G2 => wp E d M_X12_special 130 [some (vr x0), some (vi x1), some (vi x2), none] [] G2 Q)))) : wp E d M_X12_special 79 [some (vr x0), some (vi x1), some (vi x2), none] [] G Q := by
  refine wp_iload_n (pc := 79) d_X12_special_79 rfl ?_
  refine wp_sipush (pc := 80) (v := 308) d_X12_special_80 rfl ?_
  refine wp_icmp_ne (pc := 83) (tgt := 96) d_X12_special_83 (by decide) (fun hc => ?_) (fun hc => ?_)
  · have h := h.1 hc
    refine wp_iload_n (pc := 96) d_X12_special_96 rfl ?_
    refine wp_sipush (pc := 97) (v := 307) d_X12_special_97 rfl ?_
    refine wp_icmp_eq (pc := 100) (tgt := 124) d_X12_special_100 (by decide) (fun hc => ?_) (fun hc => ?_)
    · have h := h.1 hc
      refine wp_sub ?_ h
      exact ⟨rfl, ⟨rfl, ⟨rfl, trivial⟩⟩⟩
    · have h := h.2 hc
      refine wp_iload_n (pc := 103) d_X12_special_103 rfl ?_
      refine wp_sipush (pc := 104) (v := 310) d_X12_special_104 rfl ?_
      refine wp_icmp_eq (pc := 107) (tgt := 124) d_X12_special_107 (by decide) (fun hc => ?_) (fun hc => ?_)
      · have h := h.1 hc
        refine wp_sub ?_ h
        exact ⟨rfl, ⟨rfl, ⟨rfl, trivial⟩⟩⟩
      · have h := h.2 hc
        refine wp_iload_n (pc := 110) d_X12_special_110 rfl ?_
        refine wp_sipush (pc := 111) (v := 311) d_X12_special_111 rfl ?_
        refine wp_icmp_eq (pc := 114) (tgt := 124) d_X12_special_114 (by decide) (fun hc => ?_) (fun hc => ?_)
        · have h := h.1 hc
          refine wp_sub ?_ h
          exact ⟨rfl, ⟨rfl, ⟨rfl, trivial⟩⟩⟩
        · have h := h.2 hc
          refine wp_iload_n (pc := 117) d_X12_special_117 rfl ?_
          refine wp_sipush (pc := 118) (v := 312) d_X12_special_118 rfl ?_
          refine wp_icmp_ne (pc := 121) (tgt := 130) d_X12_special_121 (by decide) (fun hc => ?_) (fun hc => ?_)
          · have h := h.1 hc
            refine wp_sub ?_ h
            exact ⟨rfl, ⟨rfl, ⟨rfl, trivial⟩⟩⟩
          · have h := h.2 hc
            refine wp_sub ?_ h
            exact ⟨rfl, ⟨rfl, ⟨rfl, trivial⟩⟩⟩
  · have h := h.2 hc
    refine wp_aload_n (pc := 86) d_X12_special_86 rfl ?_
    refine wp_iload_n (pc := 87) d_X12_special_87 rfl ?_
    refine wp_iconst (pc := 88) (v := 1) d_X12_special_88 rfl ?_
    obtain ⟨ho3, h⟩ := h
    refine wp_invV (pc := 89) (N := M_X12_names) (As := [vi _, vi _]) (rest := []) (r := (cn_12, ct_12, 95)) d_X12_special_89 ml_X12_414 mk_X12_names mv_X12_names h0 ho3 rfl rfl (Nat.le_of_ble_eq_true rfl) ?_
    refine wpM.mono h (fun rr G2 hr => ?_)
    obtain ⟨r1, rfl, h⟩ := hr
    show wp E d M_X12_special 92 [some (vr _), some (vi _), some (vi _), none] [vi _] G2 Q
    refine wp_istore_n (pc := 92) (lv' := [some (vr _), some (vi _), some (vi _), some (vi _)]) d_X12_special_92 (by decide) rfl ?_
    refine wp_goto (pc := 93) (tgt := 130) d_X12_special_93 (by decide) ?_
    refine wp_sub ?_ h
    exact ⟨rfl, ⟨rfl, ⟨rfl, trivial⟩⟩⟩
theorem v_X12_special_124 {E : EE} {d : Nat} {Q : Option AV → AH → Prop} {x0 : Nat} {x1 : Int32} {x2 : Int32} {G : AH} (h0 : 0 < d) (h : isO E G x0 12 ∧ (wpV E (d - 1) M_X12_items [vr x0, vi x1, vi x2] G (fun G1 => wp E d M_X12_special 130 [some (vr x0), some (vi x1), some (vi x2), none] [] G1 Q))) : wp E d M_X12_special 124 [some (vr x0), some (vi x1), some (vi x2), none] [] G Q := by
  refine wp_aload_n (pc := 124) d_X12_special_124 rfl ?_
  refine wp_iload_n (pc := 125) d_X12_special_125 rfl ?_
  refine wp_iload_n (pc := 126) d_X12_special_126 rfl ?_
  obtain ⟨ho2, h⟩ := h
  refine wp_invV (pc := 127) (N := M_X12_items) (As := [vi _, vi _]) (rest := []) (r := (cn_12, ct_12, 95)) d_X12_special_127 ml_X12_418 mk_X12_items mv_X12_items h0 ho2 rfl rfl (Nat.le_of_ble_eq_true rfl) ?_
  refine wpM.mono h (fun rr G1 hr => ?_)
  obtain ⟨rfl, h⟩ := hr
  show wp E d M_X12_special 130 [some (vr _), some (vi _), some (vi _), none] [] G1 Q
  refine wp_sub ?_ h
  exact ⟨rfl, ⟨rfl, ⟨rfl, trivial⟩⟩⟩
theorem v_X12_special_130 {E : EE} {d : Nat} {Q : Option AV → AH → Prop} {x0 : Nat} {x1 : Int32} {x2 : Int32} {G : AH} (h0 : 0 < d) (h : (¬ x1 = 310 → wp E d M_X12_special 147 [some (vr x0), some (vi x1), some (vi x2), none] [] G Q) ∧ (x1 = 310 → isO E G x0 12 ∧ (wpV E (d - 1) M_X12_need [vr x0, vi 58] G (fun G1 => isO E G1 x0 12 ∧ (wpV E (d - 1) M_X12_states [vr x0] G1 (fun G2 => wp E d M_X12_special 147 [some (vr x0), some (vi x1), some (vi x2), none] [] G2 Q)))))) : wp E d M_X12_special 130 [some (vr x0), some (vi x1), some (vi x2), none] [] G Q := by
  refine wp_iload_n (pc := 130) d_X12_special_130 rfl ?_
  refine wp_sipush (pc := 131) (v := 310) d_X12_special_131 rfl ?_
  refine wp_icmp_ne (pc := 134) (tgt := 147) d_X12_special_134 (by decide) (fun hc => ?_) (fun hc => ?_)
  · have h := h.1 hc
    refine wp_sub ?_ h
    exact ⟨rfl, ⟨rfl, ⟨rfl, trivial⟩⟩⟩
  · have h := h.2 hc
    refine wp_aload_n (pc := 137) d_X12_special_137 rfl ?_
    refine wp_bipush (pc := 138) (v := 58) d_X12_special_138 rfl ?_
    obtain ⟨ho4, h⟩ := h
    refine wp_invV (pc := 140) (N := M_X12_need) (As := [vi _]) (rest := []) (r := (cn_12, ct_12, 95)) d_X12_special_140 ml_X12_373 mk_X12_need mv_X12_need h0 ho4 rfl rfl (Nat.le_of_ble_eq_true rfl) ?_
    refine wpM.mono h (fun rr G1 hr => ?_)
    obtain ⟨rfl, h⟩ := hr
    show wp E d M_X12_special 143 [some (vr _), some (vi _), some (vi _), none] [] G1 Q
    refine wp_aload_n (pc := 143) d_X12_special_143 rfl ?_
    obtain ⟨ho3, h⟩ := h
    refine wp_invV (pc := 144) (N := M_X12_states) (As := []) (rest := []) (r := (cn_12, ct_12, 95)) d_X12_special_144 ml_X12_421 mk_X12_states mv_X12_states h0 ho3 rfl rfl (Nat.le_of_ble_eq_true rfl) ?_
    refine wpM.mono h (fun rr G2 hr => ?_)
    obtain ⟨rfl, h⟩ := hr
    show wp E d M_X12_special 147 [some (vr _), some (vi _), some (vi _), none] [] G2 Q
    refine wp_sub ?_ h
    exact ⟨rfl, ⟨rfl, ⟨rfl, trivial⟩⟩⟩
theorem v_X12_special_147 {E : EE} {d : Nat} {Q : Option AV → AH → Prop} {x0 : Nat} {x1 : Int32} {x2 : Int32} {G : AH} (h0 : 0 < d) (h : isO E G x0 12 ∧ (wpV E (d - 1) M_X12_need [vr x0, vi 41] G (fun G1 => Q none G1))) : wp E d M_X12_special 147 [some (vr x0), some (vi x1), some (vi x2), none] [] G Q := by
  refine wp_aload_n (pc := 147) d_X12_special_147 rfl ?_
  refine wp_bipush (pc := 148) (v := 41) d_X12_special_148 rfl ?_
  obtain ⟨ho2, h⟩ := h
  refine wp_invV (pc := 150) (N := M_X12_need) (As := [vi _]) (rest := []) (r := (cn_12, ct_12, 95)) d_X12_special_150 ml_X12_373 mk_X12_need mv_X12_need h0 ho2 rfl rfl (Nat.le_of_ble_eq_true rfl) ?_
  refine wpM.mono h (fun rr G1 hr => ?_)
  obtain ⟨rfl, h⟩ := hr
  show wp E d M_X12_special 153 [some (vr _), some (vi _), some (vi _), none] [] G1 Q
  exact wp_vret (pc := 153) d_X12_special_153 rfl h
theorem d_X12_names_0 : decode prog_14_method_40_code 0 = .ok (.aload_n 0, 1) := by decide +kernel
theorem d_X12_names_1 : decode prog_14_method_40_code 1 = .ok (.invokevirtual 424, 3) := by decide +kernel
theorem d_X12_names_4 : decode prog_14_method_40_code 4 = .ok (.iconst 1, 1) := by decide +kernel
theorem d_X12_names_5 : decode prog_14_method_40_code 5 = .ok (.istore_n 3, 1) := by decide +kernel
theorem d_X12_names_6 : decode prog_14_method_40_code 6 = .ok (.aload_n 0, 1) := by decide +kernel
theorem d_X12_names_7 : decode prog_14_method_40_code 7 = .ok (.getfield 311, 3) := by decide +kernel
theorem d_X12_names_10 : decode prog_14_method_40_code 10 = .ok (.ifCond .ne 37, 3) := by decide +kernel
theorem d_X12_names_13 : decode prog_14_method_40_code 13 = .ok (.iload_n 3, 1) := by decide +kernel
theorem d_X12_names_14 : decode prog_14_method_40_code 14 = .ok (.iload_n 1, 1) := by decide +kernel
theorem d_X12_names_15 : decode prog_14_method_40_code 15 = .ok (.if_icmp .ge 32, 3) := by decide +kernel
theorem d_X12_names_18 : decode prog_14_method_40_code 18 = .ok (.iload_n 2, 1) := by decide +kernel
theorem d_X12_names_19 : decode prog_14_method_40_code 19 = .ok (.ifCond .ne 12, 3) := by decide +kernel
theorem d_X12_names_22 : decode prog_14_method_40_code 22 = .ok (.aload_n 0, 1) := by decide +kernel
theorem d_X12_names_23 : decode prog_14_method_40_code 23 = .ok (.getfield 292, 3) := by decide +kernel
theorem d_X12_names_26 : decode prog_14_method_40_code 26 = .ok (.bipush 44, 2) := by decide +kernel
theorem d_X12_names_28 : decode prog_14_method_40_code 28 = .ok (.if_icmp .ne 19, 3) := by decide +kernel
theorem d_X12_names_31 : decode prog_14_method_40_code 31 = .ok (.aload_n 0, 1) := by decide +kernel
theorem d_X12_names_32 : decode prog_14_method_40_code 32 = .ok (.bipush 44, 2) := by decide +kernel
theorem d_X12_names_34 : decode prog_14_method_40_code 34 = .ok (.invokevirtual 373, 3) := by decide +kernel
theorem d_X12_names_37 : decode prog_14_method_40_code 37 = .ok (.aload_n 0, 1) := by decide +kernel
theorem d_X12_names_38 : decode prog_14_method_40_code 38 = .ok (.invokevirtual 424, 3) := by decide +kernel
theorem d_X12_names_41 : decode prog_14_method_40_code 41 = .ok (.iinc 3 1, 3) := by decide +kernel
theorem d_X12_names_44 : decode prog_14_method_40_code 44 = .ok (.goto (-38), 3) := by decide +kernel
theorem d_X12_names_47 : decode prog_14_method_40_code 47 = .ok (.iload_n 3, 1) := by decide +kernel
theorem d_X12_names_48 : decode prog_14_method_40_code 48 = .ok (.ireturn, 1) := by decide +kernel
theorem v_X12_names_0 {E : EE} {d : Nat} {Q : Option AV → AH → Prop} {x0 : Nat} {x1 : Int32} {x2 : Int32} {G : AH} (h0 : 0 < d) (h : isO E G x0 12 ∧ (wpV E (d - 1) M_X12_aVar [vr x0] G (fun G1 => wp E d M_X12_names 6 [some (vr x0), some (vi x1), some (vi x2), some (vi 1)] [] G1 Q))) : wp E d M_X12_names 0 [some (vr x0), some (vi x1), some (vi x2), none] [] G Q := by
  refine wp_aload_n (pc := 0) d_X12_names_0 rfl ?_
  obtain ⟨ho2, h⟩ := h
  refine wp_invV (pc := 1) (N := M_X12_aVar) (As := []) (rest := []) (r := (cn_12, ct_12, 95)) d_X12_names_1 ml_X12_424 mk_X12_aVar mv_X12_aVar h0 ho2 rfl rfl (Nat.le_of_ble_eq_true rfl) ?_
  refine wpM.mono h (fun rr G1 hr => ?_)
  obtain ⟨rfl, h⟩ := hr
  show wp E d M_X12_names 4 [some (vr _), some (vi _), some (vi _), none] [] G1 Q
  refine wp_iconst (pc := 4) (v := 1) d_X12_names_4 rfl ?_
  refine wp_istore_n (pc := 5) (lv' := [some (vr _), some (vi _), some (vi _), some (vi _)]) d_X12_names_5 (by decide) rfl ?_
  refine wp_sub ?_ h
  exact ⟨rfl, ⟨rfl, ⟨rfl, ⟨rfl, trivial⟩⟩⟩⟩
theorem v_X12_names_6 {E : EE} {d : Nat} {Q : Option AV → AH → Prop} {x0 : Nat} {x1 : Int32} {x2 : Int32} {x3 : Int32} {G : AH} (h : isO E G x0 12 ∧ ((¬ (gI G x0 45) = 0 → Q (some (vi x3)) G) ∧ ((gI G x0 45) = 0 → (x1 ≤ x3 → Q (some (vi x3)) G) ∧ (¬ (x1 ≤ x3) → (¬ x2 = 0 → wp E d M_X12_names 31 [some (vr x0), some (vi x1), some (vi x2), some (vi x3)] [] G Q) ∧ (x2 = 0 → (¬ (gI G x0 41) = 44 → Q (some (vi x3)) G) ∧ ((gI G x0 41) = 44 → wp E d M_X12_names 31 [some (vr x0), some (vi x1), some (vi x2), some (vi x3)] [] G Q)))))) : wp E d M_X12_names 6 [some (vr x0), some (vi x1), some (vi x2), some (vi x3)] [] G Q := by
  refine wp_aload_n (pc := 6) d_X12_names_6 rfl ?_
  obtain ⟨ho1, h⟩ := h
  refine wp_getI (pc := 7) d_X12_names_7 fl_X12_311 (fun _ _ _ => rfl) ho1 ?_
  refine wp_if_ne (pc := 10) (tgt := 47) d_X12_names_10 (by decide) (fun hc => ?_) (fun hc => ?_)
  · have h := h.1 hc
    refine wp_iload_n (pc := 47) d_X12_names_47 rfl ?_
    exact wp_iret (pc := 48) d_X12_names_48 rfl h
  · have h := h.2 hc
    refine wp_iload_n (pc := 13) d_X12_names_13 rfl ?_
    refine wp_iload_n (pc := 14) d_X12_names_14 rfl ?_
    refine wp_icmp_ge (pc := 15) (tgt := 47) d_X12_names_15 (by decide) (fun hc => ?_) (fun hc => ?_)
    · have h := h.1 hc
      refine wp_iload_n (pc := 47) d_X12_names_47 rfl ?_
      exact wp_iret (pc := 48) d_X12_names_48 rfl h
    · have h := h.2 hc
      refine wp_iload_n (pc := 18) d_X12_names_18 rfl ?_
      refine wp_if_ne (pc := 19) (tgt := 31) d_X12_names_19 (by decide) (fun hc => ?_) (fun hc => ?_)
      · have h := h.1 hc
        refine wp_sub ?_ h
        exact ⟨rfl, ⟨rfl, ⟨rfl, ⟨rfl, trivial⟩⟩⟩⟩
      · have h := h.2 hc
        refine wp_aload_n (pc := 22) d_X12_names_22 rfl ?_
        refine wp_getI (pc := 23) d_X12_names_23 fl_X12_292 (fun _ _ _ => rfl) ho1 ?_
        refine wp_bipush (pc := 26) (v := 44) d_X12_names_26 rfl ?_
        refine wp_icmp_ne (pc := 28) (tgt := 47) d_X12_names_28 (by decide) (fun hc => ?_) (fun hc => ?_)
        · have h := h.1 hc
          refine wp_iload_n (pc := 47) d_X12_names_47 rfl ?_
          exact wp_iret (pc := 48) d_X12_names_48 rfl h
        · have h := h.2 hc
          refine wp_sub ?_ h
          exact ⟨rfl, ⟨rfl, ⟨rfl, ⟨rfl, trivial⟩⟩⟩⟩
theorem v_X12_names_31 {E : EE} {d : Nat} {Q : Option AV → AH → Prop} {x0 : Nat} {x1 : Int32} {x2 : Int32} {x3 : Int32} {G : AH} (h0 : 0 < d) (h : isO E G x0 12 ∧ (wpV E (d - 1) M_X12_need [vr x0, vi 44] G (fun G1 => isO E G1 x0 12 ∧ (wpV E (d - 1) M_X12_aVar [vr x0] G1 (fun G2 => wp E d M_X12_names 6 [some (vr x0), some (vi x1), some (vi x2), some (vi (x3 + 1))] [] G2 Q))))) : wp E d M_X12_names 31 [some (vr x0), some (vi x1), some (vi x2), some (vi x3)] [] G Q := by
  refine wp_aload_n (pc := 31) d_X12_names_31 rfl ?_
  refine wp_bipush (pc := 32) (v := 44) d_X12_names_32 rfl ?_
  obtain ⟨ho4, h⟩ := h
  refine wp_invV (pc := 34) (N := M_X12_need) (As := [vi _]) (rest := []) (r := (cn_12, ct_12, 95)) d_X12_names_34 ml_X12_373 mk_X12_need mv_X12_need h0 ho4 rfl rfl (Nat.le_of_ble_eq_true rfl) ?_
  refine wpM.mono h (fun rr G1 hr => ?_)
  obtain ⟨rfl, h⟩ := hr
  show wp E d M_X12_names 37 [some (vr _), some (vi _), some (vi _), some (vi _)] [] G1 Q
  refine wp_aload_n (pc := 37) d_X12_names_37 rfl ?_
  obtain ⟨ho3, h⟩ := h
  refine wp_invV (pc := 38) (N := M_X12_aVar) (As := []) (rest := []) (r := (cn_12, ct_12, 95)) d_X12_names_38 ml_X12_424 mk_X12_aVar mv_X12_aVar h0 ho3 rfl rfl (Nat.le_of_ble_eq_true rfl) ?_
  refine wpM.mono h (fun rr G2 hr => ?_)
  obtain ⟨rfl, h⟩ := hr
  show wp E d M_X12_names 41 [some (vr _), some (vi _), some (vi _), some (vi _)] [] G2 Q
  refine wp_iinc (pc := 41) (v := 1) (lv' := [some (vr _), some (vi _), some (vi _), some (vi _)]) d_X12_names_41 (by decide) rfl rfl rfl ?_
  refine wp_goto (pc := 44) (tgt := 6) d_X12_names_44 (by decide) ?_
  refine wp_sub ?_ h
  exact ⟨rfl, ⟨rfl, ⟨rfl, ⟨rfl, trivial⟩⟩⟩⟩
theorem d_X12_aVar_0 : decode prog_14_method_39_code 0 = .ok (.aload_n 0, 1) := by decide +kernel
theorem d_X12_aVar_1 : decode prog_14_method_39_code 1 = .ok (.getfield 311, 3) := by decide +kernel
theorem d_X12_aVar_4 : decode prog_14_method_39_code 4 = .ok (.ifCond .eq 4, 3) := by decide +kernel
theorem d_X12_aVar_7 : decode prog_14_method_39_code 7 = .ok (.return_, 1) := by decide +kernel
theorem d_X12_aVar_8 : decode prog_14_method_39_code 8 = .ok (.aload_n 0, 1) := by decide +kernel
theorem d_X12_aVar_9 : decode prog_14_method_39_code 9 = .ok (.getfield 292, 3) := by decide +kernel
theorem d_X12_aVar_12 : decode prog_14_method_39_code 12 = .ok (.iconst 1, 1) := by decide +kernel
theorem d_X12_aVar_13 : decode prog_14_method_39_code 13 = .ok (.if_icmp .ne 14, 3) := by decide +kernel
theorem d_X12_aVar_16 : decode prog_14_method_39_code 16 = .ok (.aload_n 0, 1) := by decide +kernel
theorem d_X12_aVar_17 : decode prog_14_method_39_code 17 = .ok (.aload_n 0, 1) := by decide +kernel
theorem d_X12_aVar_18 : decode prog_14_method_39_code 18 = .ok (.getfield 321, 3) := by decide +kernel
theorem d_X12_aVar_21 : decode prog_14_method_39_code 21 = .ok (.invokevirtual 341, 3) := by decide +kernel
theorem d_X12_aVar_24 : decode prog_14_method_39_code 24 = .ok (.goto 4, 3) := by decide +kernel
theorem d_X12_aVar_27 : decode prog_14_method_39_code 27 = .ok (.iconst (-1), 1) := by decide +kernel
theorem d_X12_aVar_28 : decode prog_14_method_39_code 28 = .ok (.istore_n 1, 1) := by decide +kernel
theorem d_X12_aVar_29 : decode prog_14_method_39_code 29 = .ok (.aload_n 0, 1) := by decide +kernel
theorem d_X12_aVar_30 : decode prog_14_method_39_code 30 = .ok (.getfield 292, 3) := by decide +kernel
theorem d_X12_aVar_33 : decode prog_14_method_39_code 33 = .ok (.iconst 1, 1) := by decide +kernel
theorem d_X12_aVar_34 : decode prog_14_method_39_code 34 = .ok (.if_icmp .eq 10, 3) := by decide +kernel
theorem d_X12_aVar_37 : decode prog_14_method_39_code 37 = .ok (.aload_n 0, 1) := by decide +kernel
theorem d_X12_aVar_38 : decode prog_14_method_39_code 38 = .ok (.invokevirtual 327, 3) := by decide +kernel
theorem d_X12_aVar_41 : decode prog_14_method_39_code 41 = .ok (.goto 33, 3) := by decide +kernel
theorem d_X12_aVar_44 : decode prog_14_method_39_code 44 = .ok (.iload_n 1, 1) := by decide +kernel
theorem d_X12_aVar_45 : decode prog_14_method_39_code 45 = .ok (.bipush 100, 2) := by decide +kernel
theorem d_X12_aVar_47 : decode prog_14_method_39_code 47 = .ok (.if_icmp .lt 10, 3) := by decide +kernel
theorem d_X12_aVar_50 : decode prog_14_method_39_code 50 = .ok (.iload_n 1, 1) := by decide +kernel
theorem d_X12_aVar_51 : decode prog_14_method_39_code 51 = .ok (.sipush 200, 3) := by decide +kernel
theorem d_X12_aVar_54 : decode prog_14_method_39_code 54 = .ok (.if_icmp .lt 15, 3) := by decide +kernel
theorem d_X12_aVar_57 : decode prog_14_method_39_code 57 = .ok (.aload_n 0, 1) := by decide +kernel
theorem d_X12_aVar_58 : decode prog_14_method_39_code 58 = .ok (.iconst 4, 1) := by decide +kernel
theorem d_X12_aVar_59 : decode prog_14_method_39_code 59 = .ok (.aload_n 0, 1) := by decide +kernel
theorem d_X12_aVar_60 : decode prog_14_method_39_code 60 = .ok (.getfield 241, 3) := by decide +kernel
theorem d_X12_aVar_63 : decode prog_14_method_39_code 63 = .ok (.invokevirtual 317, 3) := by decide +kernel
theorem d_X12_aVar_66 : decode prog_14_method_39_code 66 = .ok (.goto 8, 3) := by decide +kernel
theorem d_X12_aVar_69 : decode prog_14_method_39_code 69 = .ok (.aload_n 0, 1) := by decide +kernel
theorem d_X12_aVar_70 : decode prog_14_method_39_code 70 = .ok (.iload_n 1, 1) := by decide +kernel
theorem d_X12_aVar_71 : decode prog_14_method_39_code 71 = .ok (.invokevirtual 330, 3) := by decide +kernel
theorem d_X12_aVar_74 : decode prog_14_method_39_code 74 = .ok (.return_, 1) := by decide +kernel
theorem v_X12_aVar_0 {E : EE} {d : Nat} {Q : Option AV → AH → Prop} {x0 : Nat} {G : AH} (h0 : 0 < d) (h : isO E G x0 12 ∧ (((gI G x0 45) = 0 → (¬ (gI G x0 41) = 1 → wp E d M_X12_aVar 28 [some (vr x0), none] [vi (-1)] G Q) ∧ ((gI G x0 41) = 1 → wpI E (d - 1) M_X12_meaning [vr x0, vi (gI G x0 47)] G (fun r2 G3 => wp E d M_X12_aVar 28 [some (vr x0), none] [vi r2] G3 Q))) ∧ (¬ ((gI G x0 45) = 0) → Q none G))) : wp E d M_X12_aVar 0 [some (vr x0), none] [] G Q := by
  refine wp_aload_n (pc := 0) d_X12_aVar_0 rfl ?_
  obtain ⟨ho1, h⟩ := h
  refine wp_getI (pc := 1) d_X12_aVar_1 fl_X12_311 (fun _ _ _ => rfl) ho1 ?_
  refine wp_if_eq (pc := 4) (tgt := 8) d_X12_aVar_4 (by decide) (fun hc => ?_) (fun hc => ?_)
  · have h := h.1 hc
    refine wp_aload_n (pc := 8) d_X12_aVar_8 rfl ?_
    refine wp_getI (pc := 9) d_X12_aVar_9 fl_X12_292 (fun _ _ _ => rfl) ho1 ?_
    refine wp_iconst (pc := 12) (v := 1) d_X12_aVar_12 rfl ?_
    refine wp_icmp_ne (pc := 13) (tgt := 27) d_X12_aVar_13 (by decide) (fun hc => ?_) (fun hc => ?_)
    · have h := h.1 hc
      refine wp_iconst (pc := 27) (v := (-1)) d_X12_aVar_27 rfl ?_
      refine wp_sub ?_ h
      exact ⟨rfl, trivial⟩
    · have h := h.2 hc
      refine wp_aload_n (pc := 16) d_X12_aVar_16 rfl ?_
      refine wp_aload_n (pc := 17) d_X12_aVar_17 rfl ?_
      refine wp_getI (pc := 18) d_X12_aVar_18 fl_X12_321 (fun _ _ _ => rfl) ho1 ?_
      refine wp_invV (pc := 21) (N := M_X12_meaning) (As := [vi _]) (rest := []) (r := (cn_12, ct_12, 95)) d_X12_aVar_21 ml_X12_341 mk_X12_meaning mv_X12_meaning h0 ho1 rfl rfl (Nat.le_of_ble_eq_true rfl) ?_
      refine wpM.mono h (fun rr G3 hr => ?_)
      obtain ⟨r2, rfl, h⟩ := hr
      show wp E d M_X12_aVar 24 [some (vr _), none] [vi _] G3 Q
      refine wp_goto (pc := 24) (tgt := 28) d_X12_aVar_24 (by decide) ?_
      refine wp_sub ?_ h
      exact ⟨rfl, trivial⟩
  · have h := h.2 hc
    exact wp_vret (pc := 7) d_X12_aVar_7 rfl h
theorem v_X12_aVar_28 {E : EE} {d : Nat} {Q : Option AV → AH → Prop} {x0 : Nat} {t0 : Int32} {G : AH} (h0 : 0 < d) (h : isO E G x0 12 ∧ (((gI G x0 41) = 1 → (t0 < 100 → wp E d M_X12_aVar 57 [some (vr x0), some (vi t0)] [] G Q) ∧ (¬ (t0 < 100) → (t0 < 200 → wpV E (d - 1) M_X12_keep [vr x0, vi t0] G (fun G2 => Q none G2)) ∧ (¬ (t0 < 200) → wp E d M_X12_aVar 57 [some (vr x0), some (vi t0)] [] G Q))) ∧ (¬ ((gI G x0 41) = 1) → wpV E (d - 1) M_X12_failHere [vr x0] G (fun G3 => Q none G3)))) : wp E d M_X12_aVar 28 [some (vr x0), none] [vi t0] G Q := by
  refine wp_istore_n (pc := 28) (lv' := [some (vr _), some (vi _)]) d_X12_aVar_28 (by decide) rfl ?_
  refine wp_aload_n (pc := 29) d_X12_aVar_29 rfl ?_
  obtain ⟨ho1, h⟩ := h
  refine wp_getI (pc := 30) d_X12_aVar_30 fl_X12_292 (fun _ _ _ => rfl) ho1 ?_
  refine wp_iconst (pc := 33) (v := 1) d_X12_aVar_33 rfl ?_
  refine wp_icmp_eq (pc := 34) (tgt := 44) d_X12_aVar_34 (by decide) (fun hc => ?_) (fun hc => ?_)
  · have h := h.1 hc
    refine wp_iload_n (pc := 44) d_X12_aVar_44 rfl ?_
    refine wp_bipush (pc := 45) (v := 100) d_X12_aVar_45 rfl ?_
    refine wp_icmp_lt (pc := 47) (tgt := 57) d_X12_aVar_47 (by decide) (fun hc => ?_) (fun hc => ?_)
    · have h := h.1 hc
      refine wp_sub ?_ h
      exact ⟨rfl, ⟨rfl, trivial⟩⟩
    · have h := h.2 hc
      refine wp_iload_n (pc := 50) d_X12_aVar_50 rfl ?_
      refine wp_sipush (pc := 51) (v := 200) d_X12_aVar_51 rfl ?_
      refine wp_icmp_lt (pc := 54) (tgt := 69) d_X12_aVar_54 (by decide) (fun hc => ?_) (fun hc => ?_)
      · have h := h.1 hc
        refine wp_aload_n (pc := 69) d_X12_aVar_69 rfl ?_
        refine wp_iload_n (pc := 70) d_X12_aVar_70 rfl ?_
        refine wp_invV (pc := 71) (N := M_X12_keep) (As := [vi _]) (rest := []) (r := (cn_12, ct_12, 95)) d_X12_aVar_71 ml_X12_330 mk_X12_keep mv_X12_keep h0 ho1 rfl rfl (Nat.le_of_ble_eq_true rfl) ?_
        refine wpM.mono h (fun rr G2 hr => ?_)
        obtain ⟨rfl, h⟩ := hr
        show wp E d M_X12_aVar 74 [some (vr _), some (vi _)] [] G2 Q
        exact wp_vret (pc := 74) d_X12_aVar_74 rfl h
      · have h := h.2 hc
        refine wp_sub ?_ h
        exact ⟨rfl, ⟨rfl, trivial⟩⟩
  · have h := h.2 hc
    refine wp_aload_n (pc := 37) d_X12_aVar_37 rfl ?_
    refine wp_invV (pc := 38) (N := M_X12_failHere) (As := []) (rest := []) (r := (cn_12, ct_12, 95)) d_X12_aVar_38 ml_X12_327 mk_X12_failHere mv_X12_failHere h0 ho1 rfl rfl (Nat.le_of_ble_eq_true rfl) ?_
    refine wpM.mono h (fun rr G3 hr => ?_)
    obtain ⟨rfl, h⟩ := hr
    show wp E d M_X12_aVar 41 [some (vr _), some (vi _)] [] G3 Q
    refine wp_goto (pc := 41) (tgt := 74) d_X12_aVar_41 (by decide) ?_
    exact wp_vret (pc := 74) d_X12_aVar_74 rfl h
theorem v_X12_aVar_57 {E : EE} {d : Nat} {Q : Option AV → AH → Prop} {x0 : Nat} {x1 : Int32} {G : AH} (h0 : 0 < d) (h : isO E G x0 12 ∧ (wpV E (d - 1) M_X12_fail [vr x0, vi 4, vi (gI G x0 43)] G (fun G2 => Q none G2))) : wp E d M_X12_aVar 57 [some (vr x0), some (vi x1)] [] G Q := by
  refine wp_aload_n (pc := 57) d_X12_aVar_57 rfl ?_
  refine wp_iconst (pc := 58) (v := 4) d_X12_aVar_58 rfl ?_
  refine wp_aload_n (pc := 59) d_X12_aVar_59 rfl ?_
  obtain ⟨ho1, h⟩ := h
  refine wp_getI (pc := 60) d_X12_aVar_60 fl_X12_241 (fun _ _ _ => rfl) ho1 ?_
  refine wp_invV (pc := 63) (N := M_X12_fail) (As := [vi _, vi _]) (rest := []) (r := (cn_12, ct_12, 95)) d_X12_aVar_63 ml_X12_317 mk_X12_fail mv_X12_fail h0 ho1 rfl rfl (Nat.le_of_ble_eq_true rfl) ?_
  refine wpM.mono h (fun rr G2 hr => ?_)
  obtain ⟨rfl, h⟩ := hr
  show wp E d M_X12_aVar 66 [some (vr _), some (vi _)] [] G2 Q
  refine wp_goto (pc := 66) (tgt := 74) d_X12_aVar_66 (by decide) ?_
  exact wp_vret (pc := 74) d_X12_aVar_74 rfl h
theorem d_X12_states_0 : decode prog_14_method_43_code 0 = .ok (.aload_n 0, 1) := by decide +kernel
theorem d_X12_states_1 : decode prog_14_method_43_code 1 = .ok (.iconst 0, 1) := by decide +kernel
theorem d_X12_states_2 : decode prog_14_method_43_code 2 = .ok (.bipush 9, 2) := by decide +kernel
theorem d_X12_states_4 : decode prog_14_method_43_code 4 = .ok (.invokevirtual 354, 3) := by decide +kernel
theorem d_X12_states_7 : decode prog_14_method_43_code 7 = .ok (.istore_n 1, 1) := by decide +kernel
theorem d_X12_states_8 : decode prog_14_method_43_code 8 = .ok (.iconst 1, 1) := by decide +kernel
theorem d_X12_states_9 : decode prog_14_method_43_code 9 = .ok (.istore_n 2, 1) := by decide +kernel
theorem d_X12_states_10 : decode prog_14_method_43_code 10 = .ok (.aload_n 0, 1) := by decide +kernel
theorem d_X12_states_11 : decode prog_14_method_43_code 11 = .ok (.getfield 311, 3) := by decide +kernel
theorem d_X12_states_14 : decode prog_14_method_43_code 14 = .ok (.ifCond .ne 37, 3) := by decide +kernel
theorem d_X12_states_17 : decode prog_14_method_43_code 17 = .ok (.aload_n 0, 1) := by decide +kernel
theorem d_X12_states_18 : decode prog_14_method_43_code 18 = .ok (.getfield 292, 3) := by decide +kernel
theorem d_X12_states_21 : decode prog_14_method_43_code 21 = .ok (.bipush 44, 2) := by decide +kernel
theorem d_X12_states_23 : decode prog_14_method_43_code 23 = .ok (.if_icmp .ne 28, 3) := by decide +kernel
theorem d_X12_states_26 : decode prog_14_method_43_code 26 = .ok (.iload_n 2, 1) := by decide +kernel
theorem d_X12_states_27 : decode prog_14_method_43_code 27 = .ok (.bipush 10, 2) := by decide +kernel
theorem d_X12_states_29 : decode prog_14_method_43_code 29 = .ok (.if_icmp .ge 22, 3) := by decide +kernel
theorem d_X12_states_32 : decode prog_14_method_43_code 32 = .ok (.aload_n 0, 1) := by decide +kernel
theorem d_X12_states_33 : decode prog_14_method_43_code 33 = .ok (.iconst 0, 1) := by decide +kernel
theorem d_X12_states_34 : decode prog_14_method_43_code 34 = .ok (.invokevirtual 330, 3) := by decide +kernel
theorem d_X12_states_37 : decode prog_14_method_43_code 37 = .ok (.aload_n 0, 1) := by decide +kernel
theorem d_X12_states_38 : decode prog_14_method_43_code 38 = .ok (.iconst 0, 1) := by decide +kernel
theorem d_X12_states_39 : decode prog_14_method_43_code 39 = .ok (.bipush 9, 2) := by decide +kernel
theorem d_X12_states_41 : decode prog_14_method_43_code 41 = .ok (.invokevirtual 354, 3) := by decide +kernel
theorem d_X12_states_44 : decode prog_14_method_43_code 44 = .ok (.istore_n 1, 1) := by decide +kernel
theorem d_X12_states_45 : decode prog_14_method_43_code 45 = .ok (.iinc 2 1, 3) := by decide +kernel
theorem d_X12_states_48 : decode prog_14_method_43_code 48 = .ok (.goto (-38), 3) := by decide +kernel
theorem d_X12_states_51 : decode prog_14_method_43_code 51 = .ok (.return_, 1) := by decide +kernel
theorem v_X12_states_0 {E : EE} {d : Nat} {Q : Option AV → AH → Prop} {x0 : Nat} {G : AH} (h0 : 0 < d) (h : isO E G x0 12 ∧ (wpI E (d - 1) M_X12_aNumber [vr x0, vi 0, vi 9] G (fun r1 G2 => wp E d M_X12_states 10 [some (vr x0), some (vi r1), some (vi 1)] [] G2 Q))) : wp E d M_X12_states 0 [some (vr x0), none, none] [] G Q := by
  refine wp_aload_n (pc := 0) d_X12_states_0 rfl ?_
  refine wp_iconst (pc := 1) (v := 0) d_X12_states_1 rfl ?_
  refine wp_bipush (pc := 2) (v := 9) d_X12_states_2 rfl ?_
  obtain ⟨ho3, h⟩ := h
  refine wp_invV (pc := 4) (N := M_X12_aNumber) (As := [vi _, vi _]) (rest := []) (r := (cn_12, ct_12, 95)) d_X12_states_4 ml_X12_354 mk_X12_aNumber mv_X12_aNumber h0 ho3 rfl rfl (Nat.le_of_ble_eq_true rfl) ?_
  refine wpM.mono h (fun rr G2 hr => ?_)
  obtain ⟨r1, rfl, h⟩ := hr
  show wp E d M_X12_states 7 [some (vr _), none, none] [vi _] G2 Q
  refine wp_istore_n (pc := 7) (lv' := [some (vr _), some (vi _), none]) d_X12_states_7 (by decide) rfl ?_
  refine wp_iconst (pc := 8) (v := 1) d_X12_states_8 rfl ?_
  refine wp_istore_n (pc := 9) (lv' := [some (vr _), some (vi _), some (vi _)]) d_X12_states_9 (by decide) rfl ?_
  refine wp_sub ?_ h
  exact ⟨rfl, ⟨rfl, ⟨rfl, trivial⟩⟩⟩
theorem v_X12_states_10 {E : EE} {d : Nat} {Q : Option AV → AH → Prop} {x0 : Nat} {x1 : Int32} {x2 : Int32} {G : AH} (h0 : 0 < d) (h : isO E G x0 12 ∧ ((¬ (gI G x0 45) = 0 → Q none G) ∧ ((gI G x0 45) = 0 → (¬ (gI G x0 41) = 44 → Q none G) ∧ ((gI G x0 41) = 44 → (10 ≤ x2 → Q none G) ∧ (¬ (10 ≤ x2) → wpV E (d - 1) M_X12_keep [vr x0, vi 0] G (fun G2 => isO E G2 x0 12 ∧ (wpI E (d - 1) M_X12_aNumber [vr x0, vi 0, vi 9] G2 (fun r3 G4 => wp E d M_X12_states 10 [some (vr x0), some (vi r3), some (vi (x2 + 1))] [] G4 Q)))))))) : wp E d M_X12_states 10 [some (vr x0), some (vi x1), some (vi x2)] [] G Q := by
  refine wp_aload_n (pc := 10) d_X12_states_10 rfl ?_
  obtain ⟨ho1, h⟩ := h
  refine wp_getI (pc := 11) d_X12_states_11 fl_X12_311 (fun _ _ _ => rfl) ho1 ?_
  refine wp_if_ne (pc := 14) (tgt := 51) d_X12_states_14 (by decide) (fun hc => ?_) (fun hc => ?_)
  · have h := h.1 hc
    exact wp_vret (pc := 51) d_X12_states_51 rfl h
  · have h := h.2 hc
    refine wp_aload_n (pc := 17) d_X12_states_17 rfl ?_
    refine wp_getI (pc := 18) d_X12_states_18 fl_X12_292 (fun _ _ _ => rfl) ho1 ?_
    refine wp_bipush (pc := 21) (v := 44) d_X12_states_21 rfl ?_
    refine wp_icmp_ne (pc := 23) (tgt := 51) d_X12_states_23 (by decide) (fun hc => ?_) (fun hc => ?_)
    · have h := h.1 hc
      exact wp_vret (pc := 51) d_X12_states_51 rfl h
    · have h := h.2 hc
      refine wp_iload_n (pc := 26) d_X12_states_26 rfl ?_
      refine wp_bipush (pc := 27) (v := 10) d_X12_states_27 rfl ?_
      refine wp_icmp_ge (pc := 29) (tgt := 51) d_X12_states_29 (by decide) (fun hc => ?_) (fun hc => ?_)
      · have h := h.1 hc
        exact wp_vret (pc := 51) d_X12_states_51 rfl h
      · have h := h.2 hc
        refine wp_aload_n (pc := 32) d_X12_states_32 rfl ?_
        refine wp_iconst (pc := 33) (v := 0) d_X12_states_33 rfl ?_
        refine wp_invV (pc := 34) (N := M_X12_keep) (As := [vi _]) (rest := []) (r := (cn_12, ct_12, 95)) d_X12_states_34 ml_X12_330 mk_X12_keep mv_X12_keep h0 ho1 rfl rfl (Nat.le_of_ble_eq_true rfl) ?_
        refine wpM.mono h (fun rr G2 hr => ?_)
        obtain ⟨rfl, h⟩ := hr
        show wp E d M_X12_states 37 [some (vr _), some (vi _), some (vi _)] [] G2 Q
        refine wp_aload_n (pc := 37) d_X12_states_37 rfl ?_
        refine wp_iconst (pc := 38) (v := 0) d_X12_states_38 rfl ?_
        refine wp_bipush (pc := 39) (v := 9) d_X12_states_39 rfl ?_
        obtain ⟨ho5, h⟩ := h
        refine wp_invV (pc := 41) (N := M_X12_aNumber) (As := [vi _, vi _]) (rest := []) (r := (cn_12, ct_12, 95)) d_X12_states_41 ml_X12_354 mk_X12_aNumber mv_X12_aNumber h0 ho5 rfl rfl (Nat.le_of_ble_eq_true rfl) ?_
        refine wpM.mono h (fun rr G4 hr => ?_)
        obtain ⟨r3, rfl, h⟩ := hr
        show wp E d M_X12_states 44 [some (vr _), some (vi _), some (vi _)] [vi _] G4 Q
        refine wp_istore_n (pc := 44) (lv' := [some (vr _), some (vi _), some (vi _)]) d_X12_states_44 (by decide) rfl ?_
        refine wp_iinc (pc := 45) (v := 1) (lv' := [some (vr _), some (vi _), some (vi _)]) d_X12_states_45 (by decide) rfl rfl rfl ?_
        refine wp_goto (pc := 48) (tgt := 10) d_X12_states_48 (by decide) ?_
        refine wp_sub ?_ h
        exact ⟨rfl, ⟨rfl, ⟨rfl, trivial⟩⟩⟩
theorem d_X12_items_0 : decode prog_14_method_41_code 0 = .ok (.aload_n 0, 1) := by decide +kernel
theorem d_X12_items_1 : decode prog_14_method_41_code 1 = .ok (.iload_n 1, 1) := by decide +kernel
theorem d_X12_items_2 : decode prog_14_method_41_code 2 = .ok (.iload_n 2, 1) := by decide +kernel
theorem d_X12_items_3 : decode prog_14_method_41_code 3 = .ok (.invokevirtual 427, 3) := by decide +kernel
theorem d_X12_items_6 : decode prog_14_method_41_code 6 = .ok (.iconst 1, 1) := by decide +kernel
theorem d_X12_items_7 : decode prog_14_method_41_code 7 = .ok (.istore_n 3, 1) := by decide +kernel
theorem d_X12_items_8 : decode prog_14_method_41_code 8 = .ok (.aload_n 0, 1) := by decide +kernel
theorem d_X12_items_9 : decode prog_14_method_41_code 9 = .ok (.getfield 311, 3) := by decide +kernel
theorem d_X12_items_12 : decode prog_14_method_41_code 12 = .ok (.ifCond .ne 35, 3) := by decide +kernel
theorem d_X12_items_15 : decode prog_14_method_41_code 15 = .ok (.aload_n 0, 1) := by decide +kernel
theorem d_X12_items_16 : decode prog_14_method_41_code 16 = .ok (.getfield 292, 3) := by decide +kernel
theorem d_X12_items_19 : decode prog_14_method_41_code 19 = .ok (.bipush 44, 2) := by decide +kernel
theorem d_X12_items_21 : decode prog_14_method_41_code 21 = .ok (.if_icmp .ne 26, 3) := by decide +kernel
theorem d_X12_items_24 : decode prog_14_method_41_code 24 = .ok (.iload_n 3, 1) := by decide +kernel
theorem d_X12_items_25 : decode prog_14_method_41_code 25 = .ok (.bipush 40, 2) := by decide +kernel
theorem d_X12_items_27 : decode prog_14_method_41_code 27 = .ok (.if_icmp .ge 20, 3) := by decide +kernel
theorem d_X12_items_30 : decode prog_14_method_41_code 30 = .ok (.aload_n 0, 1) := by decide +kernel
theorem d_X12_items_31 : decode prog_14_method_41_code 31 = .ok (.iconst 0, 1) := by decide +kernel
theorem d_X12_items_32 : decode prog_14_method_41_code 32 = .ok (.invokevirtual 330, 3) := by decide +kernel
theorem d_X12_items_35 : decode prog_14_method_41_code 35 = .ok (.aload_n 0, 1) := by decide +kernel
theorem d_X12_items_36 : decode prog_14_method_41_code 36 = .ok (.iload_n 1, 1) := by decide +kernel
theorem d_X12_items_37 : decode prog_14_method_41_code 37 = .ok (.iload_n 2, 1) := by decide +kernel
theorem d_X12_items_38 : decode prog_14_method_41_code 38 = .ok (.invokevirtual 427, 3) := by decide +kernel
theorem d_X12_items_41 : decode prog_14_method_41_code 41 = .ok (.iinc 3 1, 3) := by decide +kernel
theorem d_X12_items_44 : decode prog_14_method_41_code 44 = .ok (.goto (-36), 3) := by decide +kernel
theorem d_X12_items_47 : decode prog_14_method_41_code 47 = .ok (.return_, 1) := by decide +kernel
theorem v_X12_items_0 {E : EE} {d : Nat} {Q : Option AV → AH → Prop} {x0 : Nat} {x1 : Int32} {x2 : Int32} {G : AH} (h0 : 0 < d) (h : isO E G x0 12 ∧ (wpV E (d - 1) M_X12_item [vr x0, vi x1, vi x2] G (fun G1 => wp E d M_X12_items 8 [some (vr x0), some (vi x1), some (vi x2), some (vi 1)] [] G1 Q))) : wp E d M_X12_items 0 [some (vr x0), some (vi x1), some (vi x2), none] [] G Q := by
  refine wp_aload_n (pc := 0) d_X12_items_0 rfl ?_
  refine wp_iload_n (pc := 1) d_X12_items_1 rfl ?_
  refine wp_iload_n (pc := 2) d_X12_items_2 rfl ?_
  obtain ⟨ho2, h⟩ := h
  refine wp_invV (pc := 3) (N := M_X12_item) (As := [vi _, vi _]) (rest := []) (r := (cn_12, ct_12, 95)) d_X12_items_3 ml_X12_427 mk_X12_item mv_X12_item h0 ho2 rfl rfl (Nat.le_of_ble_eq_true rfl) ?_
  refine wpM.mono h (fun rr G1 hr => ?_)
  obtain ⟨rfl, h⟩ := hr
  show wp E d M_X12_items 6 [some (vr _), some (vi _), some (vi _), none] [] G1 Q
  refine wp_iconst (pc := 6) (v := 1) d_X12_items_6 rfl ?_
  refine wp_istore_n (pc := 7) (lv' := [some (vr _), some (vi _), some (vi _), some (vi _)]) d_X12_items_7 (by decide) rfl ?_
  refine wp_sub ?_ h
  exact ⟨rfl, ⟨rfl, ⟨rfl, ⟨rfl, trivial⟩⟩⟩⟩
theorem v_X12_items_8 {E : EE} {d : Nat} {Q : Option AV → AH → Prop} {x0 : Nat} {x1 : Int32} {x2 : Int32} {x3 : Int32} {G : AH} (h0 : 0 < d) (h : isO E G x0 12 ∧ ((¬ (gI G x0 45) = 0 → Q none G) ∧ ((gI G x0 45) = 0 → (¬ (gI G x0 41) = 44 → Q none G) ∧ ((gI G x0 41) = 44 → (40 ≤ x3 → Q none G) ∧ (¬ (40 ≤ x3) → wpV E (d - 1) M_X12_keep [vr x0, vi 0] G (fun G2 => isO E G2 x0 12 ∧ (wpV E (d - 1) M_X12_item [vr x0, vi x1, vi x2] G2 (fun G3 => wp E d M_X12_items 8 [some (vr x0), some (vi x1), some (vi x2), some (vi (x3 + 1))] [] G3 Q)))))))) : wp E d M_X12_items 8 [some (vr x0), some (vi x1), some (vi x2), some (vi x3)] [] G Q := by
  refine wp_aload_n (pc := 8) d_X12_items_8 rfl ?_
  obtain ⟨ho1, h⟩ := h
  refine wp_getI (pc := 9) d_X12_items_9 fl_X12_311 (fun _ _ _ => rfl) ho1 ?_
  refine wp_if_ne (pc := 12) (tgt := 47) d_X12_items_12 (by decide) (fun hc => ?_) (fun hc => ?_)
  · have h := h.1 hc
    exact wp_vret (pc := 47) d_X12_items_47 rfl h
  · have h := h.2 hc
    refine wp_aload_n (pc := 15) d_X12_items_15 rfl ?_
    refine wp_getI (pc := 16) d_X12_items_16 fl_X12_292 (fun _ _ _ => rfl) ho1 ?_
    refine wp_bipush (pc := 19) (v := 44) d_X12_items_19 rfl ?_
    refine wp_icmp_ne (pc := 21) (tgt := 47) d_X12_items_21 (by decide) (fun hc => ?_) (fun hc => ?_)
    · have h := h.1 hc
      exact wp_vret (pc := 47) d_X12_items_47 rfl h
    · have h := h.2 hc
      refine wp_iload_n (pc := 24) d_X12_items_24 rfl ?_
      refine wp_bipush (pc := 25) (v := 40) d_X12_items_25 rfl ?_
      refine wp_icmp_ge (pc := 27) (tgt := 47) d_X12_items_27 (by decide) (fun hc => ?_) (fun hc => ?_)
      · have h := h.1 hc
        exact wp_vret (pc := 47) d_X12_items_47 rfl h
      · have h := h.2 hc
        refine wp_aload_n (pc := 30) d_X12_items_30 rfl ?_
        refine wp_iconst (pc := 31) (v := 0) d_X12_items_31 rfl ?_
        refine wp_invV (pc := 32) (N := M_X12_keep) (As := [vi _]) (rest := []) (r := (cn_12, ct_12, 95)) d_X12_items_32 ml_X12_330 mk_X12_keep mv_X12_keep h0 ho1 rfl rfl (Nat.le_of_ble_eq_true rfl) ?_
        refine wpM.mono h (fun rr G2 hr => ?_)
        obtain ⟨rfl, h⟩ := hr
        show wp E d M_X12_items 35 [some (vr _), some (vi _), some (vi _), some (vi _)] [] G2 Q
        refine wp_aload_n (pc := 35) d_X12_items_35 rfl ?_
        refine wp_iload_n (pc := 36) d_X12_items_36 rfl ?_
        refine wp_iload_n (pc := 37) d_X12_items_37 rfl ?_
        obtain ⟨ho4, h⟩ := h
        refine wp_invV (pc := 38) (N := M_X12_item) (As := [vi _, vi _]) (rest := []) (r := (cn_12, ct_12, 95)) d_X12_items_38 ml_X12_427 mk_X12_item mv_X12_item h0 ho4 rfl rfl (Nat.le_of_ble_eq_true rfl) ?_
        refine wpM.mono h (fun rr G3 hr => ?_)
        obtain ⟨rfl, h⟩ := hr
        show wp E d M_X12_items 41 [some (vr _), some (vi _), some (vi _), some (vi _)] [] G3 Q
        refine wp_iinc (pc := 41) (v := 1) (lv' := [some (vr _), some (vi _), some (vi _), some (vi _)]) d_X12_items_41 (by decide) rfl rfl rfl ?_
        refine wp_goto (pc := 44) (tgt := 8) d_X12_items_44 (by decide) ?_
        refine wp_sub ?_ h
        exact ⟨rfl, ⟨rfl, ⟨rfl, ⟨rfl, trivial⟩⟩⟩⟩
theorem d_X12_item_0 : decode prog_14_method_42_code 0 = .ok (.aload_n 0, 1) := by decide +kernel
theorem d_X12_item_1 : decode prog_14_method_42_code 1 = .ok (.bipush 40, 2) := by decide +kernel
theorem d_X12_item_3 : decode prog_14_method_42_code 3 = .ok (.invokevirtual 373, 3) := by decide +kernel
theorem d_X12_item_6 : decode prog_14_method_42_code 6 = .ok (.iload_n 1, 1) := by decide +kernel
theorem d_X12_item_7 : decode prog_14_method_42_code 7 = .ok (.sipush 307, 3) := by decide +kernel
theorem d_X12_item_10 : decode prog_14_method_42_code 10 = .ok (.if_icmp .ne 38, 3) := by decide +kernel
theorem d_X12_item_13 : decode prog_14_method_42_code 13 = .ok (.iconst 0, 1) := by decide +kernel
theorem d_X12_item_14 : decode prog_14_method_42_code 14 = .ok (.istore_n 3, 1) := by decide +kernel
theorem d_X12_item_15 : decode prog_14_method_42_code 15 = .ok (.iload_n 3, 1) := by decide +kernel
theorem d_X12_item_16 : decode prog_14_method_42_code 16 = .ok (.iload_n 2, 1) := by decide +kernel
theorem d_X12_item_17 : decode prog_14_method_42_code 17 = .ok (.if_icmp .ge 28, 3) := by decide +kernel
theorem d_X12_item_20 : decode prog_14_method_42_code 20 = .ok (.iload_n 3, 1) := by decide +kernel
theorem d_X12_item_21 : decode prog_14_method_42_code 21 = .ok (.ifCond .le 9, 3) := by decide +kernel
theorem d_X12_item_24 : decode prog_14_method_42_code 24 = .ok (.aload_n 0, 1) := by decide +kernel
theorem d_X12_item_25 : decode prog_14_method_42_code 25 = .ok (.bipush 44, 2) := by decide +kernel
theorem d_X12_item_27 : decode prog_14_method_42_code 27 = .ok (.invokevirtual 373, 3) := by decide +kernel
theorem d_X12_item_30 : decode prog_14_method_42_code 30 = .ok (.aload_n 0, 1) := by decide +kernel
theorem d_X12_item_31 : decode prog_14_method_42_code 31 = .ok (.sipush 9999, 3) := by decide +kernel
theorem d_X12_item_34 : decode prog_14_method_42_code 34 = .ok (.invokevirtual 376, 3) := by decide +kernel
theorem d_X12_item_37 : decode prog_14_method_42_code 37 = .ok (.istore 4, 2) := by decide +kernel
theorem d_X12_item_39 : decode prog_14_method_42_code 39 = .ok (.iinc 3 1, 3) := by decide +kernel
theorem d_X12_item_42 : decode prog_14_method_42_code 42 = .ok (.goto (-27), 3) := by decide +kernel
theorem d_X12_item_45 : decode prog_14_method_42_code 45 = .ok (.goto 101, 3) := by decide +kernel
theorem d_X12_item_48 : decode prog_14_method_42_code 48 = .ok (.iload_n 1, 1) := by decide +kernel
theorem d_X12_item_49 : decode prog_14_method_42_code 49 = .ok (.sipush 310, 3) := by decide +kernel
theorem d_X12_item_52 : decode prog_14_method_42_code 52 = .ok (.if_icmp .ne 43, 3) := by decide +kernel
theorem d_X12_item_55 : decode prog_14_method_42_code 55 = .ok (.aload_n 0, 1) := by decide +kernel
theorem d_X12_item_56 : decode prog_14_method_42_code 56 = .ok (.iconst 0, 1) := by decide +kernel
theorem d_X12_item_57 : decode prog_14_method_42_code 57 = .ok (.bipush 9, 2) := by decide +kernel
theorem d_X12_item_59 : decode prog_14_method_42_code 59 = .ok (.invokevirtual 354, 3) := by decide +kernel
theorem d_X12_item_62 : decode prog_14_method_42_code 62 = .ok (.istore_n 3, 1) := by decide +kernel
theorem d_X12_item_63 : decode prog_14_method_42_code 63 = .ok (.aload_n 0, 1) := by decide +kernel
theorem d_X12_item_64 : decode prog_14_method_42_code 64 = .ok (.bipush 44, 2) := by decide +kernel
theorem d_X12_item_66 : decode prog_14_method_42_code 66 = .ok (.invokevirtual 373, 3) := by decide +kernel
theorem d_X12_item_69 : decode prog_14_method_42_code 69 = .ok (.aload_n 0, 1) := by decide +kernel
theorem d_X12_item_70 : decode prog_14_method_42_code 70 = .ok (.sipush 9999, 3) := by decide +kernel
theorem d_X12_item_73 : decode prog_14_method_42_code 73 = .ok (.invokevirtual 376, 3) := by decide +kernel
theorem d_X12_item_76 : decode prog_14_method_42_code 76 = .ok (.istore 4, 2) := by decide +kernel
theorem d_X12_item_78 : decode prog_14_method_42_code 78 = .ok (.aload_n 0, 1) := by decide +kernel
theorem d_X12_item_79 : decode prog_14_method_42_code 79 = .ok (.bipush 44, 2) := by decide +kernel
theorem d_X12_item_81 : decode prog_14_method_42_code 81 = .ok (.invokevirtual 373, 3) := by decide +kernel
theorem d_X12_item_84 : decode prog_14_method_42_code 84 = .ok (.aload_n 0, 1) := by decide +kernel
theorem d_X12_item_85 : decode prog_14_method_42_code 85 = .ok (.iconst 0, 1) := by decide +kernel
theorem d_X12_item_86 : decode prog_14_method_42_code 86 = .ok (.bipush 9, 2) := by decide +kernel
theorem d_X12_item_88 : decode prog_14_method_42_code 88 = .ok (.invokevirtual 354, 3) := by decide +kernel
theorem d_X12_item_91 : decode prog_14_method_42_code 91 = .ok (.istore_n 3, 1) := by decide +kernel
theorem d_X12_item_92 : decode prog_14_method_42_code 92 = .ok (.goto 54, 3) := by decide +kernel
theorem d_X12_item_95 : decode prog_14_method_42_code 95 = .ok (.aload_n 0, 1) := by decide +kernel
theorem d_X12_item_96 : decode prog_14_method_42_code 96 = .ok (.invokevirtual 424, 3) := by decide +kernel
theorem d_X12_item_99 : decode prog_14_method_42_code 99 = .ok (.aload_n 0, 1) := by decide +kernel
theorem d_X12_item_100 : decode prog_14_method_42_code 100 = .ok (.bipush 44, 2) := by decide +kernel
theorem d_X12_item_102 : decode prog_14_method_42_code 102 = .ok (.invokevirtual 373, 3) := by decide +kernel
theorem d_X12_item_105 : decode prog_14_method_42_code 105 = .ok (.iload_n 1, 1) := by decide +kernel
theorem d_X12_item_106 : decode prog_14_method_42_code 106 = .ok (.sipush 312, 3) := by decide +kernel
theorem d_X12_item_109 : decode prog_14_method_42_code 109 = .ok (.if_icmp .ne 13, 3) := by decide +kernel
theorem d_X12_item_112 : decode prog_14_method_42_code 112 = .ok (.aload_n 0, 1) := by decide +kernel
theorem d_X12_item_113 : decode prog_14_method_42_code 113 = .ok (.invokevirtual 424, 3) := by decide +kernel
theorem d_X12_item_116 : decode prog_14_method_42_code 116 = .ok (.aload_n 0, 1) := by decide +kernel
theorem d_X12_item_117 : decode prog_14_method_42_code 117 = .ok (.bipush 44, 2) := by decide +kernel
theorem d_X12_item_119 : decode prog_14_method_42_code 119 = .ok (.invokevirtual 373, 3) := by decide +kernel
theorem d_X12_item_122 : decode prog_14_method_42_code 122 = .ok (.aload_n 0, 1) := by decide +kernel
theorem d_X12_item_123 : decode prog_14_method_42_code 123 = .ok (.iconst 0, 1) := by decide +kernel
theorem d_X12_item_124 : decode prog_14_method_42_code 124 = .ok (.sipush 9999, 3) := by decide +kernel
theorem d_X12_item_127 : decode prog_14_method_42_code 127 = .ok (.invokevirtual 354, 3) := by decide +kernel
theorem d_X12_item_130 : decode prog_14_method_42_code 130 = .ok (.istore_n 3, 1) := by decide +kernel
theorem d_X12_item_131 : decode prog_14_method_42_code 131 = .ok (.aload_n 0, 1) := by decide +kernel
theorem d_X12_item_132 : decode prog_14_method_42_code 132 = .ok (.bipush 44, 2) := by decide +kernel
theorem d_X12_item_134 : decode prog_14_method_42_code 134 = .ok (.invokevirtual 373, 3) := by decide +kernel
theorem d_X12_item_137 : decode prog_14_method_42_code 137 = .ok (.aload_n 0, 1) := by decide +kernel
theorem d_X12_item_138 : decode prog_14_method_42_code 138 = .ok (.iconst 0, 1) := by decide +kernel
theorem d_X12_item_139 : decode prog_14_method_42_code 139 = .ok (.sipush 9999, 3) := by decide +kernel
theorem d_X12_item_142 : decode prog_14_method_42_code 142 = .ok (.invokevirtual 354, 3) := by decide +kernel
theorem d_X12_item_145 : decode prog_14_method_42_code 145 = .ok (.istore_n 3, 1) := by decide +kernel
theorem d_X12_item_146 : decode prog_14_method_42_code 146 = .ok (.aload_n 0, 1) := by decide +kernel
theorem d_X12_item_147 : decode prog_14_method_42_code 147 = .ok (.bipush 41, 2) := by decide +kernel
theorem d_X12_item_149 : decode prog_14_method_42_code 149 = .ok (.invokevirtual 373, 3) := by decide +kernel
theorem d_X12_item_152 : decode prog_14_method_42_code 152 = .ok (.return_, 1) := by decide +kernel
theorem v_X12_item_0 {E : EE} {d : Nat} {Q : Option AV → AH → Prop} {x0 : Nat} {x1 : Int32} {x2 : Int32} {G : AH} (h0 : 0 < d) (h : isO E G x0 12 ∧ (wpV E (d - 1) M_X12_need [vr x0, vi 40] G (fun G1 => (¬ x1 = 307 → (¬ x1 = 310 → isO E G1 x0 12 ∧ (wpV E (d - 1) M_X12_aVar [vr x0] G1 (fun G2 => isO E G2 x0 12 ∧ (wpV E (d - 1) M_X12_need [vr x0, vi 44] G2 (fun G3 => (¬ x1 = 312 → wp E d M_X12_item 122 [some (vr x0), some (vi x1), some (vi x2), none, none] [] G3 Q) ∧ (x1 = 312 → isO E G3 x0 12 ∧ (wpV E (d - 1) M_X12_aVar [vr x0] G3 (fun G4 => isO E G4 x0 12 ∧ (wpV E (d - 1) M_X12_need [vr x0, vi 44] G4 (fun G5 => wp E d M_X12_item 122 [some (vr x0), some (vi x1), some (vi x2), none, none] [] G5 Q)))))))))) ∧ (x1 = 310 → isO E G1 x0 12 ∧ (wpI E (d - 1) M_X12_aNumber [vr x0, vi 0, vi 9] G1 (fun r10 G11 => isO E G11 x0 12 ∧ (wpV E (d - 1) M_X12_need [vr x0, vi 44] G11 (fun G12 => isO E G12 x0 12 ∧ (wpI E (d - 1) M_X12_anInt [vr x0, vi 9999] G12 (fun r13 G14 => isO E G14 x0 12 ∧ (wpV E (d - 1) M_X12_need [vr x0, vi 44] G14 (fun G15 => isO E G15 x0 12 ∧ (wpI E (d - 1) M_X12_aNumber [vr x0, vi 0, vi 9] G15 (fun r16 G17 => wp E d M_X12_item 146 [some (vr x0), some (vi x1), some (vi x2), some (vi r16), none] [] G17 Q)))))))))))) ∧ (x1 = 307 → wp E d M_X12_item 15 [some (vr x0), some (vi x1), some (vi x2), some (vi 0), none] [] G1 Q)))) : wp E d M_X12_item 0 [some (vr x0), some (vi x1), some (vi x2), none, none] [] G Q := by
  refine wp_aload_n (pc := 0) d_X12_item_0 rfl ?_
  refine wp_bipush (pc := 1) (v := 40) d_X12_item_1 rfl ?_
  obtain ⟨ho23, h⟩ := h
  refine wp_invV (pc := 3) (N := M_X12_need) (As := [vi _]) (rest := []) (r := (cn_12, ct_12, 95)) d_X12_item_3 ml_X12_373 mk_X12_need mv_X12_need h0 ho23 rfl rfl (Nat.le_of_ble_eq_true rfl) ?_
  refine wpM.mono h (fun rr G1 hr => ?_)
  obtain ⟨rfl, h⟩ := hr
  show wp E d M_X12_item 6 [some (vr _), some (vi _), some (vi _), none, none] [] G1 Q
  refine wp_iload_n (pc := 6) d_X12_item_6 rfl ?_
  refine wp_sipush (pc := 7) (v := 307) d_X12_item_7 rfl ?_
  refine wp_icmp_ne (pc := 10) (tgt := 48) d_X12_item_10 (by decide) (fun hc => ?_) (fun hc => ?_)
  · have h := h.1 hc
    refine wp_iload_n (pc := 48) d_X12_item_48 rfl ?_
    refine wp_sipush (pc := 49) (v := 310) d_X12_item_49 rfl ?_
    refine wp_icmp_ne (pc := 52) (tgt := 95) d_X12_item_52 (by decide) (fun hc => ?_) (fun hc => ?_)
    · have h := h.1 hc
      refine wp_aload_n (pc := 95) d_X12_item_95 rfl ?_
      obtain ⟨ho9, h⟩ := h
      refine wp_invV (pc := 96) (N := M_X12_aVar) (As := []) (rest := []) (r := (cn_12, ct_12, 95)) d_X12_item_96 ml_X12_424 mk_X12_aVar mv_X12_aVar h0 ho9 rfl rfl (Nat.le_of_ble_eq_true rfl) ?_
      refine wpM.mono h (fun rr G2 hr => ?_)
      obtain ⟨rfl, h⟩ := hr
      show wp E d M_X12_item 99 [some (vr _), some (vi _), some (vi _), none, none] [] G2 Q
      refine wp_aload_n (pc := 99) d_X12_item_99 rfl ?_
      refine wp_bipush (pc := 100) (v := 44) d_X12_item_100 rfl ?_
      obtain ⟨ho8, h⟩ := h
      refine wp_invV (pc := 102) (N := M_X12_need) (As := [vi _]) (rest := []) (r := (cn_12, ct_12, 95)) d_X12_item_102 ml_X12_373 mk_X12_need mv_X12_need h0 ho8 rfl rfl (Nat.le_of_ble_eq_true rfl) ?_
      refine wpM.mono h (fun rr G3 hr => ?_)
      obtain ⟨rfl, h⟩ := hr
      show wp E d M_X12_item 105 [some (vr _), some (vi _), some (vi _), none, none] [] G3 Q
      refine wp_iload_n (pc := 105) d_X12_item_105 rfl ?_
      refine wp_sipush (pc := 106) (v := 312) d_X12_item_106 rfl ?_
      refine wp_icmp_ne (pc := 109) (tgt := 122) d_X12_item_109 (by decide) (fun hc => ?_) (fun hc => ?_)
      · have h := h.1 hc
        refine wp_sub ?_ h
        exact ⟨rfl, ⟨rfl, ⟨rfl, trivial⟩⟩⟩
      · have h := h.2 hc
        refine wp_aload_n (pc := 112) d_X12_item_112 rfl ?_
        obtain ⟨ho7, h⟩ := h
        refine wp_invV (pc := 113) (N := M_X12_aVar) (As := []) (rest := []) (r := (cn_12, ct_12, 95)) d_X12_item_113 ml_X12_424 mk_X12_aVar mv_X12_aVar h0 ho7 rfl rfl (Nat.le_of_ble_eq_true rfl) ?_
        refine wpM.mono h (fun rr G4 hr => ?_)
        obtain ⟨rfl, h⟩ := hr
        show wp E d M_X12_item 116 [some (vr _), some (vi _), some (vi _), none, none] [] G4 Q
        refine wp_aload_n (pc := 116) d_X12_item_116 rfl ?_
        refine wp_bipush (pc := 117) (v := 44) d_X12_item_117 rfl ?_
        obtain ⟨ho6, h⟩ := h
        refine wp_invV (pc := 119) (N := M_X12_need) (As := [vi _]) (rest := []) (r := (cn_12, ct_12, 95)) d_X12_item_119 ml_X12_373 mk_X12_need mv_X12_need h0 ho6 rfl rfl (Nat.le_of_ble_eq_true rfl) ?_
        refine wpM.mono h (fun rr G5 hr => ?_)
        obtain ⟨rfl, h⟩ := hr
        show wp E d M_X12_item 122 [some (vr _), some (vi _), some (vi _), none, none] [] G5 Q
        refine wp_sub ?_ h
        exact ⟨rfl, ⟨rfl, ⟨rfl, trivial⟩⟩⟩
    · have h := h.2 hc
      refine wp_aload_n (pc := 55) d_X12_item_55 rfl ?_
      refine wp_iconst (pc := 56) (v := 0) d_X12_item_56 rfl ?_
      refine wp_bipush (pc := 57) (v := 9) d_X12_item_57 rfl ?_
      obtain ⟨ho22, h⟩ := h
      refine wp_invV (pc := 59) (N := M_X12_aNumber) (As := [vi _, vi _]) (rest := []) (r := (cn_12, ct_12, 95)) d_X12_item_59 ml_X12_354 mk_X12_aNumber mv_X12_aNumber h0 ho22 rfl rfl (Nat.le_of_ble_eq_true rfl) ?_
      refine wpM.mono h (fun rr G11 hr => ?_)
      obtain ⟨r10, rfl, h⟩ := hr
      show wp E d M_X12_item 62 [some (vr _), some (vi _), some (vi _), none, none] [vi _] G11 Q
      refine wp_istore_n (pc := 62) (lv' := [some (vr _), some (vi _), some (vi _), some (vi _), none]) d_X12_item_62 (by decide) rfl ?_
      refine wp_aload_n (pc := 63) d_X12_item_63 rfl ?_
      refine wp_bipush (pc := 64) (v := 44) d_X12_item_64 rfl ?_
      obtain ⟨ho21, h⟩ := h
      refine wp_invV (pc := 66) (N := M_X12_need) (As := [vi _]) (rest := []) (r := (cn_12, ct_12, 95)) d_X12_item_66 ml_X12_373 mk_X12_need mv_X12_need h0 ho21 rfl rfl (Nat.le_of_ble_eq_true rfl) ?_
      refine wpM.mono h (fun rr G12 hr => ?_)
      obtain ⟨rfl, h⟩ := hr
      show wp E d M_X12_item 69 [some (vr _), some (vi _), some (vi _), some (vi _), none] [] G12 Q
      refine wp_aload_n (pc := 69) d_X12_item_69 rfl ?_
      refine wp_sipush (pc := 70) (v := 9999) d_X12_item_70 rfl ?_
      obtain ⟨ho20, h⟩ := h
      refine wp_invV (pc := 73) (N := M_X12_anInt) (As := [vi _]) (rest := []) (r := (cn_12, ct_12, 95)) d_X12_item_73 ml_X12_376 mk_X12_anInt mv_X12_anInt h0 ho20 rfl rfl (Nat.le_of_ble_eq_true rfl) ?_
      refine wpM.mono h (fun rr G14 hr => ?_)
      obtain ⟨r13, rfl, h⟩ := hr
      show wp E d M_X12_item 76 [some (vr _), some (vi _), some (vi _), some (vi _), none] [vi _] G14 Q
      refine wp_istore (pc := 76) (lv' := [some (vr _), some (vi _), some (vi _), some (vi _), some (vi _)]) d_X12_item_76 (by decide) rfl ?_
      refine wp_aload_n (pc := 78) d_X12_item_78 rfl ?_
      refine wp_bipush (pc := 79) (v := 44) d_X12_item_79 rfl ?_
      obtain ⟨ho19, h⟩ := h
      refine wp_invV (pc := 81) (N := M_X12_need) (As := [vi _]) (rest := []) (r := (cn_12, ct_12, 95)) d_X12_item_81 ml_X12_373 mk_X12_need mv_X12_need h0 ho19 rfl rfl (Nat.le_of_ble_eq_true rfl) ?_
      refine wpM.mono h (fun rr G15 hr => ?_)
      obtain ⟨rfl, h⟩ := hr
      show wp E d M_X12_item 84 [some (vr _), some (vi _), some (vi _), some (vi _), some (vi _)] [] G15 Q
      refine wp_aload_n (pc := 84) d_X12_item_84 rfl ?_
      refine wp_iconst (pc := 85) (v := 0) d_X12_item_85 rfl ?_
      refine wp_bipush (pc := 86) (v := 9) d_X12_item_86 rfl ?_
      obtain ⟨ho18, h⟩ := h
      refine wp_invV (pc := 88) (N := M_X12_aNumber) (As := [vi _, vi _]) (rest := []) (r := (cn_12, ct_12, 95)) d_X12_item_88 ml_X12_354 mk_X12_aNumber mv_X12_aNumber h0 ho18 rfl rfl (Nat.le_of_ble_eq_true rfl) ?_
      refine wpM.mono h (fun rr G17 hr => ?_)
      obtain ⟨r16, rfl, h⟩ := hr
      show wp E d M_X12_item 91 [some (vr _), some (vi _), some (vi _), some (vi _), some (vi _)] [vi _] G17 Q
      refine wp_istore_n (pc := 91) (lv' := [some (vr _), some (vi _), some (vi _), some (vi _), some (vi _)]) d_X12_item_91 (by decide) rfl ?_
      refine wp_goto (pc := 92) (tgt := 146) d_X12_item_92 (by decide) ?_
      refine wp_sub ?_ h
      exact ⟨rfl, ⟨rfl, ⟨rfl, ⟨rfl, trivial⟩⟩⟩⟩
  · have h := h.2 hc
    refine wp_iconst (pc := 13) (v := 0) d_X12_item_13 rfl ?_
    refine wp_istore_n (pc := 14) (lv' := [some (vr _), some (vi _), some (vi _), some (vi _), none]) d_X12_item_14 (by decide) rfl ?_
    refine wp_sub ?_ h
    exact ⟨rfl, ⟨rfl, ⟨rfl, ⟨rfl, trivial⟩⟩⟩⟩
theorem v_X12_item_15 {E : EE} {d : Nat} {Q : Option AV → AH → Prop} {x0 : Nat} {x1 : Int32} {x2 : Int32} {x3 : Int32} {G : AH} (h0 : 0 < d) (h : (x2 ≤ x3 → wp E d M_X12_item 146 [some (vr x0), some (vi x1), some (vi x2), some (vi x3), none] [] G Q) ∧ (¬ (x2 ≤ x3) → (x3 ≤ 0 → wp E d M_X12_item 30 [some (vr x0), some (vi x1), some (vi x2), some (vi x3), none] [] G Q) ∧ (¬ (x3 ≤ 0) → isO E G x0 12 ∧ (wpV E (d - 1) M_X12_need [vr x0, vi 44] G (fun G1 => wp E d M_X12_item 30 [some (vr x0), some (vi x1), some (vi x2), some (vi x3), none] [] G1 Q))))) : wp E d M_X12_item 15 [some (vr x0), some (vi x1), some (vi x2), some (vi x3), none] [] G Q := by
  refine wp_iload_n (pc := 15) d_X12_item_15 rfl ?_
  refine wp_iload_n (pc := 16) d_X12_item_16 rfl ?_
  refine wp_icmp_ge (pc := 17) (tgt := 45) d_X12_item_17 (by decide) (fun hc => ?_) (fun hc => ?_)
  · have h := h.1 hc
    refine wp_goto (pc := 45) (tgt := 146) d_X12_item_45 (by decide) ?_
    refine wp_sub ?_ h
    exact ⟨rfl, ⟨rfl, ⟨rfl, ⟨rfl, trivial⟩⟩⟩⟩
  · have h := h.2 hc
    refine wp_iload_n (pc := 20) d_X12_item_20 rfl ?_
    refine wp_if_le (pc := 21) (tgt := 30) d_X12_item_21 (by decide) (fun hc => ?_) (fun hc => ?_)
    · have h := h.1 hc
      refine wp_sub ?_ h
      exact ⟨rfl, ⟨rfl, ⟨rfl, ⟨rfl, trivial⟩⟩⟩⟩
    · have h := h.2 hc
      refine wp_aload_n (pc := 24) d_X12_item_24 rfl ?_
      refine wp_bipush (pc := 25) (v := 44) d_X12_item_25 rfl ?_
      obtain ⟨ho2, h⟩ := h
      refine wp_invV (pc := 27) (N := M_X12_need) (As := [vi _]) (rest := []) (r := (cn_12, ct_12, 95)) d_X12_item_27 ml_X12_373 mk_X12_need mv_X12_need h0 ho2 rfl rfl (Nat.le_of_ble_eq_true rfl) ?_
      refine wpM.mono h (fun rr G1 hr => ?_)
      obtain ⟨rfl, h⟩ := hr
      show wp E d M_X12_item 30 [some (vr _), some (vi _), some (vi _), some (vi _), none] [] G1 Q
      refine wp_sub ?_ h
      exact ⟨rfl, ⟨rfl, ⟨rfl, ⟨rfl, trivial⟩⟩⟩⟩
theorem v_X12_item_30 {E : EE} {d : Nat} {Q : Option AV → AH → Prop} {x0 : Nat} {x1 : Int32} {x2 : Int32} {x3 : Int32} {G : AH} (h0 : 0 < d) (h : isO E G x0 12 ∧ (wpI E (d - 1) M_X12_anInt [vr x0, vi 9999] G (fun r1 G2 => wp E d M_X12_item 15 [some (vr x0), some (vi x1), some (vi x2), some (vi (x3 + 1)), none] [] G2 Q))) : wp E d M_X12_item 30 [some (vr x0), some (vi x1), some (vi x2), some (vi x3), none] [] G Q := by
  refine wp_aload_n (pc := 30) d_X12_item_30 rfl ?_
  refine wp_sipush (pc := 31) (v := 9999) d_X12_item_31 rfl ?_
  obtain ⟨ho3, h⟩ := h
  refine wp_invV (pc := 34) (N := M_X12_anInt) (As := [vi _]) (rest := []) (r := (cn_12, ct_12, 95)) d_X12_item_34 ml_X12_376 mk_X12_anInt mv_X12_anInt h0 ho3 rfl rfl (Nat.le_of_ble_eq_true rfl) ?_
  refine wpM.mono h (fun rr G2 hr => ?_)
  obtain ⟨r1, rfl, h⟩ := hr
  show wp E d M_X12_item 37 [some (vr _), some (vi _), some (vi _), some (vi _), none] [vi _] G2 Q
  refine wp_istore (pc := 37) (lv' := [some (vr _), some (vi _), some (vi _), some (vi _), some (vi _)]) d_X12_item_37 (by decide) rfl ?_
  refine wp_iinc (pc := 39) (v := 1) (lv' := [some (vr _), some (vi _), some (vi _), some (vi _), some (vi _)]) d_X12_item_39 (by decide) rfl rfl rfl ?_
  refine wp_goto (pc := 42) (tgt := 15) d_X12_item_42 (by decide) ?_
  refine wp_sub ?_ h
  exact ⟨rfl, ⟨rfl, ⟨rfl, ⟨rfl, trivial⟩⟩⟩⟩
theorem v_X12_item_122 {E : EE} {d : Nat} {Q : Option AV → AH → Prop} {x0 : Nat} {x1 : Int32} {x2 : Int32} {G : AH} (h0 : 0 < d) (h : isO E G x0 12 ∧ (wpI E (d - 1) M_X12_aNumber [vr x0, vi 0, vi 9999] G (fun r1 G2 => isO E G2 x0 12 ∧ (wpV E (d - 1) M_X12_need [vr x0, vi 44] G2 (fun G3 => isO E G3 x0 12 ∧ (wpI E (d - 1) M_X12_aNumber [vr x0, vi 0, vi 9999] G3 (fun r4 G5 => wp E d M_X12_item 146 [some (vr x0), some (vi x1), some (vi x2), some (vi r4), none] [] G5 Q))))))) : wp E d M_X12_item 122 [some (vr x0), some (vi x1), some (vi x2), none, none] [] G Q := by
  refine wp_aload_n (pc := 122) d_X12_item_122 rfl ?_
  refine wp_iconst (pc := 123) (v := 0) d_X12_item_123 rfl ?_
  refine wp_sipush (pc := 124) (v := 9999) d_X12_item_124 rfl ?_
  obtain ⟨ho8, h⟩ := h
  refine wp_invV (pc := 127) (N := M_X12_aNumber) (As := [vi _, vi _]) (rest := []) (r := (cn_12, ct_12, 95)) d_X12_item_127 ml_X12_354 mk_X12_aNumber mv_X12_aNumber h0 ho8 rfl rfl (Nat.le_of_ble_eq_true rfl) ?_
  refine wpM.mono h (fun rr G2 hr => ?_)
  obtain ⟨r1, rfl, h⟩ := hr
  show wp E d M_X12_item 130 [some (vr _), some (vi _), some (vi _), none, none] [vi _] G2 Q
  refine wp_istore_n (pc := 130) (lv' := [some (vr _), some (vi _), some (vi _), some (vi _), none]) d_X12_item_130 (by decide) rfl ?_
  refine wp_aload_n (pc := 131) d_X12_item_131 rfl ?_
  refine wp_bipush (pc := 132) (v := 44) d_X12_item_132 rfl ?_
  obtain ⟨ho7, h⟩ := h
  refine wp_invV (pc := 134) (N := M_X12_need) (As := [vi _]) (rest := []) (r := (cn_12, ct_12, 95)) d_X12_item_134 ml_X12_373 mk_X12_need mv_X12_need h0 ho7 rfl rfl (Nat.le_of_ble_eq_true rfl) ?_
  refine wpM.mono h (fun rr G3 hr => ?_)
  obtain ⟨rfl, h⟩ := hr
  show wp E d M_X12_item 137 [some (vr _), some (vi _), some (vi _), some (vi _), none] [] G3 Q
  refine wp_aload_n (pc := 137) d_X12_item_137 rfl ?_
  refine wp_iconst (pc := 138) (v := 0) d_X12_item_138 rfl ?_
  refine wp_sipush (pc := 139) (v := 9999) d_X12_item_139 rfl ?_
  obtain ⟨ho6, h⟩ := h
  refine wp_invV (pc := 142) (N := M_X12_aNumber) (As := [vi _, vi _]) (rest := []) (r := (cn_12, ct_12, 95)) d_X12_item_142 ml_X12_354 mk_X12_aNumber mv_X12_aNumber h0 ho6 rfl rfl (Nat.le_of_ble_eq_true rfl) ?_
  refine wpM.mono h (fun rr G5 hr => ?_)
  obtain ⟨r4, rfl, h⟩ := hr
  show wp E d M_X12_item 145 [some (vr _), some (vi _), some (vi _), some (vi _), none] [vi _] G5 Q
  refine wp_istore_n (pc := 145) (lv' := [some (vr _), some (vi _), some (vi _), some (vi _), none]) d_X12_item_145 (by decide) rfl ?_
  refine wp_sub ?_ h
  exact ⟨rfl, ⟨rfl, ⟨rfl, ⟨rfl, trivial⟩⟩⟩⟩
theorem v_X12_item_146 {E : EE} {d : Nat} {Q : Option AV → AH → Prop} {x0 : Nat} {x1 : Int32} {x2 : Int32} {x3 : Int32} {G : AH} (h0 : 0 < d) (h : isO E G x0 12 ∧ (wpV E (d - 1) M_X12_need [vr x0, vi 41] G (fun G1 => Q none G1))) : wp E d M_X12_item 146 [some (vr x0), some (vi x1), some (vi x2), some (vi x3), none] [] G Q := by
  refine wp_aload_n (pc := 146) d_X12_item_146 rfl ?_
  refine wp_bipush (pc := 147) (v := 41) d_X12_item_147 rfl ?_
  obtain ⟨ho2, h⟩ := h
  refine wp_invV (pc := 149) (N := M_X12_need) (As := [vi _]) (rest := []) (r := (cn_12, ct_12, 95)) d_X12_item_149 ml_X12_373 mk_X12_need mv_X12_need h0 ho2 rfl rfl (Nat.le_of_ble_eq_true rfl) ?_
  refine wpM.mono h (fun rr G1 hr => ?_)
  obtain ⟨rfl, h⟩ := hr
  show wp E d M_X12_item 152 [some (vr _), some (vi _), some (vi _), some (vi _), none] [] G1 Q
  exact wp_vret (pc := 152) d_X12_item_152 rfl h
theorem d_X12_isRelation_0 : decode prog_14_method_36_code 0 = .ok (.iload_n 0, 1) := by decide +kernel
theorem d_X12_isRelation_1 : decode prog_14_method_36_code 1 = .ok (.bipush 61, 2) := by decide +kernel
theorem d_X12_isRelation_3 : decode prog_14_method_36_code 3 = .ok (.if_icmp .eq 35, 3) := by decide +kernel
theorem d_X12_isRelation_6 : decode prog_14_method_36_code 6 = .ok (.iload_n 0, 1) := by decide +kernel
theorem d_X12_isRelation_7 : decode prog_14_method_36_code 7 = .ok (.bipush 35, 2) := by decide +kernel
theorem d_X12_isRelation_9 : decode prog_14_method_36_code 9 = .ok (.if_icmp .eq 29, 3) := by decide +kernel
theorem d_X12_isRelation_12 : decode prog_14_method_36_code 12 = .ok (.iload_n 0, 1) := by decide +kernel
theorem d_X12_isRelation_13 : decode prog_14_method_36_code 13 = .ok (.bipush 60, 2) := by decide +kernel
theorem d_X12_isRelation_15 : decode prog_14_method_36_code 15 = .ok (.if_icmp .eq 23, 3) := by decide +kernel
theorem d_X12_isRelation_18 : decode prog_14_method_36_code 18 = .ok (.iload_n 0, 1) := by decide +kernel
theorem d_X12_isRelation_19 : decode prog_14_method_36_code 19 = .ok (.bipush 62, 2) := by decide +kernel
theorem d_X12_isRelation_21 : decode prog_14_method_36_code 21 = .ok (.if_icmp .eq 17, 3) := by decide +kernel
theorem d_X12_isRelation_24 : decode prog_14_method_36_code 24 = .ok (.iload_n 0, 1) := by decide +kernel
theorem d_X12_isRelation_25 : decode prog_14_method_36_code 25 = .ok (.sipush 200, 3) := by decide +kernel
theorem d_X12_isRelation_28 : decode prog_14_method_36_code 28 = .ok (.if_icmp .eq 10, 3) := by decide +kernel
theorem d_X12_isRelation_31 : decode prog_14_method_36_code 31 = .ok (.iload_n 0, 1) := by decide +kernel
theorem d_X12_isRelation_32 : decode prog_14_method_36_code 32 = .ok (.sipush 201, 3) := by decide +kernel
theorem d_X12_isRelation_35 : decode prog_14_method_36_code 35 = .ok (.if_icmp .ne 7, 3) := by decide +kernel
theorem d_X12_isRelation_38 : decode prog_14_method_36_code 38 = .ok (.iconst 1, 1) := by decide +kernel
theorem d_X12_isRelation_39 : decode prog_14_method_36_code 39 = .ok (.goto 4, 3) := by decide +kernel
theorem d_X12_isRelation_42 : decode prog_14_method_36_code 42 = .ok (.iconst 0, 1) := by decide +kernel
theorem d_X12_isRelation_43 : decode prog_14_method_36_code 43 = .ok (.ireturn, 1) := by decide +kernel
theorem v_X12_isRelation_0 {E : EE} {d : Nat} {Q : Option AV → AH → Prop} {x0 : Int32} {G : AH} (h : (x0 = 61 → wp E d M_X12_isRelation 38 [some (vi x0)] [] G Q) ∧ (¬ (x0 = 61) → (x0 = 35 → wp E d M_X12_isRelation 38 [some (vi x0)] [] G Q) ∧ (¬ (x0 = 35) → (x0 = 60 → wp E d M_X12_isRelation 38 [some (vi x0)] [] G Q) ∧ (¬ (x0 = 60) → (x0 = 62 → wp E d M_X12_isRelation 38 [some (vi x0)] [] G Q) ∧ (¬ (x0 = 62) → (x0 = 200 → wp E d M_X12_isRelation 38 [some (vi x0)] [] G Q) ∧ (¬ (x0 = 200) → (¬ x0 = 201 → Q (some (vi 0)) G) ∧ (x0 = 201 → wp E d M_X12_isRelation 38 [some (vi x0)] [] G Q))))))) : wp E d M_X12_isRelation 0 [some (vi x0)] [] G Q := by
  refine wp_iload_n (pc := 0) d_X12_isRelation_0 rfl ?_
  refine wp_bipush (pc := 1) (v := 61) d_X12_isRelation_1 rfl ?_
  refine wp_icmp_eq (pc := 3) (tgt := 38) d_X12_isRelation_3 (by decide) (fun hc => ?_) (fun hc => ?_)
  · have h := h.1 hc
    refine wp_sub ?_ h
    exact ⟨rfl, trivial⟩
  · have h := h.2 hc
    refine wp_iload_n (pc := 6) d_X12_isRelation_6 rfl ?_
    refine wp_bipush (pc := 7) (v := 35) d_X12_isRelation_7 rfl ?_
    refine wp_icmp_eq (pc := 9) (tgt := 38) d_X12_isRelation_9 (by decide) (fun hc => ?_) (fun hc => ?_)
    · have h := h.1 hc
      refine wp_sub ?_ h
      exact ⟨rfl, trivial⟩
    · have h := h.2 hc
      refine wp_iload_n (pc := 12) d_X12_isRelation_12 rfl ?_
      refine wp_bipush (pc := 13) (v := 60) d_X12_isRelation_13 rfl ?_
      refine wp_icmp_eq (pc := 15) (tgt := 38) d_X12_isRelation_15 (by decide) (fun hc => ?_) (fun hc => ?_)
      · have h := h.1 hc
        refine wp_sub ?_ h
        exact ⟨rfl, trivial⟩
      · have h := h.2 hc
        refine wp_iload_n (pc := 18) d_X12_isRelation_18 rfl ?_
        refine wp_bipush (pc := 19) (v := 62) d_X12_isRelation_19 rfl ?_
        refine wp_icmp_eq (pc := 21) (tgt := 38) d_X12_isRelation_21 (by decide) (fun hc => ?_) (fun hc => ?_)
        · have h := h.1 hc
          refine wp_sub ?_ h
          exact ⟨rfl, trivial⟩
        · have h := h.2 hc
          refine wp_iload_n (pc := 24) d_X12_isRelation_24 rfl ?_
          refine wp_sipush (pc := 25) (v := 200) d_X12_isRelation_25 rfl ?_
          refine wp_icmp_eq (pc := 28) (tgt := 38) d_X12_isRelation_28 (by decide) (fun hc => ?_) (fun hc => ?_)
          · have h := h.1 hc
            refine wp_sub ?_ h
            exact ⟨rfl, trivial⟩
          · have h := h.2 hc
            refine wp_iload_n (pc := 31) d_X12_isRelation_31 rfl ?_
            refine wp_sipush (pc := 32) (v := 201) d_X12_isRelation_32 rfl ?_
            refine wp_icmp_ne (pc := 35) (tgt := 42) d_X12_isRelation_35 (by decide) (fun hc => ?_) (fun hc => ?_)
            · have h := h.1 hc
              refine wp_iconst (pc := 42) (v := 0) d_X12_isRelation_42 rfl ?_
              exact wp_zret (pc := 43) d_X12_isRelation_43 rfl rfl h
            · have h := h.2 hc
              refine wp_sub ?_ h
              exact ⟨rfl, trivial⟩
theorem v_X12_isRelation_38 {E : EE} {d : Nat} {Q : Option AV → AH → Prop} {x0 : Int32} {G : AH} (h : Q (some (vi 1)) G) : wp E d M_X12_isRelation 38 [some (vi x0)] [] G Q := by
  refine wp_iconst (pc := 38) (v := 1) d_X12_isRelation_38 rfl ?_
  refine wp_goto (pc := 39) (tgt := 43) d_X12_isRelation_39 (by decide) ?_
  exact wp_zret (pc := 43) d_X12_isRelation_43 rfl rfl h
theorem d_X12_tell_0 : decode prog_14_method_22_code 0 = .ok (.aload_n 0, 1) := by decide +kernel
theorem d_X12_tell_1 : decode prog_14_method_22_code 1 = .ok (.getfield 58, 3) := by decide +kernel
theorem d_X12_tell_4 : decode prog_14_method_22_code 4 = .ok (.iconst 4, 1) := by decide +kernel
theorem d_X12_tell_5 : decode prog_14_method_22_code 5 = .ok (.aload_n 0, 1) := by decide +kernel
theorem d_X12_tell_6 : decode prog_14_method_22_code 6 = .ok (.getfield 321, 3) := by decide +kernel
theorem d_X12_tell_9 : decode prog_14_method_22_code 9 = .ok (.imul, 1) := by decide +kernel
theorem d_X12_tell_10 : decode prog_14_method_22_code 10 = .ok (.iload_n 1, 1) := by decide +kernel
theorem d_X12_tell_11 : decode prog_14_method_22_code 11 = .ok (.iadd, 1) := by decide +kernel
theorem d_X12_tell_12 : decode prog_14_method_22_code 12 = .ok (.iaload, 1) := by decide +kernel
theorem d_X12_tell_13 : decode prog_14_method_22_code 13 = .ok (.istore_n 2, 1) := by decide +kernel
theorem d_X12_tell_14 : decode prog_14_method_22_code 14 = .ok (.aload_n 0, 1) := by decide +kernel
theorem d_X12_tell_15 : decode prog_14_method_22_code 15 = .ok (.getfield 52, 3) := by decide +kernel
theorem d_X12_tell_18 : decode prog_14_method_22_code 18 = .ok (.bipush 96, 2) := by decide +kernel
theorem d_X12_tell_20 : decode prog_14_method_22_code 20 = .ok (.aload_n 0, 1) := by decide +kernel
theorem d_X12_tell_21 : decode prog_14_method_22_code 21 = .ok (.getfield 321, 3) := by decide +kernel
theorem d_X12_tell_24 : decode prog_14_method_22_code 24 = .ok (.imul, 1) := by decide +kernel
theorem d_X12_tell_25 : decode prog_14_method_22_code 25 = .ok (.bipush 24, 2) := by decide +kernel
theorem d_X12_tell_27 : decode prog_14_method_22_code 27 = .ok (.iload_n 1, 1) := by decide +kernel
theorem d_X12_tell_28 : decode prog_14_method_22_code 28 = .ok (.imul, 1) := by decide +kernel
theorem d_X12_tell_29 : decode prog_14_method_22_code 29 = .ok (.iadd, 1) := by decide +kernel
theorem d_X12_tell_30 : decode prog_14_method_22_code 30 = .ok (.iload_n 2, 1) := by decide +kernel
theorem d_X12_tell_31 : decode prog_14_method_22_code 31 = .ok (.iadd, 1) := by decide +kernel
theorem d_X12_tell_32 : decode prog_14_method_22_code 32 = .ok (.aload_n 0, 1) := by decide +kernel
theorem d_X12_tell_33 : decode prog_14_method_22_code 33 = .ok (.getfield 344, 3) := by decide +kernel
theorem d_X12_tell_36 : decode prog_14_method_22_code 36 = .ok (.iastore, 1) := by decide +kernel
theorem d_X12_tell_37 : decode prog_14_method_22_code 37 = .ok (.aload_n 0, 1) := by decide +kernel
theorem d_X12_tell_38 : decode prog_14_method_22_code 38 = .ok (.getfield 55, 3) := by decide +kernel
theorem d_X12_tell_41 : decode prog_14_method_22_code 41 = .ok (.bipush 96, 2) := by decide +kernel
theorem d_X12_tell_43 : decode prog_14_method_22_code 43 = .ok (.aload_n 0, 1) := by decide +kernel
theorem d_X12_tell_44 : decode prog_14_method_22_code 44 = .ok (.getfield 321, 3) := by decide +kernel
theorem d_X12_tell_47 : decode prog_14_method_22_code 47 = .ok (.imul, 1) := by decide +kernel
theorem d_X12_tell_48 : decode prog_14_method_22_code 48 = .ok (.bipush 24, 2) := by decide +kernel
theorem d_X12_tell_50 : decode prog_14_method_22_code 50 = .ok (.iload_n 1, 1) := by decide +kernel
theorem d_X12_tell_51 : decode prog_14_method_22_code 51 = .ok (.imul, 1) := by decide +kernel
theorem d_X12_tell_52 : decode prog_14_method_22_code 52 = .ok (.iadd, 1) := by decide +kernel
theorem d_X12_tell_53 : decode prog_14_method_22_code 53 = .ok (.iload_n 2, 1) := by decide +kernel
theorem d_X12_tell_54 : decode prog_14_method_22_code 54 = .ok (.iadd, 1) := by decide +kernel
theorem d_X12_tell_55 : decode prog_14_method_22_code 55 = .ok (.aload_n 0, 1) := by decide +kernel
theorem d_X12_tell_56 : decode prog_14_method_22_code 56 = .ok (.getfield 347, 3) := by decide +kernel
theorem d_X12_tell_59 : decode prog_14_method_22_code 59 = .ok (.iastore, 1) := by decide +kernel
theorem d_X12_tell_60 : decode prog_14_method_22_code 60 = .ok (.aload_n 0, 1) := by decide +kernel
theorem d_X12_tell_61 : decode prog_14_method_22_code 61 = .ok (.getfield 58, 3) := by decide +kernel
theorem d_X12_tell_64 : decode prog_14_method_22_code 64 = .ok (.iconst 4, 1) := by decide +kernel
theorem d_X12_tell_65 : decode prog_14_method_22_code 65 = .ok (.aload_n 0, 1) := by decide +kernel
theorem d_X12_tell_66 : decode prog_14_method_22_code 66 = .ok (.getfield 321, 3) := by decide +kernel
theorem d_X12_tell_69 : decode prog_14_method_22_code 69 = .ok (.imul, 1) := by decide +kernel
theorem d_X12_tell_70 : decode prog_14_method_22_code 70 = .ok (.iload_n 1, 1) := by decide +kernel
theorem d_X12_tell_71 : decode prog_14_method_22_code 71 = .ok (.iadd, 1) := by decide +kernel
theorem d_X12_tell_72 : decode prog_14_method_22_code 72 = .ok (.dup2, 1) := by decide +kernel
theorem d_X12_tell_73 : decode prog_14_method_22_code 73 = .ok (.iaload, 1) := by decide +kernel
theorem d_X12_tell_74 : decode prog_14_method_22_code 74 = .ok (.iconst 1, 1) := by decide +kernel
theorem d_X12_tell_75 : decode prog_14_method_22_code 75 = .ok (.iadd, 1) := by decide +kernel
theorem d_X12_tell_76 : decode prog_14_method_22_code 76 = .ok (.iastore, 1) := by decide +kernel
theorem d_X12_tell_77 : decode prog_14_method_22_code 77 = .ok (.iload_n 2, 1) := by decide +kernel
theorem d_X12_tell_78 : decode prog_14_method_22_code 78 = .ok (.ireturn, 1) := by decide +kernel
theorem v_X12_tell_0 {E : EE} {d : Nat} {Q : Option AV → AH → Prop} {x0 : Nat} {x1 : Int32} {G : AH} (h : isO E G x0 12 ∧ (isO E G (gR G x0 17) 14 ∧ (vp_in ((4 * (gI G x0 47)) + x1) (gN G (gR G x0 17)) ∧ (isO E G (gR G x0 15) 14 ∧ (vp_in (((96 * (gI G x0 47)) + (24 * x1)) + (gI G (gR G x0 17) (Int32.toNatClampNeg ((4 * (gI G x0 47)) + x1)))) (gN G (gR G x0 15)) ∧ (∀ G6 : AH, G6 = sI G (gR G x0 15) (Int32.toNatClampNeg (((96 * (gI G x0 47)) + (24 * x1)) + (gI G (gR G x0 17) (Int32.toNatClampNeg ((4 * (gI G x0 47)) + x1))))) (gI G x0 50) → isO E G6 (gR G6 x0 16) 14 ∧ (vp_in (((96 * (gI G6 x0 47)) + (24 * x1)) + (gI G (gR G x0 17) (Int32.toNatClampNeg ((4 * (gI G x0 47)) + x1)))) (gN G6 (gR G6 x0 16)) ∧ (∀ G10 : AH, G10 = sI G6 (gR G6 x0 16) (Int32.toNatClampNeg (((96 * (gI G6 x0 47)) + (24 * x1)) + (gI G (gR G x0 17) (Int32.toNatClampNeg ((4 * (gI G x0 47)) + x1))))) (gI G6 x0 51) → isO E G10 (gR G10 x0 17) 14 ∧ (vp_in ((4 * (gI G10 x0 47)) + x1) (gN G10 (gR G10 x0 17)) ∧ (vp_in ((4 * (gI G10 x0 47)) + x1) (gN G10 (gR G10 x0 17)) ∧ (∀ G15 : AH, G15 = sI G10 (gR G10 x0 17) (Int32.toNatClampNeg ((4 * (gI G10 x0 47)) + x1)) ((gI G10 (gR G10 x0 17) (Int32.toNatClampNeg ((4 * (gI G10 x0 47)) + x1))) + 1) → Q (some (vi (gI G (gR G x0 17) (Int32.toNatClampNeg ((4 * (gI G x0 47)) + x1))))) G15))))))))))) : wp E d M_X12_tell 0 [some (vr x0), some (vi x1), none] [] G Q := by
  refine wp_aload_n (pc := 0) d_X12_tell_0 rfl ?_
  obtain ⟨ho1, h⟩ := h
  refine wp_getR (pc := 1) d_X12_tell_1 fl_X12_58 (fun _ _ _ => rfl) ho1 ?_
  refine wp_iconst (pc := 4) (v := 4) d_X12_tell_4 rfl ?_
  refine wp_aload_n (pc := 5) d_X12_tell_5 rfl ?_
  refine wp_getI (pc := 6) d_X12_tell_6 fl_X12_321 (fun _ _ _ => rfl) ho1 ?_
  refine wp_imul (pc := 9) d_X12_tell_9 ?_
  refine wp_iload_n (pc := 10) d_X12_tell_10 rfl ?_
  refine wp_iadd (pc := 11) d_X12_tell_11 ?_
  obtain ⟨ho2, h⟩ := h
  obtain ⟨hi3, h⟩ := h
  refine wp_iald (pc := 12) d_X12_tell_12 ho2 hi3 ?_
  refine wp_istore_n (pc := 13) (lv' := [some (vr _), some (vi _), some (vi _)]) d_X12_tell_13 (by decide) rfl ?_
  refine wp_aload_n (pc := 14) d_X12_tell_14 rfl ?_
  refine wp_getR (pc := 15) d_X12_tell_15 fl_X12_52 (fun _ _ _ => rfl) ho1 ?_
  refine wp_bipush (pc := 18) (v := 96) d_X12_tell_18 rfl ?_
  refine wp_aload_n (pc := 20) d_X12_tell_20 rfl ?_
  refine wp_getI (pc := 21) d_X12_tell_21 fl_X12_321 (fun _ _ _ => rfl) ho1 ?_
  refine wp_imul (pc := 24) d_X12_tell_24 ?_
  refine wp_bipush (pc := 25) (v := 24) d_X12_tell_25 rfl ?_
  refine wp_iload_n (pc := 27) d_X12_tell_27 rfl ?_
  refine wp_imul (pc := 28) d_X12_tell_28 ?_
  refine wp_iadd (pc := 29) d_X12_tell_29 ?_
  refine wp_iload_n (pc := 30) d_X12_tell_30 rfl ?_
  refine wp_iadd (pc := 31) d_X12_tell_31 ?_
  refine wp_aload_n (pc := 32) d_X12_tell_32 rfl ?_
  refine wp_getI (pc := 33) d_X12_tell_33 fl_X12_344 (fun _ _ _ => rfl) ho1 ?_
  obtain ⟨ho4, h⟩ := h
  obtain ⟨hi5, h⟩ := h
  refine wp_iast (pc := 36) d_X12_tell_36 ho4 hi5 ?_
  refine wp_nm (fun G6 eG6 => ?_)
  have h := h G6 eG6
  have ho7 := isO_sI eG6 ho1
  refine wp_aload_n (pc := 37) d_X12_tell_37 rfl ?_
  refine wp_getR (pc := 38) d_X12_tell_38 fl_X12_55 (fun _ _ _ => rfl) ho7 ?_
  refine wp_bipush (pc := 41) (v := 96) d_X12_tell_41 rfl ?_
  refine wp_aload_n (pc := 43) d_X12_tell_43 rfl ?_
  refine wp_getI (pc := 44) d_X12_tell_44 fl_X12_321 (fun _ _ _ => rfl) ho7 ?_
  refine wp_imul (pc := 47) d_X12_tell_47 ?_
  refine wp_bipush (pc := 48) (v := 24) d_X12_tell_48 rfl ?_
  refine wp_iload_n (pc := 50) d_X12_tell_50 rfl ?_
  refine wp_imul (pc := 51) d_X12_tell_51 ?_
  refine wp_iadd (pc := 52) d_X12_tell_52 ?_
  refine wp_iload_n (pc := 53) d_X12_tell_53 rfl ?_
  refine wp_iadd (pc := 54) d_X12_tell_54 ?_
  refine wp_aload_n (pc := 55) d_X12_tell_55 rfl ?_
  refine wp_getI (pc := 56) d_X12_tell_56 fl_X12_347 (fun _ _ _ => rfl) ho7 ?_
  obtain ⟨ho8, h⟩ := h
  obtain ⟨hi9, h⟩ := h
  refine wp_iast (pc := 59) d_X12_tell_59 ho8 hi9 ?_
  refine wp_nm (fun G10 eG10 => ?_)
  have h := h G10 eG10
  have ho11 := isO_sI eG10 ho7
  refine wp_aload_n (pc := 60) d_X12_tell_60 rfl ?_
  refine wp_getR (pc := 61) d_X12_tell_61 fl_X12_58 (fun _ _ _ => rfl) ho11 ?_
  refine wp_iconst (pc := 64) (v := 4) d_X12_tell_64 rfl ?_
  refine wp_aload_n (pc := 65) d_X12_tell_65 rfl ?_
  refine wp_getI (pc := 66) d_X12_tell_66 fl_X12_321 (fun _ _ _ => rfl) ho11 ?_
  refine wp_imul (pc := 69) d_X12_tell_69 ?_
  refine wp_iload_n (pc := 70) d_X12_tell_70 rfl ?_
  refine wp_iadd (pc := 71) d_X12_tell_71 ?_
  refine wp_dup2 (pc := 72) d_X12_tell_72 (c1_i _) (c1_r _) ?_
  obtain ⟨ho12, h⟩ := h
  obtain ⟨hi13, h⟩ := h
  refine wp_iald (pc := 73) d_X12_tell_73 ho12 hi13 ?_
  refine wp_iconst (pc := 74) (v := 1) d_X12_tell_74 rfl ?_
  refine wp_iadd (pc := 75) d_X12_tell_75 ?_
  obtain ⟨hi14, h⟩ := h
  refine wp_iast (pc := 76) d_X12_tell_76 ho12 hi14 ?_
  refine wp_nm (fun G15 eG15 => ?_)
  have h := h G15 eG15
  have ho16 := isO_sI eG15 ho11
  refine wp_iload_n (pc := 77) d_X12_tell_77 rfl ?_
  exact wp_iret (pc := 78) d_X12_tell_78 rfl h
theorem d_X12_ruleStatement_0 : decode prog_14_method_31_code 0 = .ok (.aload_n 0, 1) := by decide +kernel
theorem d_X12_ruleStatement_1 : decode prog_14_method_31_code 1 = .ok (.iconst 2, 1) := by decide +kernel
theorem d_X12_ruleStatement_2 : decode prog_14_method_31_code 2 = .ok (.bipush 24, 2) := by decide +kernel
theorem d_X12_ruleStatement_4 : decode prog_14_method_31_code 4 = .ok (.invokevirtual 370, 3) := by decide +kernel
theorem d_X12_ruleStatement_7 : decode prog_14_method_31_code 7 = .ok (.aload_n 0, 1) := by decide +kernel
theorem d_X12_ruleStatement_8 : decode prog_14_method_31_code 8 = .ok (.sipush 304, 3) := by decide +kernel
theorem d_X12_ruleStatement_11 : decode prog_14_method_31_code 11 = .ok (.invokevirtual 373, 3) := by decide +kernel
theorem d_X12_ruleStatement_14 : decode prog_14_method_31_code 14 = .ok (.aload_n 0, 1) := by decide +kernel
theorem d_X12_ruleStatement_15 : decode prog_14_method_31_code 15 = .ok (.getfield 311, 3) := by decide +kernel
theorem d_X12_ruleStatement_18 : decode prog_14_method_31_code 18 = .ok (.ifCond .ne 42, 3) := by decide +kernel
theorem d_X12_ruleStatement_21 : decode prog_14_method_31_code 21 = .ok (.aload_n 0, 1) := by decide +kernel
theorem d_X12_ruleStatement_22 : decode prog_14_method_31_code 22 = .ok (.getfield 292, 3) := by decide +kernel
theorem d_X12_ruleStatement_25 : decode prog_14_method_31_code 25 = .ok (.iconst 2, 1) := by decide +kernel
theorem d_X12_ruleStatement_26 : decode prog_14_method_31_code 26 = .ok (.if_icmp .ne 34, 3) := by decide +kernel
theorem d_X12_ruleStatement_29 : decode prog_14_method_31_code 29 = .ok (.aload_n 0, 1) := by decide +kernel
theorem d_X12_ruleStatement_30 : decode prog_14_method_31_code 30 = .ok (.getfield 305, 3) := by decide +kernel
theorem d_X12_ruleStatement_33 : decode prog_14_method_31_code 33 = .ok (.ifCond .ne 27, 3) := by decide +kernel
theorem d_X12_ruleStatement_36 : decode prog_14_method_31_code 36 = .ok (.aload_n 0, 1) := by decide +kernel
theorem d_X12_ruleStatement_37 : decode prog_14_method_31_code 37 = .ok (.getfield 85, 3) := by decide +kernel
theorem d_X12_ruleStatement_40 : decode prog_14_method_31_code 40 = .ok (.aload_n 0, 1) := by decide +kernel
theorem d_X12_ruleStatement_41 : decode prog_14_method_31_code 41 = .ok (.getfield 321, 3) := by decide +kernel
theorem d_X12_ruleStatement_44 : decode prog_14_method_31_code 44 = .ok (.iaload, 1) := by decide +kernel
theorem d_X12_ruleStatement_45 : decode prog_14_method_31_code 45 = .ok (.bipush 12, 2) := by decide +kernel
theorem d_X12_ruleStatement_47 : decode prog_14_method_31_code 47 = .ok (.if_icmp .ne 13, 3) := by decide +kernel
theorem d_X12_ruleStatement_50 : decode prog_14_method_31_code 50 = .ok (.aload_n 0, 1) := by decide +kernel
theorem d_X12_ruleStatement_51 : decode prog_14_method_31_code 51 = .ok (.bipush 6, 2) := by decide +kernel
theorem d_X12_ruleStatement_53 : decode prog_14_method_31_code 53 = .ok (.aload_n 0, 1) := by decide +kernel
theorem d_X12_ruleStatement_54 : decode prog_14_method_31_code 54 = .ok (.getfield 241, 3) := by decide +kernel
theorem d_X12_ruleStatement_57 : decode prog_14_method_31_code 57 = .ok (.invokevirtual 317, 3) := by decide +kernel
theorem d_X12_ruleStatement_60 : decode prog_14_method_31_code 60 = .ok (.aload_n 0, 1) := by decide +kernel
theorem d_X12_ruleStatement_61 : decode prog_14_method_31_code 61 = .ok (.iconst 0, 1) := by decide +kernel
theorem d_X12_ruleStatement_62 : decode prog_14_method_31_code 62 = .ok (.iconst 2, 1) := by decide +kernel
theorem d_X12_ruleStatement_63 : decode prog_14_method_31_code 63 = .ok (.invokevirtual 354, 3) := by decide +kernel
theorem d_X12_ruleStatement_66 : decode prog_14_method_31_code 66 = .ok (.istore_n 1, 1) := by decide +kernel
theorem d_X12_ruleStatement_67 : decode prog_14_method_31_code 67 = .ok (.aload_n 0, 1) := by decide +kernel
theorem d_X12_ruleStatement_68 : decode prog_14_method_31_code 68 = .ok (.bipush 42, 2) := by decide +kernel
theorem d_X12_ruleStatement_70 : decode prog_14_method_31_code 70 = .ok (.invokevirtual 373, 3) := by decide +kernel
theorem d_X12_ruleStatement_73 : decode prog_14_method_31_code 73 = .ok (.aload_n 0, 1) := by decide +kernel
theorem d_X12_ruleStatement_74 : decode prog_14_method_31_code 74 = .ok (.iconst 1, 1) := by decide +kernel
theorem d_X12_ruleStatement_75 : decode prog_14_method_31_code 75 = .ok (.sipush 1000, 3) := by decide +kernel
theorem d_X12_ruleStatement_78 : decode prog_14_method_31_code 78 = .ok (.invokevirtual 354, 3) := by decide +kernel
theorem d_X12_ruleStatement_81 : decode prog_14_method_31_code 81 = .ok (.istore_n 2, 1) := by decide +kernel
theorem d_X12_ruleStatement_82 : decode prog_14_method_31_code 82 = .ok (.aload_n 0, 1) := by decide +kernel
theorem d_X12_ruleStatement_83 : decode prog_14_method_31_code 83 = .ok (.bipush 58, 2) := by decide +kernel
theorem d_X12_ruleStatement_85 : decode prog_14_method_31_code 85 = .ok (.invokevirtual 373, 3) := by decide +kernel
theorem d_X12_ruleStatement_88 : decode prog_14_method_31_code 88 = .ok (.aload_n 0, 1) := by decide +kernel
theorem d_X12_ruleStatement_89 : decode prog_14_method_31_code 89 = .ok (.getfield 43, 3) := by decide +kernel
theorem d_X12_ruleStatement_92 : decode prog_14_method_31_code 92 = .ok (.aload_n 0, 1) := by decide +kernel
theorem d_X12_ruleStatement_93 : decode prog_14_method_31_code 93 = .ok (.getfield 321, 3) := by decide +kernel
theorem d_X12_ruleStatement_96 : decode prog_14_method_31_code 96 = .ok (.iaload, 1) := by decide +kernel
theorem d_X12_ruleStatement_97 : decode prog_14_method_31_code 97 = .ok (.istore_n 3, 1) := by decide +kernel
theorem d_X12_ruleStatement_98 : decode prog_14_method_31_code 98 = .ok (.aload_n 0, 1) := by decide +kernel
theorem d_X12_ruleStatement_99 : decode prog_14_method_31_code 99 = .ok (.invokevirtual 390, 3) := by decide +kernel
theorem d_X12_ruleStatement_102 : decode prog_14_method_31_code 102 = .ok (.aload_n 0, 1) := by decide +kernel
theorem d_X12_ruleStatement_103 : decode prog_14_method_31_code 103 = .ok (.bipush 59, 2) := by decide +kernel
theorem d_X12_ruleStatement_105 : decode prog_14_method_31_code 105 = .ok (.invokevirtual 373, 3) := by decide +kernel
theorem d_X12_ruleStatement_108 : decode prog_14_method_31_code 108 = .ok (.aload_n 0, 1) := by decide +kernel
theorem d_X12_ruleStatement_109 : decode prog_14_method_31_code 109 = .ok (.getfield 311, 3) := by decide +kernel
theorem d_X12_ruleStatement_112 : decode prog_14_method_31_code 112 = .ok (.ifCond .ne 72, 3) := by decide +kernel
theorem d_X12_ruleStatement_115 : decode prog_14_method_31_code 115 = .ok (.bipush 24, 2) := by decide +kernel
theorem d_X12_ruleStatement_117 : decode prog_14_method_31_code 117 = .ok (.aload_n 0, 1) := by decide +kernel
theorem d_X12_ruleStatement_118 : decode prog_14_method_31_code 118 = .ok (.getfield 321, 3) := by decide +kernel
theorem d_X12_ruleStatement_121 : decode prog_14_method_31_code 121 = .ok (.imul, 1) := by decide +kernel
theorem d_X12_ruleStatement_122 : decode prog_14_method_31_code 122 = .ok (.aload_n 0, 1) := by decide +kernel
theorem d_X12_ruleStatement_123 : decode prog_14_method_31_code 123 = .ok (.iconst 2, 1) := by decide +kernel
theorem d_X12_ruleStatement_124 : decode prog_14_method_31_code 124 = .ok (.invokevirtual 379, 3) := by decide +kernel
theorem d_X12_ruleStatement_127 : decode prog_14_method_31_code 127 = .ok (.iadd, 1) := by decide +kernel
theorem d_X12_ruleStatement_128 : decode prog_14_method_31_code 128 = .ok (.istore 4, 2) := by decide +kernel
theorem d_X12_ruleStatement_130 : decode prog_14_method_31_code 130 = .ok (.aload_n 0, 1) := by decide +kernel
theorem d_X12_ruleStatement_131 : decode prog_14_method_31_code 131 = .ok (.getfield 88, 3) := by decide +kernel
theorem d_X12_ruleStatement_134 : decode prog_14_method_31_code 134 = .ok (.iload 4, 2) := by decide +kernel
theorem d_X12_ruleStatement_136 : decode prog_14_method_31_code 136 = .ok (.iload_n 1, 1) := by decide +kernel
theorem d_X12_ruleStatement_137 : decode prog_14_method_31_code 137 = .ok (.iastore, 1) := by decide +kernel
theorem d_X12_ruleStatement_138 : decode prog_14_method_31_code 138 = .ok (.aload_n 0, 1) := by decide +kernel
theorem d_X12_ruleStatement_139 : decode prog_14_method_31_code 139 = .ok (.getfield 91, 3) := by decide +kernel
theorem d_X12_ruleStatement_142 : decode prog_14_method_31_code 142 = .ok (.iload 4, 2) := by decide +kernel
theorem d_X12_ruleStatement_144 : decode prog_14_method_31_code 144 = .ok (.iload_n 2, 1) := by decide +kernel
theorem d_X12_ruleStatement_145 : decode prog_14_method_31_code 145 = .ok (.iastore, 1) := by decide +kernel
theorem d_X12_ruleStatement_146 : decode prog_14_method_31_code 146 = .ok (.aload_n 0, 1) := by decide +kernel
theorem d_X12_ruleStatement_147 : decode prog_14_method_31_code 147 = .ok (.getfield 94, 3) := by decide +kernel
theorem d_X12_ruleStatement_150 : decode prog_14_method_31_code 150 = .ok (.iload 4, 2) := by decide +kernel
theorem d_X12_ruleStatement_152 : decode prog_14_method_31_code 152 = .ok (.sipush 20000, 3) := by decide +kernel
theorem d_X12_ruleStatement_155 : decode prog_14_method_31_code 155 = .ok (.aload_n 0, 1) := by decide +kernel
theorem d_X12_ruleStatement_156 : decode prog_14_method_31_code 156 = .ok (.getfield 321, 3) := by decide +kernel
theorem d_X12_ruleStatement_159 : decode prog_14_method_31_code 159 = .ok (.imul, 1) := by decide +kernel
theorem d_X12_ruleStatement_160 : decode prog_14_method_31_code 160 = .ok (.iload_n 3, 1) := by decide +kernel
theorem d_X12_ruleStatement_161 : decode prog_14_method_31_code 161 = .ok (.iadd, 1) := by decide +kernel
theorem d_X12_ruleStatement_162 : decode prog_14_method_31_code 162 = .ok (.iastore, 1) := by decide +kernel
theorem d_X12_ruleStatement_163 : decode prog_14_method_31_code 163 = .ok (.aload_n 0, 1) := by decide +kernel
theorem d_X12_ruleStatement_164 : decode prog_14_method_31_code 164 = .ok (.getfield 85, 3) := by decide +kernel
theorem d_X12_ruleStatement_167 : decode prog_14_method_31_code 167 = .ok (.aload_n 0, 1) := by decide +kernel
theorem d_X12_ruleStatement_168 : decode prog_14_method_31_code 168 = .ok (.getfield 321, 3) := by decide +kernel
theorem d_X12_ruleStatement_171 : decode prog_14_method_31_code 171 = .ok (.dup2, 1) := by decide +kernel
theorem d_X12_ruleStatement_172 : decode prog_14_method_31_code 172 = .ok (.iaload, 1) := by decide +kernel
theorem d_X12_ruleStatement_173 : decode prog_14_method_31_code 173 = .ok (.iload_n 1, 1) := by decide +kernel
theorem d_X12_ruleStatement_174 : decode prog_14_method_31_code 174 = .ok (.ifCond .ne 7, 3) := by decide +kernel
theorem d_X12_ruleStatement_177 : decode prog_14_method_31_code 177 = .ok (.iconst 1, 1) := by decide +kernel
theorem d_X12_ruleStatement_178 : decode prog_14_method_31_code 178 = .ok (.goto 4, 3) := by decide +kernel
theorem d_X12_ruleStatement_181 : decode prog_14_method_31_code 181 = .ok (.iconst 0, 1) := by decide +kernel
theorem d_X12_ruleStatement_182 : decode prog_14_method_31_code 182 = .ok (.iadd, 1) := by decide +kernel
theorem d_X12_ruleStatement_183 : decode prog_14_method_31_code 183 = .ok (.iastore, 1) := by decide +kernel
theorem d_X12_ruleStatement_184 : decode prog_14_method_31_code 184 = .ok (.return_, 1) := by decide +kernel
theorem v_X12_ruleStatement_0 {E : EE} {d : Nat} {Q : Option AV → AH → Prop} {x0 : Nat} {G : AH} (h0 : 0 < d) (h : isO E G x0 12 ∧ (wpV E (d - 1) M_X12_newName [vr x0, vi 2, vi 24] G (fun G1 => isO E G1 x0 12 ∧ (wpV E (d - 1) M_X12_need [vr x0, vi 304] G1 (fun G2 => isO E G2 x0 12 ∧ ((¬ (gI G2 x0 45) = 0 → wp E d M_X12_ruleStatement 60 [some (vr x0), none, none, none, none] [] G2 Q) ∧ ((gI G2 x0 45) = 0 → (¬ (gI G2 x0 41) = 2 → wp E d M_X12_ruleStatement 60 [some (vr x0), none, none, none, none] [] G2 Q) ∧ ((gI G2 x0 41) = 2 → (¬ (gI G2 x0 42) = 0 → wp E d M_X12_ruleStatement 60 [some (vr x0), none, none, none, none] [] G2 Q) ∧ ((gI G2 x0 42) = 0 → isO E G2 (gR G2 x0 26) 14 ∧ (vp_in (gI G2 x0 47) (gN G2 (gR G2 x0 26)) ∧ ((¬ (gI G2 (gR G2 x0 26) (Int32.toNatClampNeg (gI G2 x0 47))) = 12 → wp E d M_X12_ruleStatement 60 [some (vr x0), none, none, none, none] [] G2 Q) ∧ ((gI G2 (gR G2 x0 26) (Int32.toNatClampNeg (gI G2 x0 47))) = 12 → wpV E (d - 1) M_X12_fail [vr x0, vi 6, vi (gI G2 x0 43)] G2 (fun G6 => wp E d M_X12_ruleStatement 60 [some (vr x0), none, none, none, none] [] G6 Q))))))))))))) : wp E d M_X12_ruleStatement 0 [some (vr x0), none, none, none, none] [] G Q := by
  refine wp_aload_n (pc := 0) d_X12_ruleStatement_0 rfl ?_
  refine wp_iconst (pc := 1) (v := 2) d_X12_ruleStatement_1 rfl ?_
  refine wp_bipush (pc := 2) (v := 24) d_X12_ruleStatement_2 rfl ?_
  obtain ⟨ho8, h⟩ := h
  refine wp_invV (pc := 4) (N := M_X12_newName) (As := [vi _, vi _]) (rest := []) (r := (cn_12, ct_12, 95)) d_X12_ruleStatement_4 ml_X12_370 mk_X12_newName mv_X12_newName h0 ho8 rfl rfl (Nat.le_of_ble_eq_true rfl) ?_
  refine wpM.mono h (fun rr G1 hr => ?_)
  obtain ⟨rfl, h⟩ := hr
  show wp E d M_X12_ruleStatement 7 [some (vr _), none, none, none, none] [] G1 Q
  refine wp_aload_n (pc := 7) d_X12_ruleStatement_7 rfl ?_
  refine wp_sipush (pc := 8) (v := 304) d_X12_ruleStatement_8 rfl ?_
  obtain ⟨ho7, h⟩ := h
  refine wp_invV (pc := 11) (N := M_X12_need) (As := [vi _]) (rest := []) (r := (cn_12, ct_12, 95)) d_X12_ruleStatement_11 ml_X12_373 mk_X12_need mv_X12_need h0 ho7 rfl rfl (Nat.le_of_ble_eq_true rfl) ?_
  refine wpM.mono h (fun rr G2 hr => ?_)
  obtain ⟨rfl, h⟩ := hr
  show wp E d M_X12_ruleStatement 14 [some (vr _), none, none, none, none] [] G2 Q
  refine wp_aload_n (pc := 14) d_X12_ruleStatement_14 rfl ?_
  obtain ⟨ho3, h⟩ := h
  refine wp_getI (pc := 15) d_X12_ruleStatement_15 fl_X12_311 (fun _ _ _ => rfl) ho3 ?_
  refine wp_if_ne (pc := 18) (tgt := 60) d_X12_ruleStatement_18 (by decide) (fun hc => ?_) (fun hc => ?_)
  · have h := h.1 hc
    refine wp_sub ?_ h
    exact ⟨rfl, trivial⟩
  · have h := h.2 hc
    refine wp_aload_n (pc := 21) d_X12_ruleStatement_21 rfl ?_
    refine wp_getI (pc := 22) d_X12_ruleStatement_22 fl_X12_292 (fun _ _ _ => rfl) ho3 ?_
    refine wp_iconst (pc := 25) (v := 2) d_X12_ruleStatement_25 rfl ?_
    refine wp_icmp_ne (pc := 26) (tgt := 60) d_X12_ruleStatement_26 (by decide) (fun hc => ?_) (fun hc => ?_)
    · have h := h.1 hc
      refine wp_sub ?_ h
      exact ⟨rfl, trivial⟩
    · have h := h.2 hc
      refine wp_aload_n (pc := 29) d_X12_ruleStatement_29 rfl ?_
      refine wp_getI (pc := 30) d_X12_ruleStatement_30 fl_X12_305 (fun _ _ _ => rfl) ho3 ?_
      refine wp_if_ne (pc := 33) (tgt := 60) d_X12_ruleStatement_33 (by decide) (fun hc => ?_) (fun hc => ?_)
      · have h := h.1 hc
        refine wp_sub ?_ h
        exact ⟨rfl, trivial⟩
      · have h := h.2 hc
        refine wp_aload_n (pc := 36) d_X12_ruleStatement_36 rfl ?_
        refine wp_getR (pc := 37) d_X12_ruleStatement_37 fl_X12_85 (fun _ _ _ => rfl) ho3 ?_
        refine wp_aload_n (pc := 40) d_X12_ruleStatement_40 rfl ?_
        refine wp_getI (pc := 41) d_X12_ruleStatement_41 fl_X12_321 (fun _ _ _ => rfl) ho3 ?_
        obtain ⟨ho4, h⟩ := h
        obtain ⟨hi5, h⟩ := h
        refine wp_iald (pc := 44) d_X12_ruleStatement_44 ho4 hi5 ?_
        refine wp_bipush (pc := 45) (v := 12) d_X12_ruleStatement_45 rfl ?_
        refine wp_icmp_ne (pc := 47) (tgt := 60) d_X12_ruleStatement_47 (by decide) (fun hc => ?_) (fun hc => ?_)
        · have h := h.1 hc
          refine wp_sub ?_ h
          exact ⟨rfl, trivial⟩
        · have h := h.2 hc
          refine wp_aload_n (pc := 50) d_X12_ruleStatement_50 rfl ?_
          refine wp_bipush (pc := 51) (v := 6) d_X12_ruleStatement_51 rfl ?_
          refine wp_aload_n (pc := 53) d_X12_ruleStatement_53 rfl ?_
          refine wp_getI (pc := 54) d_X12_ruleStatement_54 fl_X12_241 (fun _ _ _ => rfl) ho3 ?_
          refine wp_invV (pc := 57) (N := M_X12_fail) (As := [vi _, vi _]) (rest := []) (r := (cn_12, ct_12, 95)) d_X12_ruleStatement_57 ml_X12_317 mk_X12_fail mv_X12_fail h0 ho3 rfl rfl (Nat.le_of_ble_eq_true rfl) ?_
          refine wpM.mono h (fun rr G6 hr => ?_)
          obtain ⟨rfl, h⟩ := hr
          show wp E d M_X12_ruleStatement 60 [some (vr _), none, none, none, none] [] G6 Q
          refine wp_sub ?_ h
          exact ⟨rfl, trivial⟩
theorem v_X12_ruleStatement_60 {E : EE} {d : Nat} {Q : Option AV → AH → Prop} {x0 : Nat} {G : AH} (h0 : 0 < d) (h : isO E G x0 12 ∧ (wpI E (d - 1) M_X12_aNumber [vr x0, vi 0, vi 2] G (fun r1 G2 => isO E G2 x0 12 ∧ (wpV E (d - 1) M_X12_need [vr x0, vi 42] G2 (fun G3 => isO E G3 x0 12 ∧ (wpI E (d - 1) M_X12_aNumber [vr x0, vi 1, vi 1000] G3 (fun r4 G5 => isO E G5 x0 12 ∧ (wpV E (d - 1) M_X12_need [vr x0, vi 58] G5 (fun G6 => isO E G6 x0 12 ∧ (isO E G6 (gR G6 x0 12) 14 ∧ (vp_in (gI G6 x0 47) (gN G6 (gR G6 x0 12)) ∧ (wpV E (d - 1) M_X12_test [vr x0] G6 (fun G10 => isO E G10 x0 12 ∧ (wpV E (d - 1) M_X12_need [vr x0, vi 59] G10 (fun G11 => isO E G11 x0 12 ∧ ((¬ (gI G11 x0 45) = 0 → Q none G11) ∧ ((gI G11 x0 45) = 0 → wpI E (d - 1) M_X12_tell [vr x0, vi 2] G11 (fun r13 G14 => isO E G14 x0 12 ∧ (isO E G14 (gR G14 x0 27) 14 ∧ (vp_in ((24 * (gI G11 x0 47)) + r13) (gN G14 (gR G14 x0 27)) ∧ (∀ G18 : AH, G18 = sI G14 (gR G14 x0 27) (Int32.toNatClampNeg ((24 * (gI G11 x0 47)) + r13)) r1 → isO E G18 (gR G18 x0 28) 14 ∧ (vp_in ((24 * (gI G11 x0 47)) + r13) (gN G18 (gR G18 x0 28)) ∧ (∀ G22 : AH, G22 = sI G18 (gR G18 x0 28) (Int32.toNatClampNeg ((24 * (gI G11 x0 47)) + r13)) r4 → isO E G22 (gR G22 x0 29) 14 ∧ (vp_in ((24 * (gI G11 x0 47)) + r13) (gN G22 (gR G22 x0 29)) ∧ (∀ G26 : AH, G26 = sI G22 (gR G22 x0 29) (Int32.toNatClampNeg ((24 * (gI G11 x0 47)) + r13)) ((20000 * (gI G22 x0 47)) + (gI G6 (gR G6 x0 12) (Int32.toNatClampNeg (gI G6 x0 47)))) → isO E G26 (gR G26 x0 26) 14 ∧ (vp_in (gI G26 x0 47) (gN G26 (gR G26 x0 26)) ∧ ((¬ r1 = 0 → wp E d M_X12_ruleStatement 182 [some (vr x0), some (vi r1), some (vi r4), some (vi (gI G6 (gR G6 x0 12) (Int32.toNatClampNeg (gI G6 x0 47)))), some (vi ((24 * (gI G11 x0 47)) + r13))] [vi 0, vi (gI G26 (gR G26 x0 26) (Int32.toNatClampNeg (gI G26 x0 47))), vi (gI G26 x0 47), vr (gR G26 x0 26)] G26 Q) ∧ (r1 = 0 → wp E d M_X12_ruleStatement 182 [some (vr x0), some (vi r1), some (vi r4), some (vi (gI G6 (gR G6 x0 12) (Int32.toNatClampNeg (gI G6 x0 47)))), some (vi ((24 * (gI G11 x0 47)) + r13))] [vi 1, vi (gI G26 (gR G26 x0 26) (Int32.toNatClampNeg (gI G26 x0 47))), vi (gI G26 x0 47), vr (gR G26 x0 26)] G26 Q)))))))))))))))))))))))))))) : wp E d M_X12_ruleStatement 60 [some (vr x0), none, none, none, none] [] G Q := by
  refine wp_aload_n (pc := 60) d_X12_ruleStatement_60 rfl ?_
  refine wp_iconst (pc := 61) (v := 0) d_X12_ruleStatement_61 rfl ?_
  refine wp_iconst (pc := 62) (v := 2) d_X12_ruleStatement_62 rfl ?_
  obtain ⟨ho34, h⟩ := h
  refine wp_invV (pc := 63) (N := M_X12_aNumber) (As := [vi _, vi _]) (rest := []) (r := (cn_12, ct_12, 95)) d_X12_ruleStatement_63 ml_X12_354 mk_X12_aNumber mv_X12_aNumber h0 ho34 rfl rfl (Nat.le_of_ble_eq_true rfl) ?_
  refine wpM.mono h (fun rr G2 hr => ?_)
  obtain ⟨r1, rfl, h⟩ := hr
  show wp E d M_X12_ruleStatement 66 [some (vr _), none, none, none, none] [vi _] G2 Q
  refine wp_istore_n (pc := 66) (lv' := [some (vr _), some (vi _), none, none, none]) d_X12_ruleStatement_66 (by decide) rfl ?_
  refine wp_aload_n (pc := 67) d_X12_ruleStatement_67 rfl ?_
  refine wp_bipush (pc := 68) (v := 42) d_X12_ruleStatement_68 rfl ?_
  obtain ⟨ho33, h⟩ := h
  refine wp_invV (pc := 70) (N := M_X12_need) (As := [vi _]) (rest := []) (r := (cn_12, ct_12, 95)) d_X12_ruleStatement_70 ml_X12_373 mk_X12_need mv_X12_need h0 ho33 rfl rfl (Nat.le_of_ble_eq_true rfl) ?_
  refine wpM.mono h (fun rr G3 hr => ?_)
  obtain ⟨rfl, h⟩ := hr
  show wp E d M_X12_ruleStatement 73 [some (vr _), some (vi _), none, none, none] [] G3 Q
  refine wp_aload_n (pc := 73) d_X12_ruleStatement_73 rfl ?_
  refine wp_iconst (pc := 74) (v := 1) d_X12_ruleStatement_74 rfl ?_
  refine wp_sipush (pc := 75) (v := 1000) d_X12_ruleStatement_75 rfl ?_
  obtain ⟨ho32, h⟩ := h
  refine wp_invV (pc := 78) (N := M_X12_aNumber) (As := [vi _, vi _]) (rest := []) (r := (cn_12, ct_12, 95)) d_X12_ruleStatement_78 ml_X12_354 mk_X12_aNumber mv_X12_aNumber h0 ho32 rfl rfl (Nat.le_of_ble_eq_true rfl) ?_
  refine wpM.mono h (fun rr G5 hr => ?_)
  obtain ⟨r4, rfl, h⟩ := hr
  show wp E d M_X12_ruleStatement 81 [some (vr _), some (vi _), none, none, none] [vi _] G5 Q
  refine wp_istore_n (pc := 81) (lv' := [some (vr _), some (vi _), some (vi _), none, none]) d_X12_ruleStatement_81 (by decide) rfl ?_
  refine wp_aload_n (pc := 82) d_X12_ruleStatement_82 rfl ?_
  refine wp_bipush (pc := 83) (v := 58) d_X12_ruleStatement_83 rfl ?_
  obtain ⟨ho31, h⟩ := h
  refine wp_invV (pc := 85) (N := M_X12_need) (As := [vi _]) (rest := []) (r := (cn_12, ct_12, 95)) d_X12_ruleStatement_85 ml_X12_373 mk_X12_need mv_X12_need h0 ho31 rfl rfl (Nat.le_of_ble_eq_true rfl) ?_
  refine wpM.mono h (fun rr G6 hr => ?_)
  obtain ⟨rfl, h⟩ := hr
  show wp E d M_X12_ruleStatement 88 [some (vr _), some (vi _), some (vi _), none, none] [] G6 Q
  refine wp_aload_n (pc := 88) d_X12_ruleStatement_88 rfl ?_
  obtain ⟨ho7, h⟩ := h
  refine wp_getR (pc := 89) d_X12_ruleStatement_89 fl_X12_43 (fun _ _ _ => rfl) ho7 ?_
  refine wp_aload_n (pc := 92) d_X12_ruleStatement_92 rfl ?_
  refine wp_getI (pc := 93) d_X12_ruleStatement_93 fl_X12_321 (fun _ _ _ => rfl) ho7 ?_
  obtain ⟨ho8, h⟩ := h
  obtain ⟨hi9, h⟩ := h
  refine wp_iald (pc := 96) d_X12_ruleStatement_96 ho8 hi9 ?_
  refine wp_istore_n (pc := 97) (lv' := [some (vr _), some (vi _), some (vi _), some (vi _), none]) d_X12_ruleStatement_97 (by decide) rfl ?_
  refine wp_aload_n (pc := 98) d_X12_ruleStatement_98 rfl ?_
  refine wp_invV (pc := 99) (N := M_X12_test) (As := []) (rest := []) (r := (cn_12, ct_12, 95)) d_X12_ruleStatement_99 ml_X12_390 mk_X12_test mv_X12_test h0 ho7 rfl rfl (Nat.le_of_ble_eq_true rfl) ?_
  refine wpM.mono h (fun rr G10 hr => ?_)
  obtain ⟨rfl, h⟩ := hr
  show wp E d M_X12_ruleStatement 102 [some (vr _), some (vi _), some (vi _), some (vi _), none] [] G10 Q
  refine wp_aload_n (pc := 102) d_X12_ruleStatement_102 rfl ?_
  refine wp_bipush (pc := 103) (v := 59) d_X12_ruleStatement_103 rfl ?_
  obtain ⟨ho30, h⟩ := h
  refine wp_invV (pc := 105) (N := M_X12_need) (As := [vi _]) (rest := []) (r := (cn_12, ct_12, 95)) d_X12_ruleStatement_105 ml_X12_373 mk_X12_need mv_X12_need h0 ho30 rfl rfl (Nat.le_of_ble_eq_true rfl) ?_
  refine wpM.mono h (fun rr G11 hr => ?_)
  obtain ⟨rfl, h⟩ := hr
  show wp E d M_X12_ruleStatement 108 [some (vr _), some (vi _), some (vi _), some (vi _), none] [] G11 Q
  refine wp_aload_n (pc := 108) d_X12_ruleStatement_108 rfl ?_
  obtain ⟨ho12, h⟩ := h
  refine wp_getI (pc := 109) d_X12_ruleStatement_109 fl_X12_311 (fun _ _ _ => rfl) ho12 ?_
  refine wp_if_ne (pc := 112) (tgt := 184) d_X12_ruleStatement_112 (by decide) (fun hc => ?_) (fun hc => ?_)
  · have h := h.1 hc
    exact wp_vret (pc := 184) d_X12_ruleStatement_184 rfl h
  · have h := h.2 hc
    refine wp_bipush (pc := 115) (v := 24) d_X12_ruleStatement_115 rfl ?_
    refine wp_aload_n (pc := 117) d_X12_ruleStatement_117 rfl ?_
    refine wp_getI (pc := 118) d_X12_ruleStatement_118 fl_X12_321 (fun _ _ _ => rfl) ho12 ?_
    refine wp_imul (pc := 121) d_X12_ruleStatement_121 ?_
    refine wp_aload_n (pc := 122) d_X12_ruleStatement_122 rfl ?_
    refine wp_iconst (pc := 123) (v := 2) d_X12_ruleStatement_123 rfl ?_
    refine wp_invV (pc := 124) (N := M_X12_tell) (As := [vi _]) (rest := [vi _]) (r := (cn_12, ct_12, 95)) d_X12_ruleStatement_124 ml_X12_379 mk_X12_tell mv_X12_tell h0 ho12 rfl rfl (Nat.le_of_ble_eq_true rfl) ?_
    refine wpM.mono h (fun rr G14 hr => ?_)
    obtain ⟨r13, rfl, h⟩ := hr
    show wp E d M_X12_ruleStatement 127 [some (vr _), some (vi _), some (vi _), some (vi _), none] [vi _, vi _] G14 Q
    refine wp_iadd (pc := 127) d_X12_ruleStatement_127 ?_
    refine wp_istore (pc := 128) (lv' := [some (vr _), some (vi _), some (vi _), some (vi _), some (vi _)]) d_X12_ruleStatement_128 (by decide) rfl ?_
    refine wp_aload_n (pc := 130) d_X12_ruleStatement_130 rfl ?_
    obtain ⟨ho15, h⟩ := h
    refine wp_getR (pc := 131) d_X12_ruleStatement_131 fl_X12_88 (fun _ _ _ => rfl) ho15 ?_
    refine wp_iload (pc := 134) d_X12_ruleStatement_134 rfl ?_
    refine wp_iload_n (pc := 136) d_X12_ruleStatement_136 rfl ?_
    obtain ⟨ho16, h⟩ := h
    obtain ⟨hi17, h⟩ := h
    refine wp_iast (pc := 137) d_X12_ruleStatement_137 ho16 hi17 ?_
    refine wp_nm (fun G18 eG18 => ?_)
    have h := h G18 eG18
    have ho19 := isO_sI eG18 ho15
    refine wp_aload_n (pc := 138) d_X12_ruleStatement_138 rfl ?_
    refine wp_getR (pc := 139) d_X12_ruleStatement_139 fl_X12_91 (fun _ _ _ => rfl) ho19 ?_
    refine wp_iload (pc := 142) d_X12_ruleStatement_142 rfl ?_
    refine wp_iload_n (pc := 144) d_X12_ruleStatement_144 rfl ?_
    obtain ⟨ho20, h⟩ := h
    obtain ⟨hi21, h⟩ := h
    refine wp_iast (pc := 145) d_X12_ruleStatement_145 ho20 hi21 ?_
    refine wp_nm (fun G22 eG22 => ?_)
    have h := h G22 eG22
    have ho23 := isO_sI eG22 ho19
    refine wp_aload_n (pc := 146) d_X12_ruleStatement_146 rfl ?_
    refine wp_getR (pc := 147) d_X12_ruleStatement_147 fl_X12_94 (fun _ _ _ => rfl) ho23 ?_
    refine wp_iload (pc := 150) d_X12_ruleStatement_150 rfl ?_
    refine wp_sipush (pc := 152) (v := 20000) d_X12_ruleStatement_152 rfl ?_
    refine wp_aload_n (pc := 155) d_X12_ruleStatement_155 rfl ?_
    refine wp_getI (pc := 156) d_X12_ruleStatement_156 fl_X12_321 (fun _ _ _ => rfl) ho23 ?_
    refine wp_imul (pc := 159) d_X12_ruleStatement_159 ?_
    refine wp_iload_n (pc := 160) d_X12_ruleStatement_160 rfl ?_
    refine wp_iadd (pc := 161) d_X12_ruleStatement_161 ?_
    obtain ⟨ho24, h⟩ := h
    obtain ⟨hi25, h⟩ := h
    refine wp_iast (pc := 162) d_X12_ruleStatement_162 ho24 hi25 ?_
    refine wp_nm (fun G26 eG26 => ?_)
    have h := h G26 eG26
    have ho27 := isO_sI eG26 ho23
    refine wp_aload_n (pc := 163) d_X12_ruleStatement_163 rfl ?_
    refine wp_getR (pc := 164) d_X12_ruleStatement_164 fl_X12_85 (fun _ _ _ => rfl) ho27 ?_
    refine wp_aload_n (pc := 167) d_X12_ruleStatement_167 rfl ?_
    refine wp_getI (pc := 168) d_X12_ruleStatement_168 fl_X12_321 (fun _ _ _ => rfl) ho27 ?_
    refine wp_dup2 (pc := 171) d_X12_ruleStatement_171 (c1_i _) (c1_r _) ?_
    obtain ⟨ho28, h⟩ := h
    obtain ⟨hi29, h⟩ := h
    refine wp_iald (pc := 172) d_X12_ruleStatement_172 ho28 hi29 ?_
    refine wp_iload_n (pc := 173) d_X12_ruleStatement_173 rfl ?_
    refine wp_if_ne (pc := 174) (tgt := 181) d_X12_ruleStatement_174 (by decide) (fun hc => ?_) (fun hc => ?_)
    · have h := h.1 hc
      refine wp_iconst (pc := 181) (v := 0) d_X12_ruleStatement_181 rfl ?_
      refine wp_sub ?_ h
      exact ⟨rfl, ⟨rfl, ⟨rfl, ⟨rfl, ⟨rfl, trivial⟩⟩⟩⟩⟩
    · have h := h.2 hc
      refine wp_iconst (pc := 177) (v := 1) d_X12_ruleStatement_177 rfl ?_
      refine wp_goto (pc := 178) (tgt := 182) d_X12_ruleStatement_178 (by decide) ?_
      refine wp_sub ?_ h
      exact ⟨rfl, ⟨rfl, ⟨rfl, ⟨rfl, ⟨rfl, trivial⟩⟩⟩⟩⟩
theorem v_X12_ruleStatement_182 {E : EE} {d : Nat} {Q : Option AV → AH → Prop} {x0 : Nat} {x1 : Int32} {x2 : Int32} {x3 : Int32} {x4 : Int32} {t0 : Nat} {t1 : Int32} {t2 : Int32} {t3 : Int32} {G : AH} (h : isO E G t0 14 ∧ (vp_in t1 (gN G t0) ∧ (Q none (sI G t0 (Int32.toNatClampNeg t1) (t2 + t3))))) : wp E d M_X12_ruleStatement 182 [some (vr x0), some (vi x1), some (vi x2), some (vi x3), some (vi x4)] [vi t3, vi t2, vi t1, vr t0] G Q := by
  refine wp_iadd (pc := 182) d_X12_ruleStatement_182 ?_
  obtain ⟨ho1, h⟩ := h
  obtain ⟨hi2, h⟩ := h
  refine wp_iast (pc := 183) d_X12_ruleStatement_183 ho1 hi2 ?_
  exact wp_vret (pc := 184) d_X12_ruleStatement_184 rfl h
theorem d_X12_varStatement_0 : decode prog_14_method_28_code 0 = .ok (.aload_n 0, 1) := by decide +kernel
theorem d_X12_varStatement_1 : decode prog_14_method_28_code 1 = .ok (.iconst 1, 1) := by decide +kernel
theorem d_X12_varStatement_2 : decode prog_14_method_28_code 2 = .ok (.bipush 12, 2) := by decide +kernel
theorem d_X12_varStatement_4 : decode prog_14_method_28_code 4 = .ok (.invokevirtual 370, 3) := by decide +kernel
theorem d_X12_varStatement_7 : decode prog_14_method_28_code 7 = .ok (.aload_n 0, 1) := by decide +kernel
theorem d_X12_varStatement_8 : decode prog_14_method_28_code 8 = .ok (.getfield 344, 3) := by decide +kernel
theorem d_X12_varStatement_11 : decode prog_14_method_28_code 11 = .ok (.istore_n 1, 1) := by decide +kernel
theorem d_X12_varStatement_12 : decode prog_14_method_28_code 12 = .ok (.aload_n 0, 1) := by decide +kernel
theorem d_X12_varStatement_13 : decode prog_14_method_28_code 13 = .ok (.sipush 302, 3) := by decide +kernel
theorem d_X12_varStatement_16 : decode prog_14_method_28_code 16 = .ok (.invokevirtual 373, 3) := by decide +kernel
theorem d_X12_varStatement_19 : decode prog_14_method_28_code 19 = .ok (.aload_n 0, 1) := by decide +kernel
theorem d_X12_varStatement_20 : decode prog_14_method_28_code 20 = .ok (.getfield 311, 3) := by decide +kernel
theorem d_X12_varStatement_23 : decode prog_14_method_28_code 23 = .ok (.ifCond .ne 19, 3) := by decide +kernel
theorem d_X12_varStatement_26 : decode prog_14_method_28_code 26 = .ok (.aload_n 0, 1) := by decide +kernel
theorem d_X12_varStatement_27 : decode prog_14_method_28_code 27 = .ok (.getfield 292, 3) := by decide +kernel
theorem d_X12_varStatement_30 : decode prog_14_method_28_code 30 = .ok (.bipush 123, 2) := by decide +kernel
theorem d_X12_varStatement_32 : decode prog_14_method_28_code 32 = .ok (.if_icmp .ne 10, 3) := by decide +kernel
theorem d_X12_varStatement_35 : decode prog_14_method_28_code 35 = .ok (.aload_n 0, 1) := by decide +kernel
theorem d_X12_varStatement_36 : decode prog_14_method_28_code 36 = .ok (.invokevirtual 382, 3) := by decide +kernel
theorem d_X12_varStatement_39 : decode prog_14_method_28_code 39 = .ok (.goto 7, 3) := by decide +kernel
theorem d_X12_varStatement_42 : decode prog_14_method_28_code 42 = .ok (.aload_n 0, 1) := by decide +kernel
theorem d_X12_varStatement_43 : decode prog_14_method_28_code 43 = .ok (.invokevirtual 385, 3) := by decide +kernel
theorem d_X12_varStatement_46 : decode prog_14_method_28_code 46 = .ok (.istore_n 2, 1) := by decide +kernel
theorem d_X12_varStatement_47 : decode prog_14_method_28_code 47 = .ok (.aload_n 0, 1) := by decide +kernel
theorem d_X12_varStatement_48 : decode prog_14_method_28_code 48 = .ok (.getfield 311, 3) := by decide +kernel
theorem d_X12_varStatement_51 : decode prog_14_method_28_code 51 = .ok (.ifCond .ne 45, 3) := by decide +kernel
theorem d_X12_varStatement_54 : decode prog_14_method_28_code 54 = .ok (.aload_n 0, 1) := by decide +kernel
theorem d_X12_varStatement_55 : decode prog_14_method_28_code 55 = .ok (.getfield 292, 3) := by decide +kernel
theorem d_X12_varStatement_58 : decode prog_14_method_28_code 58 = .ok (.bipush 59, 2) := by decide +kernel
theorem d_X12_varStatement_60 : decode prog_14_method_28_code 60 = .ok (.if_icmp .ne 36, 3) := by decide +kernel
theorem d_X12_varStatement_63 : decode prog_14_method_28_code 63 = .ok (.iload_n 2, 1) := by decide +kernel
theorem d_X12_varStatement_64 : decode prog_14_method_28_code 64 = .ok (.bipush 20, 2) := by decide +kernel
theorem d_X12_varStatement_66 : decode prog_14_method_28_code 66 = .ok (.if_icmp .gt 23, 3) := by decide +kernel
theorem d_X12_varStatement_69 : decode prog_14_method_28_code 69 = .ok (.aload_n 0, 1) := by decide +kernel
theorem d_X12_varStatement_70 : decode prog_14_method_28_code 70 = .ok (.getfield 82, 3) := by decide +kernel
theorem d_X12_varStatement_73 : decode prog_14_method_28_code 73 = .ok (.aload_n 0, 1) := by decide +kernel
theorem d_X12_varStatement_74 : decode prog_14_method_28_code 74 = .ok (.getfield 321, 3) := by decide +kernel
theorem d_X12_varStatement_77 : decode prog_14_method_28_code 77 = .ok (.iaload, 1) := by decide +kernel
theorem d_X12_varStatement_78 : decode prog_14_method_28_code 78 = .ok (.i2l, 1) := by decide +kernel
theorem d_X12_varStatement_79 : decode prog_14_method_28_code 79 = .ok (.iload_n 2, 1) := by decide +kernel
theorem d_X12_varStatement_80 : decode prog_14_method_28_code 80 = .ok (.i2l, 1) := by decide +kernel
theorem d_X12_varStatement_81 : decode prog_14_method_28_code 81 = .ok (.lmul, 1) := by decide +kernel
theorem d_X12_varStatement_82 : decode prog_14_method_28_code 82 = .ok (.ldc2_w 388, 3) := by decide +kernel
theorem d_X12_varStatement_85 : decode prog_14_method_28_code 85 = .ok (.lcmp, 1) := by decide +kernel
theorem d_X12_varStatement_86 : decode prog_14_method_28_code 86 = .ok (.ifCond .le 10, 3) := by decide +kernel
theorem d_X12_varStatement_89 : decode prog_14_method_28_code 89 = .ok (.aload_n 0, 1) := by decide +kernel
theorem d_X12_varStatement_90 : decode prog_14_method_28_code 90 = .ok (.bipush 6, 2) := by decide +kernel
theorem d_X12_varStatement_92 : decode prog_14_method_28_code 92 = .ok (.iload_n 1, 1) := by decide +kernel
theorem d_X12_varStatement_93 : decode prog_14_method_28_code 93 = .ok (.invokevirtual 317, 3) := by decide +kernel
theorem d_X12_varStatement_96 : decode prog_14_method_28_code 96 = .ok (.aload_n 0, 1) := by decide +kernel
theorem d_X12_varStatement_97 : decode prog_14_method_28_code 97 = .ok (.bipush 59, 2) := by decide +kernel
theorem d_X12_varStatement_99 : decode prog_14_method_28_code 99 = .ok (.invokevirtual 373, 3) := by decide +kernel
theorem d_X12_varStatement_102 : decode prog_14_method_28_code 102 = .ok (.aload_n 0, 1) := by decide +kernel
theorem d_X12_varStatement_103 : decode prog_14_method_28_code 103 = .ok (.getfield 311, 3) := by decide +kernel
theorem d_X12_varStatement_106 : decode prog_14_method_28_code 106 = .ok (.ifCond .ne 92, 3) := by decide +kernel
theorem d_X12_varStatement_109 : decode prog_14_method_28_code 109 = .ok (.bipush 12, 2) := by decide +kernel
theorem d_X12_varStatement_111 : decode prog_14_method_28_code 111 = .ok (.aload_n 0, 1) := by decide +kernel
theorem d_X12_varStatement_112 : decode prog_14_method_28_code 112 = .ok (.getfield 321, 3) := by decide +kernel
theorem d_X12_varStatement_115 : decode prog_14_method_28_code 115 = .ok (.imul, 1) := by decide +kernel
theorem d_X12_varStatement_116 : decode prog_14_method_28_code 116 = .ok (.aload_n 0, 1) := by decide +kernel
theorem d_X12_varStatement_117 : decode prog_14_method_28_code 117 = .ok (.iconst 1, 1) := by decide +kernel
theorem d_X12_varStatement_118 : decode prog_14_method_28_code 118 = .ok (.invokevirtual 379, 3) := by decide +kernel
theorem d_X12_varStatement_121 : decode prog_14_method_28_code 121 = .ok (.iadd, 1) := by decide +kernel
theorem d_X12_varStatement_122 : decode prog_14_method_28_code 122 = .ok (.istore_n 3, 1) := by decide +kernel
theorem d_X12_varStatement_123 : decode prog_14_method_28_code 123 = .ok (.iconst 0, 1) := by decide +kernel
theorem d_X12_varStatement_124 : decode prog_14_method_28_code 124 = .ok (.istore 4, 2) := by decide +kernel
theorem d_X12_varStatement_126 : decode prog_14_method_28_code 126 = .ok (.iload 4, 2) := by decide +kernel
theorem d_X12_varStatement_128 : decode prog_14_method_28_code 128 = .ok (.iload_n 2, 1) := by decide +kernel
theorem d_X12_varStatement_129 : decode prog_14_method_28_code 129 = .ok (.if_icmp .ge 28, 3) := by decide +kernel
theorem d_X12_varStatement_132 : decode prog_14_method_28_code 132 = .ok (.aload_n 0, 1) := by decide +kernel
theorem d_X12_varStatement_133 : decode prog_14_method_28_code 133 = .ok (.getfield 70, 3) := by decide +kernel
theorem d_X12_varStatement_136 : decode prog_14_method_28_code 136 = .ok (.bipush 20, 2) := by decide +kernel
theorem d_X12_varStatement_138 : decode prog_14_method_28_code 138 = .ok (.iload_n 3, 1) := by decide +kernel
theorem d_X12_varStatement_139 : decode prog_14_method_28_code 139 = .ok (.imul, 1) := by decide +kernel
theorem d_X12_varStatement_140 : decode prog_14_method_28_code 140 = .ok (.iload 4, 2) := by decide +kernel
theorem d_X12_varStatement_142 : decode prog_14_method_28_code 142 = .ok (.iadd, 1) := by decide +kernel
theorem d_X12_varStatement_143 : decode prog_14_method_28_code 143 = .ok (.aload_n 0, 1) := by decide +kernel
theorem d_X12_varStatement_144 : decode prog_14_method_28_code 144 = .ok (.getfield 118, 3) := by decide +kernel
theorem d_X12_varStatement_147 : decode prog_14_method_28_code 147 = .ok (.iload 4, 2) := by decide +kernel
theorem d_X12_varStatement_149 : decode prog_14_method_28_code 149 = .ok (.iaload, 1) := by decide +kernel
theorem d_X12_varStatement_150 : decode prog_14_method_28_code 150 = .ok (.iastore, 1) := by decide +kernel
theorem d_X12_varStatement_151 : decode prog_14_method_28_code 151 = .ok (.iinc 4 1, 3) := by decide +kernel
theorem d_X12_varStatement_154 : decode prog_14_method_28_code 154 = .ok (.goto (-28), 3) := by decide +kernel
theorem d_X12_varStatement_157 : decode prog_14_method_28_code 157 = .ok (.aload_n 0, 1) := by decide +kernel
theorem d_X12_varStatement_158 : decode prog_14_method_28_code 158 = .ok (.getfield 64, 3) := by decide +kernel
theorem d_X12_varStatement_161 : decode prog_14_method_28_code 161 = .ok (.iload_n 3, 1) := by decide +kernel
theorem d_X12_varStatement_162 : decode prog_14_method_28_code 162 = .ok (.iload_n 2, 1) := by decide +kernel
theorem d_X12_varStatement_163 : decode prog_14_method_28_code 163 = .ok (.iastore, 1) := by decide +kernel
theorem d_X12_varStatement_164 : decode prog_14_method_28_code 164 = .ok (.aload_n 0, 1) := by decide +kernel
theorem d_X12_varStatement_165 : decode prog_14_method_28_code 165 = .ok (.getfield 73, 3) := by decide +kernel
theorem d_X12_varStatement_168 : decode prog_14_method_28_code 168 = .ok (.iload_n 3, 1) := by decide +kernel
theorem d_X12_varStatement_169 : decode prog_14_method_28_code 169 = .ok (.iconst 0, 1) := by decide +kernel
theorem d_X12_varStatement_170 : decode prog_14_method_28_code 170 = .ok (.iastore, 1) := by decide +kernel
theorem d_X12_varStatement_171 : decode prog_14_method_28_code 171 = .ok (.aload_n 0, 1) := by decide +kernel
theorem d_X12_varStatement_172 : decode prog_14_method_28_code 172 = .ok (.getfield 76, 3) := by decide +kernel
theorem d_X12_varStatement_175 : decode prog_14_method_28_code 175 = .ok (.iload_n 3, 1) := by decide +kernel
theorem d_X12_varStatement_176 : decode prog_14_method_28_code 176 = .ok (.iconst 1, 1) := by decide +kernel
theorem d_X12_varStatement_177 : decode prog_14_method_28_code 177 = .ok (.iastore, 1) := by decide +kernel
theorem d_X12_varStatement_178 : decode prog_14_method_28_code 178 = .ok (.aload_n 0, 1) := by decide +kernel
theorem d_X12_varStatement_179 : decode prog_14_method_28_code 179 = .ok (.getfield 79, 3) := by decide +kernel
theorem d_X12_varStatement_182 : decode prog_14_method_28_code 182 = .ok (.iload_n 3, 1) := by decide +kernel
theorem d_X12_varStatement_183 : decode prog_14_method_28_code 183 = .ok (.iconst 0, 1) := by decide +kernel
theorem d_X12_varStatement_184 : decode prog_14_method_28_code 184 = .ok (.bastore, 1) := by decide +kernel
theorem d_X12_varStatement_185 : decode prog_14_method_28_code 185 = .ok (.aload_n 0, 1) := by decide +kernel
theorem d_X12_varStatement_186 : decode prog_14_method_28_code 186 = .ok (.getfield 82, 3) := by decide +kernel
theorem d_X12_varStatement_189 : decode prog_14_method_28_code 189 = .ok (.aload_n 0, 1) := by decide +kernel
theorem d_X12_varStatement_190 : decode prog_14_method_28_code 190 = .ok (.getfield 321, 3) := by decide +kernel
theorem d_X12_varStatement_193 : decode prog_14_method_28_code 193 = .ok (.dup2, 1) := by decide +kernel
theorem d_X12_varStatement_194 : decode prog_14_method_28_code 194 = .ok (.iaload, 1) := by decide +kernel
theorem d_X12_varStatement_195 : decode prog_14_method_28_code 195 = .ok (.iload_n 2, 1) := by decide +kernel
theorem d_X12_varStatement_196 : decode prog_14_method_28_code 196 = .ok (.imul, 1) := by decide +kernel
theorem d_X12_varStatement_197 : decode prog_14_method_28_code 197 = .ok (.iastore, 1) := by decide +kernel
theorem d_X12_varStatement_198 : decode prog_14_method_28_code 198 = .ok (.return_, 1) := by decide +kernel
theorem v_X12_varStatement_0 {E : EE} {d : Nat} {Q : Option AV → AH → Prop} {x0 : Nat} {G : AH} (h0 : 0 < d) (h : isO E G x0 12 ∧ (wpV E (d - 1) M_X12_newName [vr x0, vi 1, vi 12] G (fun G1 => isO E G1 x0 12 ∧ (wpV E (d - 1) M_X12_need [vr x0, vi 302] G1 (fun G3 => isO E G3 x0 12 ∧ ((¬ (gI G3 x0 45) = 0 → wp E d M_X12_varStatement 42 [some (vr x0), some (vi (gI G1 x0 50)), none, none, none] [] G3 Q) ∧ ((gI G3 x0 45) = 0 → (¬ (gI G3 x0 41) = 123 → wp E d M_X12_varStatement 42 [some (vr x0), some (vi (gI G1 x0 50)), none, none, none] [] G3 Q) ∧ ((gI G3 x0 41) = 123 → wpI E (d - 1) M_X12_aSet [vr x0] G3 (fun r5 G6 => wp E d M_X12_varStatement 46 [some (vr x0), some (vi (gI G1 x0 50)), none, none, none] [vi r5] G6 Q))))))))) : wp E d M_X12_varStatement 0 [some (vr x0), none, none, none, none] [] G Q := by
  refine wp_aload_n (pc := 0) d_X12_varStatement_0 rfl ?_
  refine wp_iconst (pc := 1) (v := 1) d_X12_varStatement_1 rfl ?_
  refine wp_bipush (pc := 2) (v := 12) d_X12_varStatement_2 rfl ?_
  obtain ⟨ho7, h⟩ := h
  refine wp_invV (pc := 4) (N := M_X12_newName) (As := [vi _, vi _]) (rest := []) (r := (cn_12, ct_12, 95)) d_X12_varStatement_4 ml_X12_370 mk_X12_newName mv_X12_newName h0 ho7 rfl rfl (Nat.le_of_ble_eq_true rfl) ?_
  refine wpM.mono h (fun rr G1 hr => ?_)
  obtain ⟨rfl, h⟩ := hr
  show wp E d M_X12_varStatement 7 [some (vr _), none, none, none, none] [] G1 Q
  refine wp_aload_n (pc := 7) d_X12_varStatement_7 rfl ?_
  obtain ⟨ho2, h⟩ := h
  refine wp_getI (pc := 8) d_X12_varStatement_8 fl_X12_344 (fun _ _ _ => rfl) ho2 ?_
  refine wp_istore_n (pc := 11) (lv' := [some (vr _), some (vi _), none, none, none]) d_X12_varStatement_11 (by decide) rfl ?_
  refine wp_aload_n (pc := 12) d_X12_varStatement_12 rfl ?_
  refine wp_sipush (pc := 13) (v := 302) d_X12_varStatement_13 rfl ?_
  refine wp_invV (pc := 16) (N := M_X12_need) (As := [vi _]) (rest := []) (r := (cn_12, ct_12, 95)) d_X12_varStatement_16 ml_X12_373 mk_X12_need mv_X12_need h0 ho2 rfl rfl (Nat.le_of_ble_eq_true rfl) ?_
  refine wpM.mono h (fun rr G3 hr => ?_)
  obtain ⟨rfl, h⟩ := hr
  show wp E d M_X12_varStatement 19 [some (vr _), some (vi _), none, none, none] [] G3 Q
  refine wp_aload_n (pc := 19) d_X12_varStatement_19 rfl ?_
  obtain ⟨ho4, h⟩ := h
  refine wp_getI (pc := 20) d_X12_varStatement_20 fl_X12_311 (fun _ _ _ => rfl) ho4 ?_
  refine wp_if_ne (pc := 23) (tgt := 42) d_X12_varStatement_23 (by decide) (fun hc => ?_) (fun hc => ?_)
  · have h := h.1 hc
    refine wp_sub ?_ h
    exact ⟨rfl, ⟨rfl, trivial⟩⟩
  · have h := h.2 hc
    refine wp_aload_n (pc := 26) d_X12_varStatement_26 rfl ?_
    refine wp_getI (pc := 27) d_X12_varStatement_27 fl_X12_292 (fun _ _ _ => rfl) ho4 ?_
    refine wp_bipush (pc := 30) (v := 123) d_X12_varStatement_30 rfl ?_
    refine wp_icmp_ne (pc := 32) (tgt := 42) d_X12_varStatement_32 (by decide) (fun hc => ?_) (fun hc => ?_)
    · have h := h.1 hc
      refine wp_sub ?_ h
      exact ⟨rfl, ⟨rfl, trivial⟩⟩
    · have h := h.2 hc
      refine wp_aload_n (pc := 35) d_X12_varStatement_35 rfl ?_
      refine wp_invV (pc := 36) (N := M_X12_aSet) (As := []) (rest := []) (r := (cn_12, ct_12, 95)) d_X12_varStatement_36 ml_X12_382 mk_X12_aSet mv_X12_aSet h0 ho4 rfl rfl (Nat.le_of_ble_eq_true rfl) ?_
      refine wpM.mono h (fun rr G6 hr => ?_)
      obtain ⟨r5, rfl, h⟩ := hr
      show wp E d M_X12_varStatement 39 [some (vr _), some (vi _), none, none, none] [vi _] G6 Q
      refine wp_goto (pc := 39) (tgt := 46) d_X12_varStatement_39 (by decide) ?_
      refine wp_sub ?_ h
      exact ⟨rfl, ⟨rfl, trivial⟩⟩
theorem v_X12_varStatement_42 {E : EE} {d : Nat} {Q : Option AV → AH → Prop} {x0 : Nat} {x1 : Int32} {G : AH} (h0 : 0 < d) (h : isO E G x0 12 ∧ (wpI E (d - 1) M_X12_aRange [vr x0] G (fun r1 G2 => wp E d M_X12_varStatement 46 [some (vr x0), some (vi x1), none, none, none] [vi r1] G2 Q))) : wp E d M_X12_varStatement 42 [some (vr x0), some (vi x1), none, none, none] [] G Q := by
  refine wp_aload_n (pc := 42) d_X12_varStatement_42 rfl ?_
  obtain ⟨ho3, h⟩ := h
  refine wp_invV (pc := 43) (N := M_X12_aRange) (As := []) (rest := []) (r := (cn_12, ct_12, 95)) d_X12_varStatement_43 ml_X12_385 mk_X12_aRange mv_X12_aRange h0 ho3 rfl rfl (Nat.le_of_ble_eq_true rfl) ?_
  refine wpM.mono h (fun rr G2 hr => ?_)
  obtain ⟨r1, rfl, h⟩ := hr
  show wp E d M_X12_varStatement 46 [some (vr _), some (vi _), none, none, none] [vi _] G2 Q
  refine wp_sub ?_ h
  exact ⟨rfl, ⟨rfl, trivial⟩⟩
theorem v_X12_varStatement_46 {E : EE} {d : Nat} {Q : Option AV → AH → Prop} {x0 : Nat} {x1 : Int32} {t0 : Int32} {G : AH} (h : isO E G x0 12 ∧ ((¬ (gI G x0 45) = 0 → wp E d M_X12_varStatement 96 [some (vr x0), some (vi x1), some (vi t0), none, none] [] G Q) ∧ ((gI G x0 45) = 0 → (¬ (gI G x0 41) = 59 → wp E d M_X12_varStatement 96 [some (vr x0), some (vi x1), some (vi t0), none, none] [] G Q) ∧ ((gI G x0 41) = 59 → (20 < t0 → wp E d M_X12_varStatement 89 [some (vr x0), some (vi x1), some (vi t0), none, none] [] G Q) ∧ (¬ (20 < t0) → isO E G (gR G x0 25) 14 ∧ (vp_in (gI G x0 47) (gN G (gR G x0 25)) ∧ ((((Int32.toInt64 (gI G (gR G x0 25) (Int32.toNatClampNeg (gI G x0 47)))) * (Int32.toInt64 t0)) ≤ 20000 → wp E d M_X12_varStatement 96 [some (vr x0), some (vi x1), some (vi t0), none, none] [] G Q) ∧ (¬ (((Int32.toInt64 (gI G (gR G x0 25) (Int32.toNatClampNeg (gI G x0 47)))) * (Int32.toInt64 t0)) ≤ 20000) → wp E d M_X12_varStatement 89 [some (vr x0), some (vi x1), some (vi t0), none, none] [] G Q)))))))) : wp E d M_X12_varStatement 46 [some (vr x0), some (vi x1), none, none, none] [vi t0] G Q := by
  refine wp_istore_n (pc := 46) (lv' := [some (vr _), some (vi _), some (vi _), none, none]) d_X12_varStatement_46 (by decide) rfl ?_
  refine wp_aload_n (pc := 47) d_X12_varStatement_47 rfl ?_
  obtain ⟨ho1, h⟩ := h
  refine wp_getI (pc := 48) d_X12_varStatement_48 fl_X12_311 (fun _ _ _ => rfl) ho1 ?_
  refine wp_if_ne (pc := 51) (tgt := 96) d_X12_varStatement_51 (by decide) (fun hc => ?_) (fun hc => ?_)
  · have h := h.1 hc
    refine wp_sub ?_ h
    exact ⟨rfl, ⟨rfl, ⟨rfl, trivial⟩⟩⟩
  · have h := h.2 hc
    refine wp_aload_n (pc := 54) d_X12_varStatement_54 rfl ?_
    refine wp_getI (pc := 55) d_X12_varStatement_55 fl_X12_292 (fun _ _ _ => rfl) ho1 ?_
    refine wp_bipush (pc := 58) (v := 59) d_X12_varStatement_58 rfl ?_
    refine wp_icmp_ne (pc := 60) (tgt := 96) d_X12_varStatement_60 (by decide) (fun hc => ?_) (fun hc => ?_)
    · have h := h.1 hc
      refine wp_sub ?_ h
      exact ⟨rfl, ⟨rfl, ⟨rfl, trivial⟩⟩⟩
    · have h := h.2 hc
      refine wp_iload_n (pc := 63) d_X12_varStatement_63 rfl ?_
      refine wp_bipush (pc := 64) (v := 20) d_X12_varStatement_64 rfl ?_
      refine wp_icmp_gt (pc := 66) (tgt := 89) d_X12_varStatement_66 (by decide) (fun hc => ?_) (fun hc => ?_)
      · have h := h.1 hc
        refine wp_sub ?_ h
        exact ⟨rfl, ⟨rfl, ⟨rfl, trivial⟩⟩⟩
      · have h := h.2 hc
        refine wp_aload_n (pc := 69) d_X12_varStatement_69 rfl ?_
        refine wp_getR (pc := 70) d_X12_varStatement_70 fl_X12_82 (fun _ _ _ => rfl) ho1 ?_
        refine wp_aload_n (pc := 73) d_X12_varStatement_73 rfl ?_
        refine wp_getI (pc := 74) d_X12_varStatement_74 fl_X12_321 (fun _ _ _ => rfl) ho1 ?_
        obtain ⟨ho2, h⟩ := h
        obtain ⟨hi3, h⟩ := h
        refine wp_iald (pc := 77) d_X12_varStatement_77 ho2 hi3 ?_
        refine wp_i2l (pc := 78) d_X12_varStatement_78 ?_
        refine wp_iload_n (pc := 79) d_X12_varStatement_79 rfl ?_
        refine wp_i2l (pc := 80) d_X12_varStatement_80 ?_
        refine wp_lmul (pc := 81) d_X12_varStatement_81 ?_
        refine wp_ldc2 (pc := 82) (v := 20000) d_X12_varStatement_82 cj_X12_388 ?_
        refine wp_lcmp_le (pc := 85) (tgt := 96) d_X12_varStatement_85 d_X12_varStatement_86 (by decide) (fun hc => ?_) (fun hc => ?_)
        · have h := h.1 hc
          refine wp_sub ?_ h
          exact ⟨rfl, ⟨rfl, ⟨rfl, trivial⟩⟩⟩
        · have h := h.2 hc
          refine wp_sub ?_ h
          exact ⟨rfl, ⟨rfl, ⟨rfl, trivial⟩⟩⟩
theorem v_X12_varStatement_89 {E : EE} {d : Nat} {Q : Option AV → AH → Prop} {x0 : Nat} {x1 : Int32} {x2 : Int32} {G : AH} (h0 : 0 < d) (h : isO E G x0 12 ∧ (wpV E (d - 1) M_X12_fail [vr x0, vi 6, vi x1] G (fun G1 => wp E d M_X12_varStatement 96 [some (vr x0), some (vi x1), some (vi x2), none, none] [] G1 Q))) : wp E d M_X12_varStatement 89 [some (vr x0), some (vi x1), some (vi x2), none, none] [] G Q := by
  refine wp_aload_n (pc := 89) d_X12_varStatement_89 rfl ?_
  refine wp_bipush (pc := 90) (v := 6) d_X12_varStatement_90 rfl ?_
  refine wp_iload_n (pc := 92) d_X12_varStatement_92 rfl ?_
  obtain ⟨ho2, h⟩ := h
  refine wp_invV (pc := 93) (N := M_X12_fail) (As := [vi _, vi _]) (rest := []) (r := (cn_12, ct_12, 95)) d_X12_varStatement_93 ml_X12_317 mk_X12_fail mv_X12_fail h0 ho2 rfl rfl (Nat.le_of_ble_eq_true rfl) ?_
  refine wpM.mono h (fun rr G1 hr => ?_)
  obtain ⟨rfl, h⟩ := hr
  show wp E d M_X12_varStatement 96 [some (vr _), some (vi _), some (vi _), none, none] [] G1 Q
  refine wp_sub ?_ h
  exact ⟨rfl, ⟨rfl, ⟨rfl, trivial⟩⟩⟩
theorem v_X12_varStatement_96 {E : EE} {d : Nat} {Q : Option AV → AH → Prop} {x0 : Nat} {x1 : Int32} {x2 : Int32} {G : AH} (h0 : 0 < d) (h : isO E G x0 12 ∧ (wpV E (d - 1) M_X12_need [vr x0, vi 59] G (fun G1 => isO E G1 x0 12 ∧ ((¬ (gI G1 x0 45) = 0 → Q none G1) ∧ ((gI G1 x0 45) = 0 → wpI E (d - 1) M_X12_tell [vr x0, vi 1] G1 (fun r3 G4 => wp E d M_X12_varStatement 126 [some (vr x0), some (vi x1), some (vi x2), some (vi ((12 * (gI G1 x0 47)) + r3)), some (vi 0)] [] G4 Q)))))) : wp E d M_X12_varStatement 96 [some (vr x0), some (vi x1), some (vi x2), none, none] [] G Q := by
  refine wp_aload_n (pc := 96) d_X12_varStatement_96 rfl ?_
  refine wp_bipush (pc := 97) (v := 59) d_X12_varStatement_97 rfl ?_
  obtain ⟨ho5, h⟩ := h
  refine wp_invV (pc := 99) (N := M_X12_need) (As := [vi _]) (rest := []) (r := (cn_12, ct_12, 95)) d_X12_varStatement_99 ml_X12_373 mk_X12_need mv_X12_need h0 ho5 rfl rfl (Nat.le_of_ble_eq_true rfl) ?_
  refine wpM.mono h (fun rr G1 hr => ?_)
  obtain ⟨rfl, h⟩ := hr
  show wp E d M_X12_varStatement 102 [some (vr _), some (vi _), some (vi _), none, none] [] G1 Q
  refine wp_aload_n (pc := 102) d_X12_varStatement_102 rfl ?_
  obtain ⟨ho2, h⟩ := h
  refine wp_getI (pc := 103) d_X12_varStatement_103 fl_X12_311 (fun _ _ _ => rfl) ho2 ?_
  refine wp_if_ne (pc := 106) (tgt := 198) d_X12_varStatement_106 (by decide) (fun hc => ?_) (fun hc => ?_)
  · have h := h.1 hc
    exact wp_vret (pc := 198) d_X12_varStatement_198 rfl h
  · have h := h.2 hc
    refine wp_bipush (pc := 109) (v := 12) d_X12_varStatement_109 rfl ?_
    refine wp_aload_n (pc := 111) d_X12_varStatement_111 rfl ?_
    refine wp_getI (pc := 112) d_X12_varStatement_112 fl_X12_321 (fun _ _ _ => rfl) ho2 ?_
    refine wp_imul (pc := 115) d_X12_varStatement_115 ?_
    refine wp_aload_n (pc := 116) d_X12_varStatement_116 rfl ?_
    refine wp_iconst (pc := 117) (v := 1) d_X12_varStatement_117 rfl ?_
    refine wp_invV (pc := 118) (N := M_X12_tell) (As := [vi _]) (rest := [vi _]) (r := (cn_12, ct_12, 95)) d_X12_varStatement_118 ml_X12_379 mk_X12_tell mv_X12_tell h0 ho2 rfl rfl (Nat.le_of_ble_eq_true rfl) ?_
    refine wpM.mono h (fun rr G4 hr => ?_)
    obtain ⟨r3, rfl, h⟩ := hr
    show wp E d M_X12_varStatement 121 [some (vr _), some (vi _), some (vi _), none, none] [vi _, vi _] G4 Q
    refine wp_iadd (pc := 121) d_X12_varStatement_121 ?_
    refine wp_istore_n (pc := 122) (lv' := [some (vr _), some (vi _), some (vi _), some (vi _), none]) d_X12_varStatement_122 (by decide) rfl ?_
    refine wp_iconst (pc := 123) (v := 0) d_X12_varStatement_123 rfl ?_
    refine wp_istore (pc := 124) (lv' := [some (vr _), some (vi _), some (vi _), some (vi _), some (vi _)]) d_X12_varStatement_124 (by decide) rfl ?_
    refine wp_sub ?_ h
    exact ⟨rfl, ⟨rfl, ⟨rfl, ⟨rfl, ⟨rfl, trivial⟩⟩⟩⟩⟩
theorem v_X12_varStatement_126 {E : EE} {d : Nat} {Q : Option AV → AH → Prop} {x0 : Nat} {x1 : Int32} {x2 : Int32} {x3 : Int32} {x4 : Int32} {G : AH} (h : (x2 ≤ x4 → isO E G x0 12 ∧ (isO E G (gR G x0 19) 14 ∧ (vp_in x3 (gN G (gR G x0 19)) ∧ (∀ G4 : AH, G4 = sI G (gR G x0 19) (Int32.toNatClampNeg x3) x2 → isO E G4 (gR G4 x0 22) 14 ∧ (vp_in x3 (gN G4 (gR G4 x0 22)) ∧ (∀ G8 : AH, G8 = sI G4 (gR G4 x0 22) (Int32.toNatClampNeg x3) 0 → isO E G8 (gR G8 x0 23) 14 ∧ (vp_in x3 (gN G8 (gR G8 x0 23)) ∧ (∀ G12 : AH, G12 = sI G8 (gR G8 x0 23) (Int32.toNatClampNeg x3) 1 → isO E G12 (gR G12 x0 24) 16 ∧ (vp_in x3 (gN G12 (gR G12 x0 24)) ∧ (∀ G16 : AH, G16 = sI G12 (gR G12 x0 24) (Int32.toNatClampNeg x3) (nz 0) → isO E G16 (gR G16 x0 25) 14 ∧ (vp_in (gI G16 x0 47) (gN G16 (gR G16 x0 25)) ∧ (vp_in (gI G16 x0 47) (gN G16 (gR G16 x0 25)) ∧ (∀ G21 : AH, G21 = sI G16 (gR G16 x0 25) (Int32.toNatClampNeg (gI G16 x0 47)) ((gI G16 (gR G16 x0 25) (Int32.toNatClampNeg (gI G16 x0 47))) * x2) → Q none G21))))))))))))) ∧ (¬ (x2 ≤ x4) → isO E G x0 12 ∧ (isO E G (gR G x0 49) 14 ∧ (vp_in x4 (gN G (gR G x0 49)) ∧ (isO E G (gR G x0 21) 14 ∧ (vp_in ((20 * x3) + x4) (gN G (gR G x0 21)) ∧ (∀ G28 : AH, G28 = sI G (gR G x0 21) (Int32.toNatClampNeg ((20 * x3) + x4)) (gI G (gR G x0 49) (Int32.toNatClampNeg x4)) → wp E d M_X12_varStatement 126 [some (vr x0), some (vi x1), some (vi x2), some (vi x3), some (vi (x4 + 1))] [] G28 Q))))))) : wp E d M_X12_varStatement 126 [some (vr x0), some (vi x1), some (vi x2), some (vi x3), some (vi x4)] [] G Q := by
  refine wp_iload (pc := 126) d_X12_varStatement_126 rfl ?_
  refine wp_iload_n (pc := 128) d_X12_varStatement_128 rfl ?_
  refine wp_icmp_ge (pc := 129) (tgt := 157) d_X12_varStatement_129 (by decide) (fun hc => ?_) (fun hc => ?_)
  · have h := h.1 hc
    refine wp_aload_n (pc := 157) d_X12_varStatement_157 rfl ?_
    obtain ⟨ho1, h⟩ := h
    refine wp_getR (pc := 158) d_X12_varStatement_158 fl_X12_64 (fun _ _ _ => rfl) ho1 ?_
    refine wp_iload_n (pc := 161) d_X12_varStatement_161 rfl ?_
    refine wp_iload_n (pc := 162) d_X12_varStatement_162 rfl ?_
    obtain ⟨ho2, h⟩ := h
    obtain ⟨hi3, h⟩ := h
    refine wp_iast (pc := 163) d_X12_varStatement_163 ho2 hi3 ?_
    refine wp_nm (fun G4 eG4 => ?_)
    have h := h G4 eG4
    have ho5 := isO_sI eG4 ho1
    refine wp_aload_n (pc := 164) d_X12_varStatement_164 rfl ?_
    refine wp_getR (pc := 165) d_X12_varStatement_165 fl_X12_73 (fun _ _ _ => rfl) ho5 ?_
    refine wp_iload_n (pc := 168) d_X12_varStatement_168 rfl ?_
    refine wp_iconst (pc := 169) (v := 0) d_X12_varStatement_169 rfl ?_
    obtain ⟨ho6, h⟩ := h
    obtain ⟨hi7, h⟩ := h
    refine wp_iast (pc := 170) d_X12_varStatement_170 ho6 hi7 ?_
    refine wp_nm (fun G8 eG8 => ?_)
    have h := h G8 eG8
    have ho9 := isO_sI eG8 ho5
    refine wp_aload_n (pc := 171) d_X12_varStatement_171 rfl ?_
    refine wp_getR (pc := 172) d_X12_varStatement_172 fl_X12_76 (fun _ _ _ => rfl) ho9 ?_
    refine wp_iload_n (pc := 175) d_X12_varStatement_175 rfl ?_
    refine wp_iconst (pc := 176) (v := 1) d_X12_varStatement_176 rfl ?_
    obtain ⟨ho10, h⟩ := h
    obtain ⟨hi11, h⟩ := h
    refine wp_iast (pc := 177) d_X12_varStatement_177 ho10 hi11 ?_
    refine wp_nm (fun G12 eG12 => ?_)
    have h := h G12 eG12
    have ho13 := isO_sI eG12 ho9
    refine wp_aload_n (pc := 178) d_X12_varStatement_178 rfl ?_
    refine wp_getR (pc := 179) d_X12_varStatement_179 fl_X12_79 (fun _ _ _ => rfl) ho13 ?_
    refine wp_iload_n (pc := 182) d_X12_varStatement_182 rfl ?_
    refine wp_iconst (pc := 183) (v := 0) d_X12_varStatement_183 rfl ?_
    obtain ⟨ho14, h⟩ := h
    obtain ⟨hi15, h⟩ := h
    refine wp_zast (pc := 184) d_X12_varStatement_184 ho14 hi15 ?_
    refine wp_nm (fun G16 eG16 => ?_)
    have h := h G16 eG16
    have ho17 := isO_sI eG16 ho13
    refine wp_aload_n (pc := 185) d_X12_varStatement_185 rfl ?_
    refine wp_getR (pc := 186) d_X12_varStatement_186 fl_X12_82 (fun _ _ _ => rfl) ho17 ?_
    refine wp_aload_n (pc := 189) d_X12_varStatement_189 rfl ?_
    refine wp_getI (pc := 190) d_X12_varStatement_190 fl_X12_321 (fun _ _ _ => rfl) ho17 ?_
    refine wp_dup2 (pc := 193) d_X12_varStatement_193 (c1_i _) (c1_r _) ?_
    obtain ⟨ho18, h⟩ := h
    obtain ⟨hi19, h⟩ := h
    refine wp_iald (pc := 194) d_X12_varStatement_194 ho18 hi19 ?_
    refine wp_iload_n (pc := 195) d_X12_varStatement_195 rfl ?_
    refine wp_imul (pc := 196) d_X12_varStatement_196 ?_
    obtain ⟨hi20, h⟩ := h
    refine wp_iast (pc := 197) d_X12_varStatement_197 ho18 hi20 ?_
    refine wp_nm (fun G21 eG21 => ?_)
    have h := h G21 eG21
    have ho22 := isO_sI eG21 ho17
    exact wp_vret (pc := 198) d_X12_varStatement_198 rfl h
  · have h := h.2 hc
    refine wp_aload_n (pc := 132) d_X12_varStatement_132 rfl ?_
    obtain ⟨ho23, h⟩ := h
    refine wp_getR (pc := 133) d_X12_varStatement_133 fl_X12_70 (fun _ _ _ => rfl) ho23 ?_
    refine wp_bipush (pc := 136) (v := 20) d_X12_varStatement_136 rfl ?_
    refine wp_iload_n (pc := 138) d_X12_varStatement_138 rfl ?_
    refine wp_imul (pc := 139) d_X12_varStatement_139 ?_
    refine wp_iload (pc := 140) d_X12_varStatement_140 rfl ?_
    refine wp_iadd (pc := 142) d_X12_varStatement_142 ?_
    refine wp_aload_n (pc := 143) d_X12_varStatement_143 rfl ?_
    refine wp_getR (pc := 144) d_X12_varStatement_144 fl_X12_118 (fun _ _ _ => rfl) ho23 ?_
    refine wp_iload (pc := 147) d_X12_varStatement_147 rfl ?_
    obtain ⟨ho24, h⟩ := h
    obtain ⟨hi25, h⟩ := h
    refine wp_iald (pc := 149) d_X12_varStatement_149 ho24 hi25 ?_
    obtain ⟨ho26, h⟩ := h
    obtain ⟨hi27, h⟩ := h
    refine wp_iast (pc := 150) d_X12_varStatement_150 ho26 hi27 ?_
    refine wp_nm (fun G28 eG28 => ?_)
    have h := h G28 eG28
    have ho29 := isO_sI eG28 ho23
    refine wp_iinc (pc := 151) (v := 1) (lv' := [some (vr _), some (vi _), some (vi _), some (vi _), some (vi _)]) d_X12_varStatement_151 (by decide) rfl rfl rfl ?_
    refine wp_goto (pc := 154) (tgt := 126) d_X12_varStatement_154 (by decide) ?_
    refine wp_sub ?_ h
    exact ⟨rfl, ⟨rfl, ⟨rfl, ⟨rfl, ⟨rfl, trivial⟩⟩⟩⟩⟩
theorem d_X12_aSet_0 : decode prog_14_method_30_code 0 = .ok (.aload_n 0, 1) := by decide +kernel
theorem d_X12_aSet_1 : decode prog_14_method_30_code 1 = .ok (.iconst 0, 1) := by decide +kernel
theorem d_X12_aSet_2 : decode prog_14_method_30_code 2 = .ok (.invokevirtual 330, 3) := by decide +kernel
theorem d_X12_aSet_5 : decode prog_14_method_30_code 5 = .ok (.iconst 0, 1) := by decide +kernel
theorem d_X12_aSet_6 : decode prog_14_method_30_code 6 = .ok (.istore_n 1, 1) := by decide +kernel
theorem d_X12_aSet_7 : decode prog_14_method_30_code 7 = .ok (.iconst 1, 1) := by decide +kernel
theorem d_X12_aSet_8 : decode prog_14_method_30_code 8 = .ok (.istore_n 2, 1) := by decide +kernel
theorem d_X12_aSet_9 : decode prog_14_method_30_code 9 = .ok (.iload_n 2, 1) := by decide +kernel
theorem d_X12_aSet_10 : decode prog_14_method_30_code 10 = .ok (.ifCond .eq 147, 3) := by decide +kernel
theorem d_X12_aSet_13 : decode prog_14_method_30_code 13 = .ok (.aload_n 0, 1) := by decide +kernel
theorem d_X12_aSet_14 : decode prog_14_method_30_code 14 = .ok (.getfield 311, 3) := by decide +kernel
theorem d_X12_aSet_17 : decode prog_14_method_30_code 17 = .ok (.ifCond .ne 140, 3) := by decide +kernel
theorem d_X12_aSet_20 : decode prog_14_method_30_code 20 = .ok (.aload_n 0, 1) := by decide +kernel
theorem d_X12_aSet_21 : decode prog_14_method_30_code 21 = .ok (.invokevirtual 350, 3) := by decide +kernel
theorem d_X12_aSet_24 : decode prog_14_method_30_code 24 = .ok (.istore_n 3, 1) := by decide +kernel
theorem d_X12_aSet_25 : decode prog_14_method_30_code 25 = .ok (.iload_n 3, 1) := by decide +kernel
theorem d_X12_aSet_26 : decode prog_14_method_30_code 26 = .ok (.ifCond .eq 11, 3) := by decide +kernel
theorem d_X12_aSet_29 : decode prog_14_method_30_code 29 = .ok (.aload_n 0, 1) := by decide +kernel
theorem d_X12_aSet_30 : decode prog_14_method_30_code 30 = .ok (.getfield 305, 3) := by decide +kernel
theorem d_X12_aSet_33 : decode prog_14_method_30_code 33 = .ok (.ineg, 1) := by decide +kernel
theorem d_X12_aSet_34 : decode prog_14_method_30_code 34 = .ok (.goto 7, 3) := by decide +kernel
theorem d_X12_aSet_37 : decode prog_14_method_30_code 37 = .ok (.aload_n 0, 1) := by decide +kernel
theorem d_X12_aSet_38 : decode prog_14_method_30_code 38 = .ok (.getfield 305, 3) := by decide +kernel
theorem d_X12_aSet_41 : decode prog_14_method_30_code 41 = .ok (.istore 4, 2) := by decide +kernel
theorem d_X12_aSet_43 : decode prog_14_method_30_code 43 = .ok (.aload_n 0, 1) := by decide +kernel
theorem d_X12_aSet_44 : decode prog_14_method_30_code 44 = .ok (.getfield 311, 3) := by decide +kernel
theorem d_X12_aSet_47 : decode prog_14_method_30_code 47 = .ok (.ifCond .ne 56, 3) := by decide +kernel
theorem d_X12_aSet_50 : decode prog_14_method_30_code 50 = .ok (.aload_n 0, 1) := by decide +kernel
theorem d_X12_aSet_51 : decode prog_14_method_30_code 51 = .ok (.getfield 292, 3) := by decide +kernel
theorem d_X12_aSet_54 : decode prog_14_method_30_code 54 = .ok (.iconst 2, 1) := by decide +kernel
theorem d_X12_aSet_55 : decode prog_14_method_30_code 55 = .ok (.if_icmp .ne 48, 3) := by decide +kernel
theorem d_X12_aSet_58 : decode prog_14_method_30_code 58 = .ok (.aload_n 0, 1) := by decide +kernel
theorem d_X12_aSet_59 : decode prog_14_method_30_code 59 = .ok (.getfield 305, 3) := by decide +kernel
theorem d_X12_aSet_62 : decode prog_14_method_30_code 62 = .ok (.bipush 99, 2) := by decide +kernel
theorem d_X12_aSet_64 : decode prog_14_method_30_code 64 = .ok (.if_icmp .gt 39, 3) := by decide +kernel
theorem d_X12_aSet_67 : decode prog_14_method_30_code 67 = .ok (.iconst 0, 1) := by decide +kernel
theorem d_X12_aSet_68 : decode prog_14_method_30_code 68 = .ok (.istore 5, 2) := by decide +kernel
theorem d_X12_aSet_70 : decode prog_14_method_30_code 70 = .ok (.iload 5, 2) := by decide +kernel
theorem d_X12_aSet_72 : decode prog_14_method_30_code 72 = .ok (.iload_n 1, 1) := by decide +kernel
theorem d_X12_aSet_73 : decode prog_14_method_30_code 73 = .ok (.if_icmp .ge 30, 3) := by decide +kernel
theorem d_X12_aSet_76 : decode prog_14_method_30_code 76 = .ok (.aload_n 0, 1) := by decide +kernel
theorem d_X12_aSet_77 : decode prog_14_method_30_code 77 = .ok (.getfield 118, 3) := by decide +kernel
theorem d_X12_aSet_80 : decode prog_14_method_30_code 80 = .ok (.iload 5, 2) := by decide +kernel
theorem d_X12_aSet_82 : decode prog_14_method_30_code 82 = .ok (.iaload, 1) := by decide +kernel
theorem d_X12_aSet_83 : decode prog_14_method_30_code 83 = .ok (.iload 4, 2) := by decide +kernel
theorem d_X12_aSet_85 : decode prog_14_method_30_code 85 = .ok (.if_icmp .ne 12, 3) := by decide +kernel
theorem d_X12_aSet_88 : decode prog_14_method_30_code 88 = .ok (.aload_n 0, 1) := by decide +kernel
theorem d_X12_aSet_89 : decode prog_14_method_30_code 89 = .ok (.iconst 5, 1) := by decide +kernel
theorem d_X12_aSet_90 : decode prog_14_method_30_code 90 = .ok (.aload_n 0, 1) := by decide +kernel
theorem d_X12_aSet_91 : decode prog_14_method_30_code 91 = .ok (.getfield 241, 3) := by decide +kernel
theorem d_X12_aSet_94 : decode prog_14_method_30_code 94 = .ok (.invokevirtual 317, 3) := by decide +kernel
theorem d_X12_aSet_97 : decode prog_14_method_30_code 97 = .ok (.iinc 5 1, 3) := by decide +kernel
theorem d_X12_aSet_100 : decode prog_14_method_30_code 100 = .ok (.goto (-30), 3) := by decide +kernel
theorem d_X12_aSet_103 : decode prog_14_method_30_code 103 = .ok (.aload_n 0, 1) := by decide +kernel
theorem d_X12_aSet_104 : decode prog_14_method_30_code 104 = .ok (.iconst 0, 1) := by decide +kernel
theorem d_X12_aSet_105 : decode prog_14_method_30_code 105 = .ok (.bipush 99, 2) := by decide +kernel
theorem d_X12_aSet_107 : decode prog_14_method_30_code 107 = .ok (.invokevirtual 354, 3) := by decide +kernel
theorem d_X12_aSet_110 : decode prog_14_method_30_code 110 = .ok (.istore 5, 2) := by decide +kernel
theorem d_X12_aSet_112 : decode prog_14_method_30_code 112 = .ok (.aload_n 0, 1) := by decide +kernel
theorem d_X12_aSet_113 : decode prog_14_method_30_code 113 = .ok (.getfield 311, 3) := by decide +kernel
theorem d_X12_aSet_116 : decode prog_14_method_30_code 116 = .ok (.ifCond .ne 38, 3) := by decide +kernel
theorem d_X12_aSet_119 : decode prog_14_method_30_code 119 = .ok (.aload_n 0, 1) := by decide +kernel
theorem d_X12_aSet_120 : decode prog_14_method_30_code 120 = .ok (.getfield 118, 3) := by decide +kernel
theorem d_X12_aSet_123 : decode prog_14_method_30_code 123 = .ok (.iload_n 1, 1) := by decide +kernel
theorem d_X12_aSet_124 : decode prog_14_method_30_code 124 = .ok (.iload 4, 2) := by decide +kernel
theorem d_X12_aSet_126 : decode prog_14_method_30_code 126 = .ok (.iastore, 1) := by decide +kernel
theorem d_X12_aSet_127 : decode prog_14_method_30_code 127 = .ok (.iinc 1 1, 3) := by decide +kernel
theorem d_X12_aSet_130 : decode prog_14_method_30_code 130 = .ok (.aload_n 0, 1) := by decide +kernel
theorem d_X12_aSet_131 : decode prog_14_method_30_code 131 = .ok (.getfield 292, 3) := by decide +kernel
theorem d_X12_aSet_134 : decode prog_14_method_30_code 134 = .ok (.bipush 44, 2) := by decide +kernel
theorem d_X12_aSet_136 : decode prog_14_method_30_code 136 = .ok (.if_icmp .ne 7, 3) := by decide +kernel
theorem d_X12_aSet_139 : decode prog_14_method_30_code 139 = .ok (.iconst 1, 1) := by decide +kernel
theorem d_X12_aSet_140 : decode prog_14_method_30_code 140 = .ok (.goto 4, 3) := by decide +kernel
theorem d_X12_aSet_143 : decode prog_14_method_30_code 143 = .ok (.iconst 0, 1) := by decide +kernel
theorem d_X12_aSet_144 : decode prog_14_method_30_code 144 = .ok (.istore_n 2, 1) := by decide +kernel
theorem d_X12_aSet_145 : decode prog_14_method_30_code 145 = .ok (.iload_n 2, 1) := by decide +kernel
theorem d_X12_aSet_146 : decode prog_14_method_30_code 146 = .ok (.ifCond .eq 8, 3) := by decide +kernel
theorem d_X12_aSet_149 : decode prog_14_method_30_code 149 = .ok (.aload_n 0, 1) := by decide +kernel
theorem d_X12_aSet_150 : decode prog_14_method_30_code 150 = .ok (.iconst 0, 1) := by decide +kernel
theorem d_X12_aSet_151 : decode prog_14_method_30_code 151 = .ok (.invokevirtual 330, 3) := by decide +kernel
theorem d_X12_aSet_154 : decode prog_14_method_30_code 154 = .ok (.goto (-145), 3) := by decide +kernel
theorem d_X12_aSet_157 : decode prog_14_method_30_code 157 = .ok (.aload_n 0, 1) := by decide +kernel
theorem d_X12_aSet_158 : decode prog_14_method_30_code 158 = .ok (.bipush 125, 2) := by decide +kernel
theorem d_X12_aSet_160 : decode prog_14_method_30_code 160 = .ok (.invokevirtual 373, 3) := by decide +kernel
theorem d_X12_aSet_163 : decode prog_14_method_30_code 163 = .ok (.iload_n 1, 1) := by decide +kernel
theorem d_X12_aSet_164 : decode prog_14_method_30_code 164 = .ok (.ireturn, 1) := by decide +kernel
theorem v_X12_aSet_0 {E : EE} {d : Nat} {Q : Option AV → AH → Prop} {x0 : Nat} {G : AH} (h0 : 0 < d) (h : isO E G x0 12 ∧ (wpV E (d - 1) M_X12_keep [vr x0, vi 0] G (fun G1 => wp E d M_X12_aSet 9 [some (vr x0), some (vi 0), some (vi 1), none, none, none] [] G1 Q))) : wp E d M_X12_aSet 0 [some (vr x0), none, none, none, none, none] [] G Q := by
  refine wp_aload_n (pc := 0) d_X12_aSet_0 rfl ?_
  refine wp_iconst (pc := 1) (v := 0) d_X12_aSet_1 rfl ?_
  obtain ⟨ho2, h⟩ := h
  refine wp_invV (pc := 2) (N := M_X12_keep) (As := [vi _]) (rest := []) (r := (cn_12, ct_12, 95)) d_X12_aSet_2 ml_X12_330 mk_X12_keep mv_X12_keep h0 ho2 rfl rfl (Nat.le_of_ble_eq_true rfl) ?_
  refine wpM.mono h (fun rr G1 hr => ?_)
  obtain ⟨rfl, h⟩ := hr
  show wp E d M_X12_aSet 5 [some (vr _), none, none, none, none, none] [] G1 Q
  refine wp_iconst (pc := 5) (v := 0) d_X12_aSet_5 rfl ?_
  refine wp_istore_n (pc := 6) (lv' := [some (vr _), some (vi _), none, none, none, none]) d_X12_aSet_6 (by decide) rfl ?_
  refine wp_iconst (pc := 7) (v := 1) d_X12_aSet_7 rfl ?_
  refine wp_istore_n (pc := 8) (lv' := [some (vr _), some (vi _), some (vi _), none, none, none]) d_X12_aSet_8 (by decide) rfl ?_
  refine wp_sub ?_ h
  exact ⟨rfl, ⟨rfl, ⟨rfl, trivial⟩⟩⟩
theorem v_X12_aSet_9 {E : EE} {d : Nat} {Q : Option AV → AH → Prop} {x0 : Nat} {x1 : Int32} {x2 : Int32} {G : AH} (h0 : 0 < d) (h : (x2 = 0 → wp E d M_X12_aSet 157 [some (vr x0), some (vi x1), some (vi x2), none, none, none] [] G Q) ∧ (¬ (x2 = 0) → isO E G x0 12 ∧ ((¬ (gI G x0 45) = 0 → wp E d M_X12_aSet 157 [some (vr x0), some (vi x1), some (vi x2), none, none, none] [] G Q) ∧ ((gI G x0 45) = 0 → wpI E (d - 1) M_X12_isMinus [vr x0] G (fun r2 G3 => (r2 = 0 → isO E G3 x0 12 ∧ (wp E d M_X12_aSet 41 [some (vr x0), some (vi x1), some (vi x2), some (vi r2), none, none] [vi (gI G3 x0 42)] G3 Q)) ∧ (¬ (r2 = 0) → isO E G3 x0 12 ∧ (wp E d M_X12_aSet 41 [some (vr x0), some (vi x1), some (vi x2), some (vi r2), none, none] [vi (-(gI G3 x0 42))] G3 Q))))))) : wp E d M_X12_aSet 9 [some (vr x0), some (vi x1), some (vi x2), none, none, none] [] G Q := by
  refine wp_iload_n (pc := 9) d_X12_aSet_9 rfl ?_
  refine wp_if_eq (pc := 10) (tgt := 157) d_X12_aSet_10 (by decide) (fun hc => ?_) (fun hc => ?_)
  · have h := h.1 hc
    refine wp_sub ?_ h
    exact ⟨rfl, ⟨rfl, ⟨rfl, trivial⟩⟩⟩
  · have h := h.2 hc
    refine wp_aload_n (pc := 13) d_X12_aSet_13 rfl ?_
    obtain ⟨ho1, h⟩ := h
    refine wp_getI (pc := 14) d_X12_aSet_14 fl_X12_311 (fun _ _ _ => rfl) ho1 ?_
    refine wp_if_ne (pc := 17) (tgt := 157) d_X12_aSet_17 (by decide) (fun hc => ?_) (fun hc => ?_)
    · have h := h.1 hc
      refine wp_sub ?_ h
      exact ⟨rfl, ⟨rfl, ⟨rfl, trivial⟩⟩⟩
    · have h := h.2 hc
      refine wp_aload_n (pc := 20) d_X12_aSet_20 rfl ?_
      refine wp_invV (pc := 21) (N := M_X12_isMinus) (As := []) (rest := []) (r := (cn_12, ct_12, 95)) d_X12_aSet_21 ml_X12_350 mk_X12_isMinus mv_X12_isMinus h0 ho1 rfl rfl (Nat.le_of_ble_eq_true rfl) ?_
      refine wpM.mono h (fun rr G3 hr => ?_)
      obtain ⟨r2, rfl, h⟩ := hr
      show wp E d M_X12_aSet 24 [some (vr _), some (vi _), some (vi _), none, none, none] [vi _] G3 Q
      refine wp_istore_n (pc := 24) (lv' := [some (vr _), some (vi _), some (vi _), some (vi _), none, none]) d_X12_aSet_24 (by decide) rfl ?_
      refine wp_iload_n (pc := 25) d_X12_aSet_25 rfl ?_
      refine wp_if_eq (pc := 26) (tgt := 37) d_X12_aSet_26 (by decide) (fun hc => ?_) (fun hc => ?_)
      · have h := h.1 hc
        refine wp_aload_n (pc := 37) d_X12_aSet_37 rfl ?_
        obtain ⟨ho4, h⟩ := h
        refine wp_getI (pc := 38) d_X12_aSet_38 fl_X12_305 (fun _ _ _ => rfl) ho4 ?_
        refine wp_sub ?_ h
        exact ⟨rfl, ⟨rfl, ⟨rfl, ⟨rfl, trivial⟩⟩⟩⟩
      · have h := h.2 hc
        refine wp_aload_n (pc := 29) d_X12_aSet_29 rfl ?_
        obtain ⟨ho5, h⟩ := h
        refine wp_getI (pc := 30) d_X12_aSet_30 fl_X12_305 (fun _ _ _ => rfl) ho5 ?_
        refine wp_ineg (pc := 33) d_X12_aSet_33 ?_
        refine wp_goto (pc := 34) (tgt := 41) d_X12_aSet_34 (by decide) ?_
        refine wp_sub ?_ h
        exact ⟨rfl, ⟨rfl, ⟨rfl, ⟨rfl, trivial⟩⟩⟩⟩
theorem v_X12_aSet_41 {E : EE} {d : Nat} {Q : Option AV → AH → Prop} {x0 : Nat} {x1 : Int32} {x2 : Int32} {x3 : Int32} {t0 : Int32} {G : AH} (h : isO E G x0 12 ∧ ((¬ (gI G x0 45) = 0 → wp E d M_X12_aSet 103 [some (vr x0), some (vi x1), some (vi x2), some (vi x3), some (vi t0), none] [] G Q) ∧ ((gI G x0 45) = 0 → (¬ (gI G x0 41) = 2 → wp E d M_X12_aSet 103 [some (vr x0), some (vi x1), some (vi x2), some (vi x3), some (vi t0), none] [] G Q) ∧ ((gI G x0 41) = 2 → (99 < (gI G x0 42) → wp E d M_X12_aSet 103 [some (vr x0), some (vi x1), some (vi x2), some (vi x3), some (vi t0), none] [] G Q) ∧ (¬ (99 < (gI G x0 42)) → wp E d M_X12_aSet 70 [some (vr x0), some (vi x1), some (vi x2), some (vi x3), some (vi t0), some (vi 0)] [] G Q))))) : wp E d M_X12_aSet 41 [some (vr x0), some (vi x1), some (vi x2), some (vi x3), none, none] [vi t0] G Q := by
  refine wp_istore (pc := 41) (lv' := [some (vr _), some (vi _), some (vi _), some (vi _), some (vi _), none]) d_X12_aSet_41 (by decide) rfl ?_
  refine wp_aload_n (pc := 43) d_X12_aSet_43 rfl ?_
  obtain ⟨ho1, h⟩ := h
  refine wp_getI (pc := 44) d_X12_aSet_44 fl_X12_311 (fun _ _ _ => rfl) ho1 ?_
  refine wp_if_ne (pc := 47) (tgt := 103) d_X12_aSet_47 (by decide) (fun hc => ?_) (fun hc => ?_)
  · have h := h.1 hc
    refine wp_sub ?_ h
    exact ⟨rfl, ⟨rfl, ⟨rfl, ⟨rfl, ⟨rfl, trivial⟩⟩⟩⟩⟩
  · have h := h.2 hc
    refine wp_aload_n (pc := 50) d_X12_aSet_50 rfl ?_
    refine wp_getI (pc := 51) d_X12_aSet_51 fl_X12_292 (fun _ _ _ => rfl) ho1 ?_
    refine wp_iconst (pc := 54) (v := 2) d_X12_aSet_54 rfl ?_
    refine wp_icmp_ne (pc := 55) (tgt := 103) d_X12_aSet_55 (by decide) (fun hc => ?_) (fun hc => ?_)
    · have h := h.1 hc
      refine wp_sub ?_ h
      exact ⟨rfl, ⟨rfl, ⟨rfl, ⟨rfl, ⟨rfl, trivial⟩⟩⟩⟩⟩
    · have h := h.2 hc
      refine wp_aload_n (pc := 58) d_X12_aSet_58 rfl ?_
      refine wp_getI (pc := 59) d_X12_aSet_59 fl_X12_305 (fun _ _ _ => rfl) ho1 ?_
      refine wp_bipush (pc := 62) (v := 99) d_X12_aSet_62 rfl ?_
      refine wp_icmp_gt (pc := 64) (tgt := 103) d_X12_aSet_64 (by decide) (fun hc => ?_) (fun hc => ?_)
      · have h := h.1 hc
        refine wp_sub ?_ h
        exact ⟨rfl, ⟨rfl, ⟨rfl, ⟨rfl, ⟨rfl, trivial⟩⟩⟩⟩⟩
      · have h := h.2 hc
        refine wp_iconst (pc := 67) (v := 0) d_X12_aSet_67 rfl ?_
        refine wp_istore (pc := 68) (lv' := [some (vr _), some (vi _), some (vi _), some (vi _), some (vi _), some (vi _)]) d_X12_aSet_68 (by decide) rfl ?_
        refine wp_sub ?_ h
        exact ⟨rfl, ⟨rfl, ⟨rfl, ⟨rfl, ⟨rfl, ⟨rfl, trivial⟩⟩⟩⟩⟩⟩
theorem v_X12_aSet_70 {E : EE} {d : Nat} {Q : Option AV → AH → Prop} {x0 : Nat} {x1 : Int32} {x2 : Int32} {x3 : Int32} {x4 : Int32} {x5 : Int32} {G : AH} (h0 : 0 < d) (h : (x1 ≤ x5 → wp E d M_X12_aSet 103 [some (vr x0), some (vi x1), some (vi x2), some (vi x3), some (vi x4), none] [] G Q) ∧ (¬ (x1 ≤ x5) → isO E G x0 12 ∧ (isO E G (gR G x0 49) 14 ∧ (vp_in x5 (gN G (gR G x0 49)) ∧ ((¬ (gI G (gR G x0 49) (Int32.toNatClampNeg x5)) = x4 → wp E d M_X12_aSet 97 [some (vr x0), some (vi x1), some (vi x2), some (vi x3), some (vi x4), some (vi x5)] [] G Q) ∧ ((gI G (gR G x0 49) (Int32.toNatClampNeg x5)) = x4 → wpV E (d - 1) M_X12_fail [vr x0, vi 5, vi (gI G x0 43)] G (fun G4 => wp E d M_X12_aSet 97 [some (vr x0), some (vi x1), some (vi x2), some (vi x3), some (vi x4), some (vi x5)] [] G4 Q))))))) : wp E d M_X12_aSet 70 [some (vr x0), some (vi x1), some (vi x2), some (vi x3), some (vi x4), some (vi x5)] [] G Q := by
  refine wp_iload (pc := 70) d_X12_aSet_70 rfl ?_
  refine wp_iload_n (pc := 72) d_X12_aSet_72 rfl ?_
  refine wp_icmp_ge (pc := 73) (tgt := 103) d_X12_aSet_73 (by decide) (fun hc => ?_) (fun hc => ?_)
  · have h := h.1 hc
    refine wp_sub ?_ h
    exact ⟨rfl, ⟨rfl, ⟨rfl, ⟨rfl, ⟨rfl, trivial⟩⟩⟩⟩⟩
  · have h := h.2 hc
    refine wp_aload_n (pc := 76) d_X12_aSet_76 rfl ?_
    obtain ⟨ho1, h⟩ := h
    refine wp_getR (pc := 77) d_X12_aSet_77 fl_X12_118 (fun _ _ _ => rfl) ho1 ?_
    refine wp_iload (pc := 80) d_X12_aSet_80 rfl ?_
    obtain ⟨ho2, h⟩ := h
    obtain ⟨hi3, h⟩ := h
    refine wp_iald (pc := 82) d_X12_aSet_82 ho2 hi3 ?_
    refine wp_iload (pc := 83) d_X12_aSet_83 rfl ?_
    refine wp_icmp_ne (pc := 85) (tgt := 97) d_X12_aSet_85 (by decide) (fun hc => ?_) (fun hc => ?_)
    · have h := h.1 hc
      refine wp_sub ?_ h
      exact ⟨rfl, ⟨rfl, ⟨rfl, ⟨rfl, ⟨rfl, ⟨rfl, trivial⟩⟩⟩⟩⟩⟩
    · have h := h.2 hc
      refine wp_aload_n (pc := 88) d_X12_aSet_88 rfl ?_
      refine wp_iconst (pc := 89) (v := 5) d_X12_aSet_89 rfl ?_
      refine wp_aload_n (pc := 90) d_X12_aSet_90 rfl ?_
      refine wp_getI (pc := 91) d_X12_aSet_91 fl_X12_241 (fun _ _ _ => rfl) ho1 ?_
      refine wp_invV (pc := 94) (N := M_X12_fail) (As := [vi _, vi _]) (rest := []) (r := (cn_12, ct_12, 95)) d_X12_aSet_94 ml_X12_317 mk_X12_fail mv_X12_fail h0 ho1 rfl rfl (Nat.le_of_ble_eq_true rfl) ?_
      refine wpM.mono h (fun rr G4 hr => ?_)
      obtain ⟨rfl, h⟩ := hr
      show wp E d M_X12_aSet 97 [some (vr _), some (vi _), some (vi _), some (vi _), some (vi _), some (vi _)] [] G4 Q
      refine wp_sub ?_ h
      exact ⟨rfl, ⟨rfl, ⟨rfl, ⟨rfl, ⟨rfl, ⟨rfl, trivial⟩⟩⟩⟩⟩⟩
theorem v_X12_aSet_97 {E : EE} {d : Nat} {Q : Option AV → AH → Prop} {x0 : Nat} {x1 : Int32} {x2 : Int32} {x3 : Int32} {x4 : Int32} {x5 : Int32} {G : AH} (h : wp E d M_X12_aSet 70 [some (vr x0), some (vi x1), some (vi x2), some (vi x3), some (vi x4), some (vi (x5 + 1))] [] G Q) : wp E d M_X12_aSet 97 [some (vr x0), some (vi x1), some (vi x2), some (vi x3), some (vi x4), some (vi x5)] [] G Q := by
  refine wp_iinc (pc := 97) (v := 1) (lv' := [some (vr _), some (vi _), some (vi _), some (vi _), some (vi _), some (vi _)]) d_X12_aSet_97 (by decide) rfl rfl rfl ?_
  refine wp_goto (pc := 100) (tgt := 70) d_X12_aSet_100 (by decide) ?_
  refine wp_sub ?_ h
  exact ⟨rfl, ⟨rfl, ⟨rfl, ⟨rfl, ⟨rfl, ⟨rfl, trivial⟩⟩⟩⟩⟩⟩
theorem v_X12_aSet_103 {E : EE} {d : Nat} {Q : Option AV → AH → Prop} {x0 : Nat} {x1 : Int32} {x2 : Int32} {x3 : Int32} {x4 : Int32} {G : AH} (h0 : 0 < d) (h : isO E G x0 12 ∧ (wpI E (d - 1) M_X12_aNumber [vr x0, vi 0, vi 99] G (fun r1 G2 => isO E G2 x0 12 ∧ ((¬ (gI G2 x0 45) = 0 → wp E d M_X12_aSet 154 [some (vr x0), some (vi x1), some (vi x2), some (vi x3), some (vi x4), some (vi r1)] [] G2 Q) ∧ ((gI G2 x0 45) = 0 → isO E G2 (gR G2 x0 49) 14 ∧ (vp_in x1 (gN G2 (gR G2 x0 49)) ∧ ((¬ (gI (sI G2 (gR G2 x0 49) (Int32.toNatClampNeg x1) x4) x0 41) = 44 → wp E d M_X12_aSet 144 [some (vr x0), some (vi (x1 + 1)), some (vi x2), some (vi x3), some (vi x4), some (vi r1)] [vi 0] (sI G2 (gR G2 x0 49) (Int32.toNatClampNeg x1) x4) Q) ∧ ((gI (sI G2 (gR G2 x0 49) (Int32.toNatClampNeg x1) x4) x0 41) = 44 → wp E d M_X12_aSet 144 [some (vr x0), some (vi (x1 + 1)), some (vi x2), some (vi x3), some (vi x4), some (vi r1)] [vi 1] (sI G2 (gR G2 x0 49) (Int32.toNatClampNeg x1) x4) Q)))))))) : wp E d M_X12_aSet 103 [some (vr x0), some (vi x1), some (vi x2), some (vi x3), some (vi x4), none] [] G Q := by
  refine wp_aload_n (pc := 103) d_X12_aSet_103 rfl ?_
  refine wp_iconst (pc := 104) (v := 0) d_X12_aSet_104 rfl ?_
  refine wp_bipush (pc := 105) (v := 99) d_X12_aSet_105 rfl ?_
  obtain ⟨ho6, h⟩ := h
  refine wp_invV (pc := 107) (N := M_X12_aNumber) (As := [vi _, vi _]) (rest := []) (r := (cn_12, ct_12, 95)) d_X12_aSet_107 ml_X12_354 mk_X12_aNumber mv_X12_aNumber h0 ho6 rfl rfl (Nat.le_of_ble_eq_true rfl) ?_
  refine wpM.mono h (fun rr G2 hr => ?_)
  obtain ⟨r1, rfl, h⟩ := hr
  show wp E d M_X12_aSet 110 [some (vr _), some (vi _), some (vi _), some (vi _), some (vi _), none] [vi _] G2 Q
  refine wp_istore (pc := 110) (lv' := [some (vr _), some (vi _), some (vi _), some (vi _), some (vi _), some (vi _)]) d_X12_aSet_110 (by decide) rfl ?_
  refine wp_aload_n (pc := 112) d_X12_aSet_112 rfl ?_
  obtain ⟨ho3, h⟩ := h
  refine wp_getI (pc := 113) d_X12_aSet_113 fl_X12_311 (fun _ _ _ => rfl) ho3 ?_
  refine wp_if_ne (pc := 116) (tgt := 154) d_X12_aSet_116 (by decide) (fun hc => ?_) (fun hc => ?_)
  · have h := h.1 hc
    refine wp_sub ?_ h
    exact ⟨rfl, ⟨rfl, ⟨rfl, ⟨rfl, ⟨rfl, ⟨rfl, trivial⟩⟩⟩⟩⟩⟩
  · have h := h.2 hc
    refine wp_aload_n (pc := 119) d_X12_aSet_119 rfl ?_
    refine wp_getR (pc := 120) d_X12_aSet_120 fl_X12_118 (fun _ _ _ => rfl) ho3 ?_
    refine wp_iload_n (pc := 123) d_X12_aSet_123 rfl ?_
    refine wp_iload (pc := 124) d_X12_aSet_124 rfl ?_
    obtain ⟨ho4, h⟩ := h
    obtain ⟨hi5, h⟩ := h
    refine wp_iast (pc := 126) d_X12_aSet_126 ho4 hi5 ?_
    refine wp_iinc (pc := 127) (v := 1) (lv' := [some (vr _), some (vi _), some (vi _), some (vi _), some (vi _), some (vi _)]) d_X12_aSet_127 (by decide) rfl rfl rfl ?_
    refine wp_aload_n (pc := 130) d_X12_aSet_130 rfl ?_
    refine wp_getI (pc := 131) d_X12_aSet_131 fl_X12_292 (fun _ _ _ => rfl) ho3 ?_
    refine wp_bipush (pc := 134) (v := 44) d_X12_aSet_134 rfl ?_
    refine wp_icmp_ne (pc := 136) (tgt := 143) d_X12_aSet_136 (by decide) (fun hc => ?_) (fun hc => ?_)
    · have h := h.1 hc
      refine wp_iconst (pc := 143) (v := 0) d_X12_aSet_143 rfl ?_
      refine wp_sub ?_ h
      exact ⟨rfl, ⟨rfl, ⟨rfl, ⟨rfl, ⟨rfl, ⟨rfl, trivial⟩⟩⟩⟩⟩⟩
    · have h := h.2 hc
      refine wp_iconst (pc := 139) (v := 1) d_X12_aSet_139 rfl ?_
      refine wp_goto (pc := 140) (tgt := 144) d_X12_aSet_140 (by decide) ?_
      refine wp_sub ?_ h
      exact ⟨rfl, ⟨rfl, ⟨rfl, ⟨rfl, ⟨rfl, ⟨rfl, trivial⟩⟩⟩⟩⟩⟩
theorem v_X12_aSet_144 {E : EE} {d : Nat} {Q : Option AV → AH → Prop} {x0 : Nat} {x1 : Int32} {x2 : Int32} {x3 : Int32} {x4 : Int32} {x5 : Int32} {t0 : Int32} {G : AH} (h0 : 0 < d) (h : (t0 = 0 → wp E d M_X12_aSet 154 [some (vr x0), some (vi x1), some (vi t0), some (vi x3), some (vi x4), some (vi x5)] [] G Q) ∧ (¬ (t0 = 0) → isO E G x0 12 ∧ (wpV E (d - 1) M_X12_keep [vr x0, vi 0] G (fun G1 => wp E d M_X12_aSet 154 [some (vr x0), some (vi x1), some (vi t0), some (vi x3), some (vi x4), some (vi x5)] [] G1 Q)))) : wp E d M_X12_aSet 144 [some (vr x0), some (vi x1), some (vi x2), some (vi x3), some (vi x4), some (vi x5)] [vi t0] G Q := by
  refine wp_istore_n (pc := 144) (lv' := [some (vr _), some (vi _), some (vi _), some (vi _), some (vi _), some (vi _)]) d_X12_aSet_144 (by decide) rfl ?_
  refine wp_iload_n (pc := 145) d_X12_aSet_145 rfl ?_
  refine wp_if_eq (pc := 146) (tgt := 154) d_X12_aSet_146 (by decide) (fun hc => ?_) (fun hc => ?_)
  · have h := h.1 hc
    refine wp_sub ?_ h
    exact ⟨rfl, ⟨rfl, ⟨rfl, ⟨rfl, ⟨rfl, ⟨rfl, trivial⟩⟩⟩⟩⟩⟩
  · have h := h.2 hc
    refine wp_aload_n (pc := 149) d_X12_aSet_149 rfl ?_
    refine wp_iconst (pc := 150) (v := 0) d_X12_aSet_150 rfl ?_
    obtain ⟨ho2, h⟩ := h
    refine wp_invV (pc := 151) (N := M_X12_keep) (As := [vi _]) (rest := []) (r := (cn_12, ct_12, 95)) d_X12_aSet_151 ml_X12_330 mk_X12_keep mv_X12_keep h0 ho2 rfl rfl (Nat.le_of_ble_eq_true rfl) ?_
    refine wpM.mono h (fun rr G1 hr => ?_)
    obtain ⟨rfl, h⟩ := hr
    show wp E d M_X12_aSet 154 [some (vr _), some (vi _), some (vi _), some (vi _), some (vi _), some (vi _)] [] G1 Q
    refine wp_sub ?_ h
    exact ⟨rfl, ⟨rfl, ⟨rfl, ⟨rfl, ⟨rfl, ⟨rfl, trivial⟩⟩⟩⟩⟩⟩
theorem v_X12_aSet_154 {E : EE} {d : Nat} {Q : Option AV → AH → Prop} {x0 : Nat} {x1 : Int32} {x2 : Int32} {x3 : Int32} {x4 : Int32} {x5 : Int32} {G : AH} (h : wp E d M_X12_aSet 9 [some (vr x0), some (vi x1), some (vi x2), none, none, none] [] G Q) : wp E d M_X12_aSet 154 [some (vr x0), some (vi x1), some (vi x2), some (vi x3), some (vi x4), some (vi x5)] [] G Q := by
  refine wp_goto (pc := 154) (tgt := 9) d_X12_aSet_154 (by decide) ?_
  refine wp_sub ?_ h
  exact ⟨rfl, ⟨rfl, ⟨rfl, trivial⟩⟩⟩
theorem v_X12_aSet_157 {E : EE} {d : Nat} {Q : Option AV → AH → Prop} {x0 : Nat} {x1 : Int32} {x2 : Int32} {G : AH} (h0 : 0 < d) (h : isO E G x0 12 ∧ (wpV E (d - 1) M_X12_need [vr x0, vi 125] G (fun G1 => Q (some (vi x1)) G1))) : wp E d M_X12_aSet 157 [some (vr x0), some (vi x1), some (vi x2), none, none, none] [] G Q := by
  refine wp_aload_n (pc := 157) d_X12_aSet_157 rfl ?_
  refine wp_bipush (pc := 158) (v := 125) d_X12_aSet_158 rfl ?_
  obtain ⟨ho2, h⟩ := h
  refine wp_invV (pc := 160) (N := M_X12_need) (As := [vi _]) (rest := []) (r := (cn_12, ct_12, 95)) d_X12_aSet_160 ml_X12_373 mk_X12_need mv_X12_need h0 ho2 rfl rfl (Nat.le_of_ble_eq_true rfl) ?_
  refine wpM.mono h (fun rr G1 hr => ?_)
  obtain ⟨rfl, h⟩ := hr
  show wp E d M_X12_aSet 163 [some (vr _), some (vi _), some (vi _), none, none, none] [] G1 Q
  refine wp_iload_n (pc := 163) d_X12_aSet_163 rfl ?_
  exact wp_iret (pc := 164) d_X12_aSet_164 rfl h
theorem d_X12_aRange_0 : decode prog_14_method_29_code 0 = .ok (.aload_n 0, 1) := by decide +kernel
theorem d_X12_aRange_1 : decode prog_14_method_29_code 1 = .ok (.bipush 99, 2) := by decide +kernel
theorem d_X12_aRange_3 : decode prog_14_method_29_code 3 = .ok (.invokevirtual 376, 3) := by decide +kernel
theorem d_X12_aRange_6 : decode prog_14_method_29_code 6 = .ok (.istore_n 1, 1) := by decide +kernel
theorem d_X12_aRange_7 : decode prog_14_method_29_code 7 = .ok (.aload_n 0, 1) := by decide +kernel
theorem d_X12_aRange_8 : decode prog_14_method_29_code 8 = .ok (.sipush 202, 3) := by decide +kernel
theorem d_X12_aRange_11 : decode prog_14_method_29_code 11 = .ok (.invokevirtual 373, 3) := by decide +kernel
theorem d_X12_aRange_14 : decode prog_14_method_29_code 14 = .ok (.aload_n 0, 1) := by decide +kernel
theorem d_X12_aRange_15 : decode prog_14_method_29_code 15 = .ok (.invokevirtual 350, 3) := by decide +kernel
theorem d_X12_aRange_18 : decode prog_14_method_29_code 18 = .ok (.istore_n 2, 1) := by decide +kernel
theorem d_X12_aRange_19 : decode prog_14_method_29_code 19 = .ok (.aload_n 0, 1) := by decide +kernel
theorem d_X12_aRange_20 : decode prog_14_method_29_code 20 = .ok (.getfield 311, 3) := by decide +kernel
theorem d_X12_aRange_23 : decode prog_14_method_29_code 23 = .ok (.ifCond .eq 5, 3) := by decide +kernel
theorem d_X12_aRange_26 : decode prog_14_method_29_code 26 = .ok (.iconst 0, 1) := by decide +kernel
theorem d_X12_aRange_27 : decode prog_14_method_29_code 27 = .ok (.ireturn, 1) := by decide +kernel
theorem d_X12_aRange_28 : decode prog_14_method_29_code 28 = .ok (.iload_n 2, 1) := by decide +kernel
theorem d_X12_aRange_29 : decode prog_14_method_29_code 29 = .ok (.ifCond .eq 11, 3) := by decide +kernel
theorem d_X12_aRange_32 : decode prog_14_method_29_code 32 = .ok (.aload_n 0, 1) := by decide +kernel
theorem d_X12_aRange_33 : decode prog_14_method_29_code 33 = .ok (.getfield 305, 3) := by decide +kernel
theorem d_X12_aRange_36 : decode prog_14_method_29_code 36 = .ok (.ineg, 1) := by decide +kernel
theorem d_X12_aRange_37 : decode prog_14_method_29_code 37 = .ok (.goto 7, 3) := by decide +kernel
theorem d_X12_aRange_40 : decode prog_14_method_29_code 40 = .ok (.aload_n 0, 1) := by decide +kernel
theorem d_X12_aRange_41 : decode prog_14_method_29_code 41 = .ok (.getfield 305, 3) := by decide +kernel
theorem d_X12_aRange_44 : decode prog_14_method_29_code 44 = .ok (.istore_n 3, 1) := by decide +kernel
theorem d_X12_aRange_45 : decode prog_14_method_29_code 45 = .ok (.aload_n 0, 1) := by decide +kernel
theorem d_X12_aRange_46 : decode prog_14_method_29_code 46 = .ok (.getfield 292, 3) := by decide +kernel
theorem d_X12_aRange_49 : decode prog_14_method_29_code 49 = .ok (.iconst 2, 1) := by decide +kernel
theorem d_X12_aRange_50 : decode prog_14_method_29_code 50 = .ok (.if_icmp .ne 26, 3) := by decide +kernel
theorem d_X12_aRange_53 : decode prog_14_method_29_code 53 = .ok (.aload_n 0, 1) := by decide +kernel
theorem d_X12_aRange_54 : decode prog_14_method_29_code 54 = .ok (.getfield 305, 3) := by decide +kernel
theorem d_X12_aRange_57 : decode prog_14_method_29_code 57 = .ok (.bipush 99, 2) := by decide +kernel
theorem d_X12_aRange_59 : decode prog_14_method_29_code 59 = .ok (.if_icmp .gt 17, 3) := by decide +kernel
theorem d_X12_aRange_62 : decode prog_14_method_29_code 62 = .ok (.iload_n 3, 1) := by decide +kernel
theorem d_X12_aRange_63 : decode prog_14_method_29_code 63 = .ok (.iload_n 1, 1) := by decide +kernel
theorem d_X12_aRange_64 : decode prog_14_method_29_code 64 = .ok (.if_icmp .ge 12, 3) := by decide +kernel
theorem d_X12_aRange_67 : decode prog_14_method_29_code 67 = .ok (.aload_n 0, 1) := by decide +kernel
theorem d_X12_aRange_68 : decode prog_14_method_29_code 68 = .ok (.iconst 5, 1) := by decide +kernel
theorem d_X12_aRange_69 : decode prog_14_method_29_code 69 = .ok (.aload_n 0, 1) := by decide +kernel
theorem d_X12_aRange_70 : decode prog_14_method_29_code 70 = .ok (.getfield 241, 3) := by decide +kernel
theorem d_X12_aRange_73 : decode prog_14_method_29_code 73 = .ok (.invokevirtual 317, 3) := by decide +kernel
theorem d_X12_aRange_76 : decode prog_14_method_29_code 76 = .ok (.aload_n 0, 1) := by decide +kernel
theorem d_X12_aRange_77 : decode prog_14_method_29_code 77 = .ok (.iconst 0, 1) := by decide +kernel
theorem d_X12_aRange_78 : decode prog_14_method_29_code 78 = .ok (.bipush 99, 2) := by decide +kernel
theorem d_X12_aRange_80 : decode prog_14_method_29_code 80 = .ok (.invokevirtual 354, 3) := by decide +kernel
theorem d_X12_aRange_83 : decode prog_14_method_29_code 83 = .ok (.istore 4, 2) := by decide +kernel
theorem d_X12_aRange_85 : decode prog_14_method_29_code 85 = .ok (.iconst 0, 1) := by decide +kernel
theorem d_X12_aRange_86 : decode prog_14_method_29_code 86 = .ok (.istore 5, 2) := by decide +kernel
theorem d_X12_aRange_88 : decode prog_14_method_29_code 88 = .ok (.aload_n 0, 1) := by decide +kernel
theorem d_X12_aRange_89 : decode prog_14_method_29_code 89 = .ok (.getfield 311, 3) := by decide +kernel
theorem d_X12_aRange_92 : decode prog_14_method_29_code 92 = .ok (.ifCond .ne 28, 3) := by decide +kernel
theorem d_X12_aRange_95 : decode prog_14_method_29_code 95 = .ok (.iload 5, 2) := by decide +kernel
theorem d_X12_aRange_97 : decode prog_14_method_29_code 97 = .ok (.iload_n 3, 1) := by decide +kernel
theorem d_X12_aRange_98 : decode prog_14_method_29_code 98 = .ok (.iload_n 1, 1) := by decide +kernel
theorem d_X12_aRange_99 : decode prog_14_method_29_code 99 = .ok (.isub, 1) := by decide +kernel
theorem d_X12_aRange_100 : decode prog_14_method_29_code 100 = .ok (.if_icmp .gt 20, 3) := by decide +kernel
theorem d_X12_aRange_103 : decode prog_14_method_29_code 103 = .ok (.aload_n 0, 1) := by decide +kernel
theorem d_X12_aRange_104 : decode prog_14_method_29_code 104 = .ok (.getfield 118, 3) := by decide +kernel
theorem d_X12_aRange_107 : decode prog_14_method_29_code 107 = .ok (.iload 5, 2) := by decide +kernel
theorem d_X12_aRange_109 : decode prog_14_method_29_code 109 = .ok (.iload_n 1, 1) := by decide +kernel
theorem d_X12_aRange_110 : decode prog_14_method_29_code 110 = .ok (.iload 5, 2) := by decide +kernel
theorem d_X12_aRange_112 : decode prog_14_method_29_code 112 = .ok (.iadd, 1) := by decide +kernel
theorem d_X12_aRange_113 : decode prog_14_method_29_code 113 = .ok (.iastore, 1) := by decide +kernel
theorem d_X12_aRange_114 : decode prog_14_method_29_code 114 = .ok (.iinc 5 1, 3) := by decide +kernel
theorem d_X12_aRange_117 : decode prog_14_method_29_code 117 = .ok (.goto (-29), 3) := by decide +kernel
theorem d_X12_aRange_120 : decode prog_14_method_29_code 120 = .ok (.iload_n 3, 1) := by decide +kernel
theorem d_X12_aRange_121 : decode prog_14_method_29_code 121 = .ok (.iload_n 1, 1) := by decide +kernel
theorem d_X12_aRange_122 : decode prog_14_method_29_code 122 = .ok (.isub, 1) := by decide +kernel
theorem d_X12_aRange_123 : decode prog_14_method_29_code 123 = .ok (.iconst 1, 1) := by decide +kernel
theorem d_X12_aRange_124 : decode prog_14_method_29_code 124 = .ok (.iadd, 1) := by decide +kernel
theorem d_X12_aRange_125 : decode prog_14_method_29_code 125 = .ok (.ireturn, 1) := by decide +kernel
theorem v_X12_aRange_0 {E : EE} {d : Nat} {Q : Option AV → AH → Prop} {x0 : Nat} {G : AH} (h0 : 0 < d) (h : isO E G x0 12 ∧ (wpI E (d - 1) M_X12_anInt [vr x0, vi 99] G (fun r1 G2 => isO E G2 x0 12 ∧ (wpV E (d - 1) M_X12_need [vr x0, vi 202] G2 (fun G3 => isO E G3 x0 12 ∧ (wpI E (d - 1) M_X12_isMinus [vr x0] G3 (fun r4 G5 => isO E G5 x0 12 ∧ (((gI G5 x0 45) = 0 → (r4 = 0 → wp E d M_X12_aRange 44 [some (vr x0), some (vi r1), some (vi r4), none, none, none] [vi (gI G5 x0 42)] G5 Q) ∧ (¬ (r4 = 0) → wp E d M_X12_aRange 44 [some (vr x0), some (vi r1), some (vi r4), none, none, none] [vi (-(gI G5 x0 42))] G5 Q)) ∧ (¬ ((gI G5 x0 45) = 0) → Q (some (vi 0)) G5))))))))) : wp E d M_X12_aRange 0 [some (vr x0), none, none, none, none, none] [] G Q := by
  refine wp_aload_n (pc := 0) d_X12_aRange_0 rfl ?_
  refine wp_bipush (pc := 1) (v := 99) d_X12_aRange_1 rfl ?_
  obtain ⟨ho9, h⟩ := h
  refine wp_invV (pc := 3) (N := M_X12_anInt) (As := [vi _]) (rest := []) (r := (cn_12, ct_12, 95)) d_X12_aRange_3 ml_X12_376 mk_X12_anInt mv_X12_anInt h0 ho9 rfl rfl (Nat.le_of_ble_eq_true rfl) ?_
  refine wpM.mono h (fun rr G2 hr => ?_)
  obtain ⟨r1, rfl, h⟩ := hr
  show wp E d M_X12_aRange 6 [some (vr _), none, none, none, none, none] [vi _] G2 Q
  refine wp_istore_n (pc := 6) (lv' := [some (vr _), some (vi _), none, none, none, none]) d_X12_aRange_6 (by decide) rfl ?_
  refine wp_aload_n (pc := 7) d_X12_aRange_7 rfl ?_
  refine wp_sipush (pc := 8) (v := 202) d_X12_aRange_8 rfl ?_
  obtain ⟨ho8, h⟩ := h
  refine wp_invV (pc := 11) (N := M_X12_need) (As := [vi _]) (rest := []) (r := (cn_12, ct_12, 95)) d_X12_aRange_11 ml_X12_373 mk_X12_need mv_X12_need h0 ho8 rfl rfl (Nat.le_of_ble_eq_true rfl) ?_
  refine wpM.mono h (fun rr G3 hr => ?_)
  obtain ⟨rfl, h⟩ := hr
  show wp E d M_X12_aRange 14 [some (vr _), some (vi _), none, none, none, none] [] G3 Q
  refine wp_aload_n (pc := 14) d_X12_aRange_14 rfl ?_
  obtain ⟨ho7, h⟩ := h
  refine wp_invV (pc := 15) (N := M_X12_isMinus) (As := []) (rest := []) (r := (cn_12, ct_12, 95)) d_X12_aRange_15 ml_X12_350 mk_X12_isMinus mv_X12_isMinus h0 ho7 rfl rfl (Nat.le_of_ble_eq_true rfl) ?_
  refine wpM.mono h (fun rr G5 hr => ?_)
  obtain ⟨r4, rfl, h⟩ := hr
  show wp E d M_X12_aRange 18 [some (vr _), some (vi _), none, none, none, none] [vi _] G5 Q
  refine wp_istore_n (pc := 18) (lv' := [some (vr _), some (vi _), some (vi _), none, none, none]) d_X12_aRange_18 (by decide) rfl ?_
  refine wp_aload_n (pc := 19) d_X12_aRange_19 rfl ?_
  obtain ⟨ho6, h⟩ := h
  refine wp_getI (pc := 20) d_X12_aRange_20 fl_X12_311 (fun _ _ _ => rfl) ho6 ?_
  refine wp_if_eq (pc := 23) (tgt := 28) d_X12_aRange_23 (by decide) (fun hc => ?_) (fun hc => ?_)
  · have h := h.1 hc
    refine wp_iload_n (pc := 28) d_X12_aRange_28 rfl ?_
    refine wp_if_eq (pc := 29) (tgt := 40) d_X12_aRange_29 (by decide) (fun hc => ?_) (fun hc => ?_)
    · have h := h.1 hc
      refine wp_aload_n (pc := 40) d_X12_aRange_40 rfl ?_
      refine wp_getI (pc := 41) d_X12_aRange_41 fl_X12_305 (fun _ _ _ => rfl) ho6 ?_
      refine wp_sub ?_ h
      exact ⟨rfl, ⟨rfl, ⟨rfl, trivial⟩⟩⟩
    · have h := h.2 hc
      refine wp_aload_n (pc := 32) d_X12_aRange_32 rfl ?_
      refine wp_getI (pc := 33) d_X12_aRange_33 fl_X12_305 (fun _ _ _ => rfl) ho6 ?_
      refine wp_ineg (pc := 36) d_X12_aRange_36 ?_
      refine wp_goto (pc := 37) (tgt := 44) d_X12_aRange_37 (by decide) ?_
      refine wp_sub ?_ h
      exact ⟨rfl, ⟨rfl, ⟨rfl, trivial⟩⟩⟩
  · have h := h.2 hc
    refine wp_iconst (pc := 26) (v := 0) d_X12_aRange_26 rfl ?_
    exact wp_iret (pc := 27) d_X12_aRange_27 rfl h
theorem v_X12_aRange_44 {E : EE} {d : Nat} {Q : Option AV → AH → Prop} {x0 : Nat} {x1 : Int32} {x2 : Int32} {t0 : Int32} {G : AH} (h0 : 0 < d) (h : isO E G x0 12 ∧ ((¬ (gI G x0 41) = 2 → wp E d M_X12_aRange 76 [some (vr x0), some (vi x1), some (vi x2), some (vi t0), none, none] [] G Q) ∧ ((gI G x0 41) = 2 → (99 < (gI G x0 42) → wp E d M_X12_aRange 76 [some (vr x0), some (vi x1), some (vi x2), some (vi t0), none, none] [] G Q) ∧ (¬ (99 < (gI G x0 42)) → (x1 ≤ t0 → wp E d M_X12_aRange 76 [some (vr x0), some (vi x1), some (vi x2), some (vi t0), none, none] [] G Q) ∧ (¬ (x1 ≤ t0) → wpV E (d - 1) M_X12_fail [vr x0, vi 5, vi (gI G x0 43)] G (fun G2 => wp E d M_X12_aRange 76 [some (vr x0), some (vi x1), some (vi x2), some (vi t0), none, none] [] G2 Q)))))) : wp E d M_X12_aRange 44 [some (vr x0), some (vi x1), some (vi x2), none, none, none] [vi t0] G Q := by
  refine wp_istore_n (pc := 44) (lv' := [some (vr _), some (vi _), some (vi _), some (vi _), none, none]) d_X12_aRange_44 (by decide) rfl ?_
  refine wp_aload_n (pc := 45) d_X12_aRange_45 rfl ?_
  obtain ⟨ho1, h⟩ := h
  refine wp_getI (pc := 46) d_X12_aRange_46 fl_X12_292 (fun _ _ _ => rfl) ho1 ?_
  refine wp_iconst (pc := 49) (v := 2) d_X12_aRange_49 rfl ?_
  refine wp_icmp_ne (pc := 50) (tgt := 76) d_X12_aRange_50 (by decide) (fun hc => ?_) (fun hc => ?_)
  · have h := h.1 hc
    refine wp_sub ?_ h
    exact ⟨rfl, ⟨rfl, ⟨rfl, ⟨rfl, trivial⟩⟩⟩⟩
  · have h := h.2 hc
    refine wp_aload_n (pc := 53) d_X12_aRange_53 rfl ?_
    refine wp_getI (pc := 54) d_X12_aRange_54 fl_X12_305 (fun _ _ _ => rfl) ho1 ?_
    refine wp_bipush (pc := 57) (v := 99) d_X12_aRange_57 rfl ?_
    refine wp_icmp_gt (pc := 59) (tgt := 76) d_X12_aRange_59 (by decide) (fun hc => ?_) (fun hc => ?_)
    · have h := h.1 hc
      refine wp_sub ?_ h
      exact ⟨rfl, ⟨rfl, ⟨rfl, ⟨rfl, trivial⟩⟩⟩⟩
    · have h := h.2 hc
      refine wp_iload_n (pc := 62) d_X12_aRange_62 rfl ?_
      refine wp_iload_n (pc := 63) d_X12_aRange_63 rfl ?_
      refine wp_icmp_ge (pc := 64) (tgt := 76) d_X12_aRange_64 (by decide) (fun hc => ?_) (fun hc => ?_)
      · have h := h.1 hc
        refine wp_sub ?_ h
        exact ⟨rfl, ⟨rfl, ⟨rfl, ⟨rfl, trivial⟩⟩⟩⟩
      · have h := h.2 hc
        refine wp_aload_n (pc := 67) d_X12_aRange_67 rfl ?_
        refine wp_iconst (pc := 68) (v := 5) d_X12_aRange_68 rfl ?_
        refine wp_aload_n (pc := 69) d_X12_aRange_69 rfl ?_
        refine wp_getI (pc := 70) d_X12_aRange_70 fl_X12_241 (fun _ _ _ => rfl) ho1 ?_
        refine wp_invV (pc := 73) (N := M_X12_fail) (As := [vi _, vi _]) (rest := []) (r := (cn_12, ct_12, 95)) d_X12_aRange_73 ml_X12_317 mk_X12_fail mv_X12_fail h0 ho1 rfl rfl (Nat.le_of_ble_eq_true rfl) ?_
        refine wpM.mono h (fun rr G2 hr => ?_)
        obtain ⟨rfl, h⟩ := hr
        show wp E d M_X12_aRange 76 [some (vr _), some (vi _), some (vi _), some (vi _), none, none] [] G2 Q
        refine wp_sub ?_ h
        exact ⟨rfl, ⟨rfl, ⟨rfl, ⟨rfl, trivial⟩⟩⟩⟩
theorem v_X12_aRange_76 {E : EE} {d : Nat} {Q : Option AV → AH → Prop} {x0 : Nat} {x1 : Int32} {x2 : Int32} {x3 : Int32} {G : AH} (h0 : 0 < d) (h : isO E G x0 12 ∧ (wpI E (d - 1) M_X12_aNumber [vr x0, vi 0, vi 99] G (fun r1 G2 => wp E d M_X12_aRange 88 [some (vr x0), some (vi x1), some (vi x2), some (vi x3), some (vi r1), some (vi 0)] [] G2 Q))) : wp E d M_X12_aRange 76 [some (vr x0), some (vi x1), some (vi x2), some (vi x3), none, none] [] G Q := by
  refine wp_aload_n (pc := 76) d_X12_aRange_76 rfl ?_
  refine wp_iconst (pc := 77) (v := 0) d_X12_aRange_77 rfl ?_
  refine wp_bipush (pc := 78) (v := 99) d_X12_aRange_78 rfl ?_
  obtain ⟨ho3, h⟩ := h
  refine wp_invV (pc := 80) (N := M_X12_aNumber) (As := [vi _, vi _]) (rest := []) (r := (cn_12, ct_12, 95)) d_X12_aRange_80 ml_X12_354 mk_X12_aNumber mv_X12_aNumber h0 ho3 rfl rfl (Nat.le_of_ble_eq_true rfl) ?_
  refine wpM.mono h (fun rr G2 hr => ?_)
  obtain ⟨r1, rfl, h⟩ := hr
  show wp E d M_X12_aRange 83 [some (vr _), some (vi _), some (vi _), some (vi _), none, none] [vi _] G2 Q
  refine wp_istore (pc := 83) (lv' := [some (vr _), some (vi _), some (vi _), some (vi _), some (vi _), none]) d_X12_aRange_83 (by decide) rfl ?_
  refine wp_iconst (pc := 85) (v := 0) d_X12_aRange_85 rfl ?_
  refine wp_istore (pc := 86) (lv' := [some (vr _), some (vi _), some (vi _), some (vi _), some (vi _), some (vi _)]) d_X12_aRange_86 (by decide) rfl ?_
  refine wp_sub ?_ h
  exact ⟨rfl, ⟨rfl, ⟨rfl, ⟨rfl, ⟨rfl, ⟨rfl, trivial⟩⟩⟩⟩⟩⟩
theorem v_X12_aRange_88 {E : EE} {d : Nat} {Q : Option AV → AH → Prop} {x0 : Nat} {x1 : Int32} {x2 : Int32} {x3 : Int32} {x4 : Int32} {x5 : Int32} {G : AH} (h : isO E G x0 12 ∧ ((¬ (gI G x0 45) = 0 → wp E d M_X12_aRange 120 [some (vr x0), some (vi x1), some (vi x2), some (vi x3), some (vi x4), some (vi x5)] [] G Q) ∧ ((gI G x0 45) = 0 → ((x3 - x1) < x5 → wp E d M_X12_aRange 120 [some (vr x0), some (vi x1), some (vi x2), some (vi x3), some (vi x4), some (vi x5)] [] G Q) ∧ (¬ ((x3 - x1) < x5) → isO E G (gR G x0 49) 14 ∧ (vp_in x5 (gN G (gR G x0 49)) ∧ (wp E d M_X12_aRange 88 [some (vr x0), some (vi x1), some (vi x2), some (vi x3), some (vi x4), some (vi (x5 + 1))] [] (sI G (gR G x0 49) (Int32.toNatClampNeg x5) (x1 + x5)) Q)))))) : wp E d M_X12_aRange 88 [some (vr x0), some (vi x1), some (vi x2), some (vi x3), some (vi x4), some (vi x5)] [] G Q := by
  refine wp_aload_n (pc := 88) d_X12_aRange_88 rfl ?_
  obtain ⟨ho1, h⟩ := h
  refine wp_getI (pc := 89) d_X12_aRange_89 fl_X12_311 (fun _ _ _ => rfl) ho1 ?_
  refine wp_if_ne (pc := 92) (tgt := 120) d_X12_aRange_92 (by decide) (fun hc => ?_) (fun hc => ?_)
  · have h := h.1 hc
    refine wp_sub ?_ h
    exact ⟨rfl, ⟨rfl, ⟨rfl, ⟨rfl, ⟨rfl, ⟨rfl, trivial⟩⟩⟩⟩⟩⟩
  · have h := h.2 hc
    refine wp_iload (pc := 95) d_X12_aRange_95 rfl ?_
    refine wp_iload_n (pc := 97) d_X12_aRange_97 rfl ?_
    refine wp_iload_n (pc := 98) d_X12_aRange_98 rfl ?_
    refine wp_isub (pc := 99) d_X12_aRange_99 ?_
    refine wp_icmp_gt (pc := 100) (tgt := 120) d_X12_aRange_100 (by decide) (fun hc => ?_) (fun hc => ?_)
    · have h := h.1 hc
      refine wp_sub ?_ h
      exact ⟨rfl, ⟨rfl, ⟨rfl, ⟨rfl, ⟨rfl, ⟨rfl, trivial⟩⟩⟩⟩⟩⟩
    · have h := h.2 hc
      refine wp_aload_n (pc := 103) d_X12_aRange_103 rfl ?_
      refine wp_getR (pc := 104) d_X12_aRange_104 fl_X12_118 (fun _ _ _ => rfl) ho1 ?_
      refine wp_iload (pc := 107) d_X12_aRange_107 rfl ?_
      refine wp_iload_n (pc := 109) d_X12_aRange_109 rfl ?_
      refine wp_iload (pc := 110) d_X12_aRange_110 rfl ?_
      refine wp_iadd (pc := 112) d_X12_aRange_112 ?_
      obtain ⟨ho2, h⟩ := h
      obtain ⟨hi3, h⟩ := h
      refine wp_iast (pc := 113) d_X12_aRange_113 ho2 hi3 ?_
      refine wp_iinc (pc := 114) (v := 1) (lv' := [some (vr _), some (vi _), some (vi _), some (vi _), some (vi _), some (vi _)]) d_X12_aRange_114 (by decide) rfl rfl rfl ?_
      refine wp_goto (pc := 117) (tgt := 88) d_X12_aRange_117 (by decide) ?_
      refine wp_sub ?_ h
      exact ⟨rfl, ⟨rfl, ⟨rfl, ⟨rfl, ⟨rfl, ⟨rfl, trivial⟩⟩⟩⟩⟩⟩
theorem v_X12_aRange_120 {E : EE} {d : Nat} {Q : Option AV → AH → Prop} {x0 : Nat} {x1 : Int32} {x2 : Int32} {x3 : Int32} {x4 : Int32} {x5 : Int32} {G : AH} (h : Q (some (vi ((x3 - x1) + 1))) G) : wp E d M_X12_aRange 120 [some (vr x0), some (vi x1), some (vi x2), some (vi x3), some (vi x4), some (vi x5)] [] G Q := by
  refine wp_iload_n (pc := 120) d_X12_aRange_120 rfl ?_
  refine wp_iload_n (pc := 121) d_X12_aRange_121 rfl ?_
  refine wp_isub (pc := 122) d_X12_aRange_122 ?_
  refine wp_iconst (pc := 123) (v := 1) d_X12_aRange_123 rfl ?_
  refine wp_iadd (pc := 124) d_X12_aRange_124 ?_
  exact wp_iret (pc := 125) d_X12_aRange_125 rfl h
theorem d_X12_factStatement_0 : decode prog_14_method_27_code 0 = .ok (.aload_n 0, 1) := by decide +kernel
theorem d_X12_factStatement_1 : decode prog_14_method_27_code 1 = .ok (.iconst 0, 1) := by decide +kernel
theorem d_X12_factStatement_2 : decode prog_14_method_27_code 2 = .ok (.bipush 16, 2) := by decide +kernel
theorem d_X12_factStatement_4 : decode prog_14_method_27_code 4 = .ok (.invokevirtual 370, 3) := by decide +kernel
theorem d_X12_factStatement_7 : decode prog_14_method_27_code 7 = .ok (.aload_n 0, 1) := by decide +kernel
theorem d_X12_factStatement_8 : decode prog_14_method_27_code 8 = .ok (.bipush 61, 2) := by decide +kernel
theorem d_X12_factStatement_10 : decode prog_14_method_27_code 10 = .ok (.invokevirtual 373, 3) := by decide +kernel
theorem d_X12_factStatement_13 : decode prog_14_method_27_code 13 = .ok (.aload_n 0, 1) := by decide +kernel
theorem d_X12_factStatement_14 : decode prog_14_method_27_code 14 = .ok (.sipush 9999, 3) := by decide +kernel
theorem d_X12_factStatement_17 : decode prog_14_method_27_code 17 = .ok (.invokevirtual 376, 3) := by decide +kernel
theorem d_X12_factStatement_20 : decode prog_14_method_27_code 20 = .ok (.istore_n 1, 1) := by decide +kernel
theorem d_X12_factStatement_21 : decode prog_14_method_27_code 21 = .ok (.aload_n 0, 1) := by decide +kernel
theorem d_X12_factStatement_22 : decode prog_14_method_27_code 22 = .ok (.bipush 59, 2) := by decide +kernel
theorem d_X12_factStatement_24 : decode prog_14_method_27_code 24 = .ok (.invokevirtual 373, 3) := by decide +kernel
theorem d_X12_factStatement_27 : decode prog_14_method_27_code 27 = .ok (.aload_n 0, 1) := by decide +kernel
theorem d_X12_factStatement_28 : decode prog_14_method_27_code 28 = .ok (.getfield 311, 3) := by decide +kernel
theorem d_X12_factStatement_31 : decode prog_14_method_27_code 31 = .ok (.ifCond .ne 22, 3) := by decide +kernel
theorem d_X12_factStatement_34 : decode prog_14_method_27_code 34 = .ok (.aload_n 0, 1) := by decide +kernel
theorem d_X12_factStatement_35 : decode prog_14_method_27_code 35 = .ok (.getfield 61, 3) := by decide +kernel
theorem d_X12_factStatement_38 : decode prog_14_method_27_code 38 = .ok (.bipush 16, 2) := by decide +kernel
theorem d_X12_factStatement_40 : decode prog_14_method_27_code 40 = .ok (.aload_n 0, 1) := by decide +kernel
theorem d_X12_factStatement_41 : decode prog_14_method_27_code 41 = .ok (.getfield 321, 3) := by decide +kernel
theorem d_X12_factStatement_44 : decode prog_14_method_27_code 44 = .ok (.imul, 1) := by decide +kernel
theorem d_X12_factStatement_45 : decode prog_14_method_27_code 45 = .ok (.aload_n 0, 1) := by decide +kernel
theorem d_X12_factStatement_46 : decode prog_14_method_27_code 46 = .ok (.iconst 0, 1) := by decide +kernel
theorem d_X12_factStatement_47 : decode prog_14_method_27_code 47 = .ok (.invokevirtual 379, 3) := by decide +kernel
theorem d_X12_factStatement_50 : decode prog_14_method_27_code 50 = .ok (.iadd, 1) := by decide +kernel
theorem d_X12_factStatement_51 : decode prog_14_method_27_code 51 = .ok (.iload_n 1, 1) := by decide +kernel
theorem d_X12_factStatement_52 : decode prog_14_method_27_code 52 = .ok (.iastore, 1) := by decide +kernel
theorem d_X12_factStatement_53 : decode prog_14_method_27_code 53 = .ok (.return_, 1) := by decide +kernel
theorem v_X12_factStatement_0 {E : EE} {d : Nat} {Q : Option AV → AH → Prop} {x0 : Nat} {G : AH} (h0 : 0 < d) (h : isO E G x0 12 ∧ (wpV E (d - 1) M_X12_newName [vr x0, vi 0, vi 16] G (fun G1 => isO E G1 x0 12 ∧ (wpV E (d - 1) M_X12_need [vr x0, vi 61] G1 (fun G2 => isO E G2 x0 12 ∧ (wpI E (d - 1) M_X12_anInt [vr x0, vi 9999] G2 (fun r3 G4 => isO E G4 x0 12 ∧ (wpV E (d - 1) M_X12_need [vr x0, vi 59] G4 (fun G5 => isO E G5 x0 12 ∧ ((¬ (gI G5 x0 45) = 0 → Q none G5) ∧ ((gI G5 x0 45) = 0 → wpI E (d - 1) M_X12_tell [vr x0, vi 0] G5 (fun r7 G8 => isO E G8 (gR G5 x0 18) 14 ∧ (vp_in ((16 * (gI G5 x0 47)) + r7) (gN G8 (gR G5 x0 18)) ∧ (Q none (sI G8 (gR G5 x0 18) (Int32.toNatClampNeg ((16 * (gI G5 x0 47)) + r7)) r3))))))))))))))) : wp E d M_X12_factStatement 0 [some (vr x0), none] [] G Q := by
  refine wp_aload_n (pc := 0) d_X12_factStatement_0 rfl ?_
  refine wp_iconst (pc := 1) (v := 0) d_X12_factStatement_1 rfl ?_
  refine wp_bipush (pc := 2) (v := 16) d_X12_factStatement_2 rfl ?_
  obtain ⟨ho14, h⟩ := h
  refine wp_invV (pc := 4) (N := M_X12_newName) (As := [vi _, vi _]) (rest := []) (r := (cn_12, ct_12, 95)) d_X12_factStatement_4 ml_X12_370 mk_X12_newName mv_X12_newName h0 ho14 rfl rfl (Nat.le_of_ble_eq_true rfl) ?_
  refine wpM.mono h (fun rr G1 hr => ?_)
  obtain ⟨rfl, h⟩ := hr
  show wp E d M_X12_factStatement 7 [some (vr _), none] [] G1 Q
  refine wp_aload_n (pc := 7) d_X12_factStatement_7 rfl ?_
  refine wp_bipush (pc := 8) (v := 61) d_X12_factStatement_8 rfl ?_
  obtain ⟨ho13, h⟩ := h
  refine wp_invV (pc := 10) (N := M_X12_need) (As := [vi _]) (rest := []) (r := (cn_12, ct_12, 95)) d_X12_factStatement_10 ml_X12_373 mk_X12_need mv_X12_need h0 ho13 rfl rfl (Nat.le_of_ble_eq_true rfl) ?_
  refine wpM.mono h (fun rr G2 hr => ?_)
  obtain ⟨rfl, h⟩ := hr
  show wp E d M_X12_factStatement 13 [some (vr _), none] [] G2 Q
  refine wp_aload_n (pc := 13) d_X12_factStatement_13 rfl ?_
  refine wp_sipush (pc := 14) (v := 9999) d_X12_factStatement_14 rfl ?_
  obtain ⟨ho12, h⟩ := h
  refine wp_invV (pc := 17) (N := M_X12_anInt) (As := [vi _]) (rest := []) (r := (cn_12, ct_12, 95)) d_X12_factStatement_17 ml_X12_376 mk_X12_anInt mv_X12_anInt h0 ho12 rfl rfl (Nat.le_of_ble_eq_true rfl) ?_
  refine wpM.mono h (fun rr G4 hr => ?_)
  obtain ⟨r3, rfl, h⟩ := hr
  show wp E d M_X12_factStatement 20 [some (vr _), none] [vi _] G4 Q
  refine wp_istore_n (pc := 20) (lv' := [some (vr _), some (vi _)]) d_X12_factStatement_20 (by decide) rfl ?_
  refine wp_aload_n (pc := 21) d_X12_factStatement_21 rfl ?_
  refine wp_bipush (pc := 22) (v := 59) d_X12_factStatement_22 rfl ?_
  obtain ⟨ho11, h⟩ := h
  refine wp_invV (pc := 24) (N := M_X12_need) (As := [vi _]) (rest := []) (r := (cn_12, ct_12, 95)) d_X12_factStatement_24 ml_X12_373 mk_X12_need mv_X12_need h0 ho11 rfl rfl (Nat.le_of_ble_eq_true rfl) ?_
  refine wpM.mono h (fun rr G5 hr => ?_)
  obtain ⟨rfl, h⟩ := hr
  show wp E d M_X12_factStatement 27 [some (vr _), some (vi _)] [] G5 Q
  refine wp_aload_n (pc := 27) d_X12_factStatement_27 rfl ?_
  obtain ⟨ho6, h⟩ := h
  refine wp_getI (pc := 28) d_X12_factStatement_28 fl_X12_311 (fun _ _ _ => rfl) ho6 ?_
  refine wp_if_ne (pc := 31) (tgt := 53) d_X12_factStatement_31 (by decide) (fun hc => ?_) (fun hc => ?_)
  · have h := h.1 hc
    exact wp_vret (pc := 53) d_X12_factStatement_53 rfl h
  · have h := h.2 hc
    refine wp_aload_n (pc := 34) d_X12_factStatement_34 rfl ?_
    refine wp_getR (pc := 35) d_X12_factStatement_35 fl_X12_61 (fun _ _ _ => rfl) ho6 ?_
    refine wp_bipush (pc := 38) (v := 16) d_X12_factStatement_38 rfl ?_
    refine wp_aload_n (pc := 40) d_X12_factStatement_40 rfl ?_
    refine wp_getI (pc := 41) d_X12_factStatement_41 fl_X12_321 (fun _ _ _ => rfl) ho6 ?_
    refine wp_imul (pc := 44) d_X12_factStatement_44 ?_
    refine wp_aload_n (pc := 45) d_X12_factStatement_45 rfl ?_
    refine wp_iconst (pc := 46) (v := 0) d_X12_factStatement_46 rfl ?_
    refine wp_invV (pc := 47) (N := M_X12_tell) (As := [vi _]) (rest := [vi _, vr _]) (r := (cn_12, ct_12, 95)) d_X12_factStatement_47 ml_X12_379 mk_X12_tell mv_X12_tell h0 ho6 rfl rfl (Nat.le_of_ble_eq_true rfl) ?_
    refine wpM.mono h (fun rr G8 hr => ?_)
    obtain ⟨r7, rfl, h⟩ := hr
    show wp E d M_X12_factStatement 50 [some (vr _), some (vi _)] [vi _, vi _, vr _] G8 Q
    refine wp_iadd (pc := 50) d_X12_factStatement_50 ?_
    refine wp_iload_n (pc := 51) d_X12_factStatement_51 rfl ?_
    obtain ⟨ho9, h⟩ := h
    obtain ⟨hi10, h⟩ := h
    refine wp_iast (pc := 52) d_X12_factStatement_52 ho9 hi10 ?_
    exact wp_vret (pc := 53) d_X12_factStatement_53 rfl h
theorem d_X12_needOf_0 : decode prog_14_method_172_code 0 = .ok (.iconst 3, 1) := by decide +kernel
theorem d_X12_needOf_1 : decode prog_14_method_172_code 1 = .ok (.aload_n 0, 1) := by decide +kernel
theorem d_X12_needOf_2 : decode prog_14_method_172_code 2 = .ok (.getfield 27, 3) := by decide +kernel
theorem d_X12_needOf_5 : decode prog_14_method_172_code 5 = .ok (.iload_n 1, 1) := by decide +kernel
theorem d_X12_needOf_6 : decode prog_14_method_172_code 6 = .ok (.iaload, 1) := by decide +kernel
theorem d_X12_needOf_7 : decode prog_14_method_172_code 7 = .ok (.iadd, 1) := by decide +kernel
theorem d_X12_needOf_8 : decode prog_14_method_172_code 8 = .ok (.iconst 4, 1) := by decide +kernel
theorem d_X12_needOf_9 : decode prog_14_method_172_code 9 = .ok (.aload_n 0, 1) := by decide +kernel
theorem d_X12_needOf_10 : decode prog_14_method_172_code 10 = .ok (.getfield 58, 3) := by decide +kernel
theorem d_X12_needOf_13 : decode prog_14_method_172_code 13 = .ok (.iconst 4, 1) := by decide +kernel
theorem d_X12_needOf_14 : decode prog_14_method_172_code 14 = .ok (.iload_n 1, 1) := by decide +kernel
theorem d_X12_needOf_15 : decode prog_14_method_172_code 15 = .ok (.imul, 1) := by decide +kernel
theorem d_X12_needOf_16 : decode prog_14_method_172_code 16 = .ok (.iaload, 1) := by decide +kernel
theorem d_X12_needOf_17 : decode prog_14_method_172_code 17 = .ok (.imul, 1) := by decide +kernel
theorem d_X12_needOf_18 : decode prog_14_method_172_code 18 = .ok (.iadd, 1) := by decide +kernel
theorem d_X12_needOf_19 : decode prog_14_method_172_code 19 = .ok (.iconst 3, 1) := by decide +kernel
theorem d_X12_needOf_20 : decode prog_14_method_172_code 20 = .ok (.aload_n 0, 1) := by decide +kernel
theorem d_X12_needOf_21 : decode prog_14_method_172_code 21 = .ok (.iload_n 1, 1) := by decide +kernel
theorem d_X12_needOf_22 : decode prog_14_method_172_code 22 = .ok (.invokevirtual 456, 3) := by decide +kernel
theorem d_X12_needOf_25 : decode prog_14_method_172_code 25 = .ok (.imul, 1) := by decide +kernel
theorem d_X12_needOf_26 : decode prog_14_method_172_code 26 = .ok (.iadd, 1) := by decide +kernel
theorem d_X12_needOf_27 : decode prog_14_method_172_code 27 = .ok (.iconst 2, 1) := by decide +kernel
theorem d_X12_needOf_28 : decode prog_14_method_172_code 28 = .ok (.iadd, 1) := by decide +kernel
theorem d_X12_needOf_29 : decode prog_14_method_172_code 29 = .ok (.bipush 8, 2) := by decide +kernel
theorem d_X12_needOf_31 : decode prog_14_method_172_code 31 = .ok (.iadd, 1) := by decide +kernel
theorem d_X12_needOf_32 : decode prog_14_method_172_code 32 = .ok (.ireturn, 1) := by decide +kernel
theorem v_X12_needOf_0 {E : EE} {d : Nat} {Q : Option AV → AH → Prop} {x0 : Nat} {x1 : Int32} {G : AH} (h0 : 0 < d) (h : isO E G x0 12 ∧ (isO E G (gR G x0 7) 14 ∧ (vp_in x1 (gN G (gR G x0 7)) ∧ (isO E G (gR G x0 17) 14 ∧ (vp_in (4 * x1) (gN G (gR G x0 17)) ∧ (wpI E (d - 1) M_X12_vars [vr x0, vi x1] G (fun r6 G7 => Q (some (vi (((((3 + (gI G (gR G x0 7) (Int32.toNatClampNeg x1))) + (4 * (gI G (gR G x0 17) (Int32.toNatClampNeg (4 * x1))))) + (3 * r6)) + 2) + 8))) G7))))))) : wp E d M_X12_needOf 0 [some (vr x0), some (vi x1)] [] G Q := by
  refine wp_iconst (pc := 0) (v := 3) d_X12_needOf_0 rfl ?_
  refine wp_aload_n (pc := 1) d_X12_needOf_1 rfl ?_
  obtain ⟨ho1, h⟩ := h
  refine wp_getR (pc := 2) d_X12_needOf_2 fl_X12_27 (fun _ _ _ => rfl) ho1 ?_
  refine wp_iload_n (pc := 5) d_X12_needOf_5 rfl ?_
  obtain ⟨ho2, h⟩ := h
  obtain ⟨hi3, h⟩ := h
  refine wp_iald (pc := 6) d_X12_needOf_6 ho2 hi3 ?_
  refine wp_iadd (pc := 7) d_X12_needOf_7 ?_
  refine wp_iconst (pc := 8) (v := 4) d_X12_needOf_8 rfl ?_
  refine wp_aload_n (pc := 9) d_X12_needOf_9 rfl ?_
  refine wp_getR (pc := 10) d_X12_needOf_10 fl_X12_58 (fun _ _ _ => rfl) ho1 ?_
  refine wp_iconst (pc := 13) (v := 4) d_X12_needOf_13 rfl ?_
  refine wp_iload_n (pc := 14) d_X12_needOf_14 rfl ?_
  refine wp_imul (pc := 15) d_X12_needOf_15 ?_
  obtain ⟨ho4, h⟩ := h
  obtain ⟨hi5, h⟩ := h
  refine wp_iald (pc := 16) d_X12_needOf_16 ho4 hi5 ?_
  refine wp_imul (pc := 17) d_X12_needOf_17 ?_
  refine wp_iadd (pc := 18) d_X12_needOf_18 ?_
  refine wp_iconst (pc := 19) (v := 3) d_X12_needOf_19 rfl ?_
  refine wp_aload_n (pc := 20) d_X12_needOf_20 rfl ?_
  refine wp_iload_n (pc := 21) d_X12_needOf_21 rfl ?_
  refine wp_invV (pc := 22) (N := M_X12_vars) (As := [vi _]) (rest := [vi _, vi _]) (r := (cn_12, ct_12, 95)) d_X12_needOf_22 ml_X12_456 mk_X12_vars mv_X12_vars h0 ho1 rfl rfl (Nat.le_of_ble_eq_true rfl) ?_
  refine wpM.mono h (fun rr G7 hr => ?_)
  obtain ⟨r6, rfl, h⟩ := hr
  show wp E d M_X12_needOf 25 [some (vr _), some (vi _)] [vi _, vi _, vi _] G7 Q
  refine wp_imul (pc := 25) d_X12_needOf_25 ?_
  refine wp_iadd (pc := 26) d_X12_needOf_26 ?_
  refine wp_iconst (pc := 27) (v := 2) d_X12_needOf_27 rfl ?_
  refine wp_iadd (pc := 28) d_X12_needOf_28 ?_
  refine wp_bipush (pc := 29) (v := 8) d_X12_needOf_29 rfl ?_
  refine wp_iadd (pc := 31) d_X12_needOf_31 ?_
  exact wp_iret (pc := 32) d_X12_needOf_32 rfl h
theorem d_X12_vars_0 : decode prog_14_method_54_code 0 = .ok (.aload_n 0, 1) := by decide +kernel
theorem d_X12_vars_1 : decode prog_14_method_54_code 1 = .ok (.getfield 58, 3) := by decide +kernel
theorem d_X12_vars_4 : decode prog_14_method_54_code 4 = .ok (.iconst 4, 1) := by decide +kernel
theorem d_X12_vars_5 : decode prog_14_method_54_code 5 = .ok (.iload_n 1, 1) := by decide +kernel
theorem d_X12_vars_6 : decode prog_14_method_54_code 6 = .ok (.imul, 1) := by decide +kernel
theorem d_X12_vars_7 : decode prog_14_method_54_code 7 = .ok (.iconst 1, 1) := by decide +kernel
theorem d_X12_vars_8 : decode prog_14_method_54_code 8 = .ok (.iadd, 1) := by decide +kernel
theorem d_X12_vars_9 : decode prog_14_method_54_code 9 = .ok (.iaload, 1) := by decide +kernel
theorem d_X12_vars_10 : decode prog_14_method_54_code 10 = .ok (.ireturn, 1) := by decide +kernel
theorem v_X12_vars_0 {E : EE} {d : Nat} {Q : Option AV → AH → Prop} {x0 : Nat} {x1 : Int32} {G : AH} (h : isO E G x0 12 ∧ (isO E G (gR G x0 17) 14 ∧ (vp_in ((4 * x1) + 1) (gN G (gR G x0 17)) ∧ (Q (some (vi (gI G (gR G x0 17) (Int32.toNatClampNeg ((4 * x1) + 1))))) G)))) : wp E d M_X12_vars 0 [some (vr x0), some (vi x1)] [] G Q := by
  refine wp_aload_n (pc := 0) d_X12_vars_0 rfl ?_
  obtain ⟨ho1, h⟩ := h
  refine wp_getR (pc := 1) d_X12_vars_1 fl_X12_58 (fun _ _ _ => rfl) ho1 ?_
  refine wp_iconst (pc := 4) (v := 4) d_X12_vars_4 rfl ?_
  refine wp_iload_n (pc := 5) d_X12_vars_5 rfl ?_
  refine wp_imul (pc := 6) d_X12_vars_6 ?_
  refine wp_iconst (pc := 7) (v := 1) d_X12_vars_7 rfl ?_
  refine wp_iadd (pc := 8) d_X12_vars_8 ?_
  obtain ⟨ho2, h⟩ := h
  obtain ⟨hi3, h⟩ := h
  refine wp_iald (pc := 9) d_X12_vars_9 ho2 hi3 ?_
  exact wp_iret (pc := 10) d_X12_vars_10 rfl h
theorem d_X12_placeOf_0 : decode prog_14_method_102_code 0 = .ok (.iconst 0, 1) := by decide +kernel
theorem d_X12_placeOf_1 : decode prog_14_method_102_code 1 = .ok (.istore 4, 2) := by decide +kernel
theorem d_X12_placeOf_3 : decode prog_14_method_102_code 3 = .ok (.iload 4, 2) := by decide +kernel
theorem d_X12_placeOf_5 : decode prog_14_method_102_code 5 = .ok (.aload_n 0, 1) := by decide +kernel
theorem d_X12_placeOf_6 : decode prog_14_method_102_code 6 = .ok (.getfield 64, 3) := by decide +kernel
theorem d_X12_placeOf_9 : decode prog_14_method_102_code 9 = .ok (.bipush 12, 2) := by decide +kernel
theorem d_X12_placeOf_11 : decode prog_14_method_102_code 11 = .ok (.iload_n 1, 1) := by decide +kernel
theorem d_X12_placeOf_12 : decode prog_14_method_102_code 12 = .ok (.imul, 1) := by decide +kernel
theorem d_X12_placeOf_13 : decode prog_14_method_102_code 13 = .ok (.iload_n 2, 1) := by decide +kernel
theorem d_X12_placeOf_14 : decode prog_14_method_102_code 14 = .ok (.iadd, 1) := by decide +kernel
theorem d_X12_placeOf_15 : decode prog_14_method_102_code 15 = .ok (.iaload, 1) := by decide +kernel
theorem d_X12_placeOf_16 : decode prog_14_method_102_code 16 = .ok (.if_icmp .ge 33, 3) := by decide +kernel
theorem d_X12_placeOf_19 : decode prog_14_method_102_code 19 = .ok (.aload_n 0, 1) := by decide +kernel
theorem d_X12_placeOf_20 : decode prog_14_method_102_code 20 = .ok (.getfield 70, 3) := by decide +kernel
theorem d_X12_placeOf_23 : decode prog_14_method_102_code 23 = .ok (.bipush 20, 2) := by decide +kernel
theorem d_X12_placeOf_25 : decode prog_14_method_102_code 25 = .ok (.bipush 12, 2) := by decide +kernel
theorem d_X12_placeOf_27 : decode prog_14_method_102_code 27 = .ok (.iload_n 1, 1) := by decide +kernel
theorem d_X12_placeOf_28 : decode prog_14_method_102_code 28 = .ok (.imul, 1) := by decide +kernel
theorem d_X12_placeOf_29 : decode prog_14_method_102_code 29 = .ok (.iload_n 2, 1) := by decide +kernel
theorem d_X12_placeOf_30 : decode prog_14_method_102_code 30 = .ok (.iadd, 1) := by decide +kernel
theorem d_X12_placeOf_31 : decode prog_14_method_102_code 31 = .ok (.imul, 1) := by decide +kernel
theorem d_X12_placeOf_32 : decode prog_14_method_102_code 32 = .ok (.iload 4, 2) := by decide +kernel
theorem d_X12_placeOf_34 : decode prog_14_method_102_code 34 = .ok (.iadd, 1) := by decide +kernel
theorem d_X12_placeOf_35 : decode prog_14_method_102_code 35 = .ok (.iaload, 1) := by decide +kernel
theorem d_X12_placeOf_36 : decode prog_14_method_102_code 36 = .ok (.iload_n 3, 1) := by decide +kernel
theorem d_X12_placeOf_37 : decode prog_14_method_102_code 37 = .ok (.if_icmp .ne 6, 3) := by decide +kernel
theorem d_X12_placeOf_40 : decode prog_14_method_102_code 40 = .ok (.iload 4, 2) := by decide +kernel
theorem d_X12_placeOf_42 : decode prog_14_method_102_code 42 = .ok (.ireturn, 1) := by decide +kernel
theorem d_X12_placeOf_43 : decode prog_14_method_102_code 43 = .ok (.iinc 4 1, 3) := by decide +kernel
theorem d_X12_placeOf_46 : decode prog_14_method_102_code 46 = .ok (.goto (-43), 3) := by decide +kernel
theorem d_X12_placeOf_49 : decode prog_14_method_102_code 49 = .ok (.iconst (-1), 1) := by decide +kernel
theorem d_X12_placeOf_50 : decode prog_14_method_102_code 50 = .ok (.ireturn, 1) := by decide +kernel
theorem v_X12_placeOf_0 {E : EE} {d : Nat} {Q : Option AV → AH → Prop} {x0 : Nat} {x1 : Int32} {x2 : Int32} {x3 : Int32} {G : AH} (h : wp E d M_X12_placeOf 3 [some (vr x0), some (vi x1), some (vi x2), some (vi x3), some (vi 0)] [] G Q) : wp E d M_X12_placeOf 0 [some (vr x0), some (vi x1), some (vi x2), some (vi x3), none] [] G Q := by
  refine wp_iconst (pc := 0) (v := 0) d_X12_placeOf_0 rfl ?_
  refine wp_istore (pc := 1) (lv' := [some (vr _), some (vi _), some (vi _), some (vi _), some (vi _)]) d_X12_placeOf_1 (by decide) rfl ?_
  refine wp_sub ?_ h
  exact ⟨rfl, ⟨rfl, ⟨rfl, ⟨rfl, ⟨rfl, trivial⟩⟩⟩⟩⟩
theorem v_X12_placeOf_3 {E : EE} {d : Nat} {Q : Option AV → AH → Prop} {x0 : Nat} {x1 : Int32} {x2 : Int32} {x3 : Int32} {x4 : Int32} {G : AH} (h : isO E G x0 12 ∧ (isO E G (gR G x0 19) 14 ∧ (vp_in ((12 * x1) + x2) (gN G (gR G x0 19)) ∧ (((gI G (gR G x0 19) (Int32.toNatClampNeg ((12 * x1) + x2))) ≤ x4 → Q (some (vi (-1))) G) ∧ (¬ ((gI G (gR G x0 19) (Int32.toNatClampNeg ((12 * x1) + x2))) ≤ x4) → isO E G (gR G x0 21) 14 ∧ (vp_in ((20 * ((12 * x1) + x2)) + x4) (gN G (gR G x0 21)) ∧ ((¬ (gI G (gR G x0 21) (Int32.toNatClampNeg ((20 * ((12 * x1) + x2)) + x4))) = x3 → wp E d M_X12_placeOf 3 [some (vr x0), some (vi x1), some (vi x2), some (vi x3), some (vi (x4 + 1))] [] G Q) ∧ ((gI G (gR G x0 21) (Int32.toNatClampNeg ((20 * ((12 * x1) + x2)) + x4))) = x3 → Q (some (vi x4)) G)))))))) : wp E d M_X12_placeOf 3 [some (vr x0), some (vi x1), some (vi x2), some (vi x3), some (vi x4)] [] G Q := by
  refine wp_iload (pc := 3) d_X12_placeOf_3 rfl ?_
  refine wp_aload_n (pc := 5) d_X12_placeOf_5 rfl ?_
  obtain ⟨ho1, h⟩ := h
  refine wp_getR (pc := 6) d_X12_placeOf_6 fl_X12_64 (fun _ _ _ => rfl) ho1 ?_
  refine wp_bipush (pc := 9) (v := 12) d_X12_placeOf_9 rfl ?_
  refine wp_iload_n (pc := 11) d_X12_placeOf_11 rfl ?_
  refine wp_imul (pc := 12) d_X12_placeOf_12 ?_
  refine wp_iload_n (pc := 13) d_X12_placeOf_13 rfl ?_
  refine wp_iadd (pc := 14) d_X12_placeOf_14 ?_
  obtain ⟨ho2, h⟩ := h
  obtain ⟨hi3, h⟩ := h
  refine wp_iald (pc := 15) d_X12_placeOf_15 ho2 hi3 ?_
  refine wp_icmp_ge (pc := 16) (tgt := 49) d_X12_placeOf_16 (by decide) (fun hc => ?_) (fun hc => ?_)
  · have h := h.1 hc
    refine wp_iconst (pc := 49) (v := (-1)) d_X12_placeOf_49 rfl ?_
    exact wp_iret (pc := 50) d_X12_placeOf_50 rfl h
  · have h := h.2 hc
    refine wp_aload_n (pc := 19) d_X12_placeOf_19 rfl ?_
    refine wp_getR (pc := 20) d_X12_placeOf_20 fl_X12_70 (fun _ _ _ => rfl) ho1 ?_
    refine wp_bipush (pc := 23) (v := 20) d_X12_placeOf_23 rfl ?_
    refine wp_bipush (pc := 25) (v := 12) d_X12_placeOf_25 rfl ?_
    refine wp_iload_n (pc := 27) d_X12_placeOf_27 rfl ?_
    refine wp_imul (pc := 28) d_X12_placeOf_28 ?_
    refine wp_iload_n (pc := 29) d_X12_placeOf_29 rfl ?_
    refine wp_iadd (pc := 30) d_X12_placeOf_30 ?_
    refine wp_imul (pc := 31) d_X12_placeOf_31 ?_
    refine wp_iload (pc := 32) d_X12_placeOf_32 rfl ?_
    refine wp_iadd (pc := 34) d_X12_placeOf_34 ?_
    obtain ⟨ho4, h⟩ := h
    obtain ⟨hi5, h⟩ := h
    refine wp_iald (pc := 35) d_X12_placeOf_35 ho4 hi5 ?_
    refine wp_iload_n (pc := 36) d_X12_placeOf_36 rfl ?_
    refine wp_icmp_ne (pc := 37) (tgt := 43) d_X12_placeOf_37 (by decide) (fun hc => ?_) (fun hc => ?_)
    · have h := h.1 hc
      refine wp_iinc (pc := 43) (v := 1) (lv' := [some (vr _), some (vi _), some (vi _), some (vi _), some (vi _)]) d_X12_placeOf_43 (by decide) rfl rfl rfl ?_
      refine wp_goto (pc := 46) (tgt := 3) d_X12_placeOf_46 (by decide) ?_
      refine wp_sub ?_ h
      exact ⟨rfl, ⟨rfl, ⟨rfl, ⟨rfl, ⟨rfl, trivial⟩⟩⟩⟩⟩
    · have h := h.2 hc
      refine wp_iload (pc := 40) d_X12_placeOf_40 rfl ?_
      exact wp_iret (pc := 42) d_X12_placeOf_42 rfl h
theorem d_X12_take_0 : decode prog_14_method_182_code 0 = .ok (.aload_n 0, 1) := by decide +kernel
theorem d_X12_take_1 : decode prog_14_method_182_code 1 = .ok (.getfield 9, 3) := by decide +kernel
theorem d_X12_take_4 : decode prog_14_method_182_code 4 = .ok (.iconst 0, 1) := by decide +kernel
theorem d_X12_take_5 : decode prog_14_method_182_code 5 = .ok (.iconst 0, 1) := by decide +kernel
theorem d_X12_take_6 : decode prog_14_method_182_code 6 = .ok (.bastore, 1) := by decide +kernel
theorem d_X12_take_7 : decode prog_14_method_182_code 7 = .ok (.aload_n 0, 1) := by decide +kernel
theorem d_X12_take_8 : decode prog_14_method_182_code 8 = .ok (.getfield 9, 3) := by decide +kernel
theorem d_X12_take_11 : decode prog_14_method_182_code 11 = .ok (.iconst 1, 1) := by decide +kernel
theorem d_X12_take_12 : decode prog_14_method_182_code 12 = .ok (.aload_n 0, 1) := by decide +kernel
theorem d_X12_take_13 : decode prog_14_method_182_code 13 = .ok (.getfield 713, 3) := by decide +kernel
theorem d_X12_take_16 : decode prog_14_method_182_code 16 = .ok (.i2b, 1) := by decide +kernel
theorem d_X12_take_17 : decode prog_14_method_182_code 17 = .ok (.bastore, 1) := by decide +kernel
theorem d_X12_take_18 : decode prog_14_method_182_code 18 = .ok (.iconst 0, 1) := by decide +kernel
theorem d_X12_take_19 : decode prog_14_method_182_code 19 = .ok (.istore_n 1, 1) := by decide +kernel
theorem d_X12_take_20 : decode prog_14_method_182_code 20 = .ok (.iload_n 1, 1) := by decide +kernel
theorem d_X12_take_21 : decode prog_14_method_182_code 21 = .ok (.aload_n 0, 1) := by decide +kernel
theorem d_X12_take_22 : decode prog_14_method_182_code 22 = .ok (.getfield 708, 3) := by decide +kernel
theorem d_X12_take_25 : decode prog_14_method_182_code 25 = .ok (.if_icmp .ge 23, 3) := by decide +kernel
theorem d_X12_take_28 : decode prog_14_method_182_code 28 = .ok (.aload_n 0, 1) := by decide +kernel
theorem d_X12_take_29 : decode prog_14_method_182_code 29 = .ok (.getfield 9, 3) := by decide +kernel
theorem d_X12_take_32 : decode prog_14_method_182_code 32 = .ok (.iconst 2, 1) := by decide +kernel
theorem d_X12_take_33 : decode prog_14_method_182_code 33 = .ok (.iload_n 1, 1) := by decide +kernel
theorem d_X12_take_34 : decode prog_14_method_182_code 34 = .ok (.iadd, 1) := by decide +kernel
theorem d_X12_take_35 : decode prog_14_method_182_code 35 = .ok (.aload_n 0, 1) := by decide +kernel
theorem d_X12_take_36 : decode prog_14_method_182_code 36 = .ok (.getfield 205, 3) := by decide +kernel
theorem d_X12_take_39 : decode prog_14_method_182_code 39 = .ok (.iload_n 1, 1) := by decide +kernel
theorem d_X12_take_40 : decode prog_14_method_182_code 40 = .ok (.baload, 1) := by decide +kernel
theorem d_X12_take_41 : decode prog_14_method_182_code 41 = .ok (.bastore, 1) := by decide +kernel
theorem d_X12_take_42 : decode prog_14_method_182_code 42 = .ok (.iinc 1 1, 3) := by decide +kernel
theorem d_X12_take_45 : decode prog_14_method_182_code 45 = .ok (.goto (-25), 3) := by decide +kernel
theorem d_X12_take_48 : decode prog_14_method_182_code 48 = .ok (.aload_n 0, 1) := by decide +kernel
theorem d_X12_take_49 : decode prog_14_method_182_code 49 = .ok (.iconst 2, 1) := by decide +kernel
theorem d_X12_take_50 : decode prog_14_method_182_code 50 = .ok (.aload_n 0, 1) := by decide +kernel
theorem d_X12_take_51 : decode prog_14_method_182_code 51 = .ok (.getfield 708, 3) := by decide +kernel
theorem d_X12_take_54 : decode prog_14_method_182_code 54 = .ok (.iadd, 1) := by decide +kernel
theorem d_X12_take_55 : decode prog_14_method_182_code 55 = .ok (.putfield 217, 3) := by decide +kernel
theorem d_X12_take_58 : decode prog_14_method_182_code 58 = .ok (.lconst 0, 1) := by decide +kernel
theorem d_X12_take_59 : decode prog_14_method_182_code 59 = .ok (.lstore_n 1, 1) := by decide +kernel
theorem d_X12_take_60 : decode prog_14_method_182_code 60 = .ok (.iconst 0, 1) := by decide +kernel
theorem d_X12_take_61 : decode prog_14_method_182_code 61 = .ok (.istore_n 3, 1) := by decide +kernel
theorem d_X12_take_62 : decode prog_14_method_182_code 62 = .ok (.iload_n 3, 1) := by decide +kernel
theorem d_X12_take_63 : decode prog_14_method_182_code 63 = .ok (.aload_n 0, 1) := by decide +kernel
theorem d_X12_take_64 : decode prog_14_method_182_code 64 = .ok (.getfield 217, 3) := by decide +kernel
theorem d_X12_take_67 : decode prog_14_method_182_code 67 = .ok (.if_icmp .ge 20, 3) := by decide +kernel
theorem d_X12_take_70 : decode prog_14_method_182_code 70 = .ok (.lload_n 1, 1) := by decide +kernel
theorem d_X12_take_71 : decode prog_14_method_182_code 71 = .ok (.aload_n 0, 1) := by decide +kernel
theorem d_X12_take_72 : decode prog_14_method_182_code 72 = .ok (.getfield 9, 3) := by decide +kernel
theorem d_X12_take_75 : decode prog_14_method_182_code 75 = .ok (.iload_n 3, 1) := by decide +kernel
theorem d_X12_take_76 : decode prog_14_method_182_code 76 = .ok (.baload, 1) := by decide +kernel
theorem d_X12_take_77 : decode prog_14_method_182_code 77 = .ok (.invokestatic 725, 3) := by decide +kernel
theorem d_X12_take_80 : decode prog_14_method_182_code 80 = .ok (.lstore_n 1, 1) := by decide +kernel
theorem d_X12_take_81 : decode prog_14_method_182_code 81 = .ok (.iinc 3 1, 3) := by decide +kernel
theorem d_X12_take_84 : decode prog_14_method_182_code 84 = .ok (.goto (-22), 3) := by decide +kernel
theorem d_X12_take_87 : decode prog_14_method_182_code 87 = .ok (.bipush 7, 2) := by decide +kernel
theorem d_X12_take_89 : decode prog_14_method_182_code 89 = .ok (.istore_n 3, 1) := by decide +kernel
theorem d_X12_take_90 : decode prog_14_method_182_code 90 = .ok (.iload_n 3, 1) := by decide +kernel
theorem d_X12_take_91 : decode prog_14_method_182_code 91 = .ok (.ifCond .lt 36, 3) := by decide +kernel
theorem d_X12_take_94 : decode prog_14_method_182_code 94 = .ok (.aload_n 0, 1) := by decide +kernel
theorem d_X12_take_95 : decode prog_14_method_182_code 95 = .ok (.getfield 9, 3) := by decide +kernel
theorem d_X12_take_98 : decode prog_14_method_182_code 98 = .ok (.aload_n 0, 1) := by decide +kernel
theorem d_X12_take_99 : decode prog_14_method_182_code 99 = .ok (.getfield 217, 3) := by decide +kernel
theorem d_X12_take_102 : decode prog_14_method_182_code 102 = .ok (.lload_n 1, 1) := by decide +kernel
theorem d_X12_take_103 : decode prog_14_method_182_code 103 = .ok (.bipush 8, 2) := by decide +kernel
theorem d_X12_take_105 : decode prog_14_method_182_code 105 = .ok (.iload_n 3, 1) := by decide +kernel
theorem d_X12_take_106 : decode prog_14_method_182_code 106 = .ok (.imul, 1) := by decide +kernel
theorem d_X12_take_107 : decode prog_14_method_182_code 107 = .ok (.lshr, 1) := by decide +kernel
theorem d_X12_take_108 : decode prog_14_method_182_code 108 = .ok (.l2i, 1) := by decide +kernel
theorem d_X12_take_109 : decode prog_14_method_182_code 109 = .ok (.i2b, 1) := by decide +kernel
theorem d_X12_take_110 : decode prog_14_method_182_code 110 = .ok (.bastore, 1) := by decide +kernel
theorem d_X12_take_111 : decode prog_14_method_182_code 111 = .ok (.aload_n 0, 1) := by decide +kernel
theorem d_X12_take_112 : decode prog_14_method_182_code 112 = .ok (.dup, 1) := by decide +kernel
theorem d_X12_take_113 : decode prog_14_method_182_code 113 = .ok (.getfield 217, 3) := by decide +kernel
theorem d_X12_take_116 : decode prog_14_method_182_code 116 = .ok (.iconst 1, 1) := by decide +kernel
theorem d_X12_take_117 : decode prog_14_method_182_code 117 = .ok (.iadd, 1) := by decide +kernel
theorem d_X12_take_118 : decode prog_14_method_182_code 118 = .ok (.putfield 217, 3) := by decide +kernel
theorem d_X12_take_121 : decode prog_14_method_182_code 121 = .ok (.iinc 3 (-1), 3) := by decide +kernel
theorem d_X12_take_124 : decode prog_14_method_182_code 124 = .ok (.goto (-34), 3) := by decide +kernel
theorem d_X12_take_127 : decode prog_14_method_182_code 127 = .ok (.aload_n 0, 1) := by decide +kernel
theorem d_X12_take_128 : decode prog_14_method_182_code 128 = .ok (.getfield 217, 3) := by decide +kernel
theorem d_X12_take_131 : decode prog_14_method_182_code 131 = .ok (.ireturn, 1) := by decide +kernel
theorem v_X12_take_0 {E : EE} {d : Nat} {Q : Option AV → AH → Prop} {x0 : Nat} {G : AH} (h : isO E G x0 12 ∧ (isO E G (gR G x0 0) 13 ∧ (vp_in 0 (gN G (gR G x0 0)) ∧ (∀ G4 : AH, G4 = sI G (gR G x0 0) (Int32.toNatClampNeg 0) (i2b 0) → isO E G4 (gR G4 x0 0) 13 ∧ (vp_in 1 (gN G4 (gR G4 x0 0)) ∧ (∀ G8 : AH, G8 = sI G4 (gR G4 x0 0) (Int32.toNatClampNeg 1) (i2b (i2b (gI G4 x0 91))) → wp E d M_X12_take 20 [some (vr x0), some (vi 0), none, none] [] G8 Q)))))) : wp E d M_X12_take 0 [some (vr x0), none, none, none] [] G Q := by
  refine wp_aload_n (pc := 0) d_X12_take_0 rfl ?_
  obtain ⟨ho1, h⟩ := h
  refine wp_getR (pc := 1) d_X12_take_1 fl_X12_9 (fun _ _ _ => rfl) ho1 ?_
  refine wp_iconst (pc := 4) (v := 0) d_X12_take_4 rfl ?_
  refine wp_iconst (pc := 5) (v := 0) d_X12_take_5 rfl ?_
  obtain ⟨ho2, h⟩ := h
  obtain ⟨hi3, h⟩ := h
  refine wp_bast (pc := 6) d_X12_take_6 ho2 hi3 ?_
  refine wp_nm (fun G4 eG4 => ?_)
  have h := h G4 eG4
  have ho5 := isO_sI eG4 ho1
  refine wp_aload_n (pc := 7) d_X12_take_7 rfl ?_
  refine wp_getR (pc := 8) d_X12_take_8 fl_X12_9 (fun _ _ _ => rfl) ho5 ?_
  refine wp_iconst (pc := 11) (v := 1) d_X12_take_11 rfl ?_
  refine wp_aload_n (pc := 12) d_X12_take_12 rfl ?_
  refine wp_getI (pc := 13) d_X12_take_13 fl_X12_713 (fun _ _ _ => rfl) ho5 ?_
  refine wp_i2b (pc := 16) d_X12_take_16 ?_
  obtain ⟨ho6, h⟩ := h
  obtain ⟨hi7, h⟩ := h
  refine wp_bast (pc := 17) d_X12_take_17 ho6 hi7 ?_
  refine wp_nm (fun G8 eG8 => ?_)
  have h := h G8 eG8
  have ho9 := isO_sI eG8 ho5
  refine wp_iconst (pc := 18) (v := 0) d_X12_take_18 rfl ?_
  refine wp_istore_n (pc := 19) (lv' := [some (vr _), some (vi _), none, none]) d_X12_take_19 (by decide) rfl ?_
  refine wp_sub ?_ h
  exact ⟨rfl, ⟨rfl, trivial⟩⟩
theorem v_X12_take_20 {E : EE} {d : Nat} {Q : Option AV → AH → Prop} {x0 : Nat} {x1 : Int32} {G : AH} (h : isO E G x0 12 ∧ (((gI G x0 89) ≤ x1 → wp E d M_X12_take 62 [some (vr x0), some (vj 0), none, some (vi 0)] [] (sI G x0 1 (2 + (gI G x0 89))) Q) ∧ (¬ ((gI G x0 89) ≤ x1) → isO E G (gR G x0 88) 13 ∧ (vp_in x1 (gN G (gR G x0 88)) ∧ (isO E G (gR G x0 0) 13 ∧ (vp_in (2 + x1) (gN G (gR G x0 0)) ∧ (wp E d M_X12_take 20 [some (vr x0), some (vi (x1 + 1)), none, none] [] (sI G (gR G x0 0) (Int32.toNatClampNeg (2 + x1)) (i2b (gI G (gR G x0 88) (Int32.toNatClampNeg x1)))) Q))))))) : wp E d M_X12_take 20 [some (vr x0), some (vi x1), none, none] [] G Q := by
  refine wp_iload_n (pc := 20) d_X12_take_20 rfl ?_
  refine wp_aload_n (pc := 21) d_X12_take_21 rfl ?_
  obtain ⟨ho1, h⟩ := h
  refine wp_getI (pc := 22) d_X12_take_22 fl_X12_708 (fun _ _ _ => rfl) ho1 ?_
  refine wp_icmp_ge (pc := 25) (tgt := 48) d_X12_take_25 (by decide) (fun hc => ?_) (fun hc => ?_)
  · have h := h.1 hc
    refine wp_aload_n (pc := 48) d_X12_take_48 rfl ?_
    refine wp_iconst (pc := 49) (v := 2) d_X12_take_49 rfl ?_
    refine wp_aload_n (pc := 50) d_X12_take_50 rfl ?_
    refine wp_getI (pc := 51) d_X12_take_51 fl_X12_708 (fun _ _ _ => rfl) ho1 ?_
    refine wp_iadd (pc := 54) d_X12_take_54 ?_
    refine wp_putI (pc := 55) d_X12_take_55 fl_X12_217 (fun _ _ _ => rfl) (Or.inl rfl) ho1 (okI_int _) ?_
    refine wp_lconst (pc := 58) (v := 0) d_X12_take_58 rfl ?_
    refine wp_lstore_n (pc := 59) (lv' := [some (vr _), some (vj _), none, none]) d_X12_take_59 (by decide) rfl ?_
    refine wp_iconst (pc := 60) (v := 0) d_X12_take_60 rfl ?_
    refine wp_istore_n (pc := 61) (lv' := [some (vr _), some (vj _), none, some (vi _)]) d_X12_take_61 (by decide) rfl ?_
    refine wp_sub ?_ h
    exact ⟨rfl, ⟨rfl, ⟨rfl, trivial⟩⟩⟩
  · have h := h.2 hc
    refine wp_aload_n (pc := 28) d_X12_take_28 rfl ?_
    refine wp_getR (pc := 29) d_X12_take_29 fl_X12_9 (fun _ _ _ => rfl) ho1 ?_
    refine wp_iconst (pc := 32) (v := 2) d_X12_take_32 rfl ?_
    refine wp_iload_n (pc := 33) d_X12_take_33 rfl ?_
    refine wp_iadd (pc := 34) d_X12_take_34 ?_
    refine wp_aload_n (pc := 35) d_X12_take_35 rfl ?_
    refine wp_getR (pc := 36) d_X12_take_36 fl_X12_205 (fun _ _ _ => rfl) ho1 ?_
    refine wp_iload_n (pc := 39) d_X12_take_39 rfl ?_
    obtain ⟨ho2, h⟩ := h
    obtain ⟨hi3, h⟩ := h
    refine wp_bald (pc := 40) d_X12_take_40 ho2 hi3 ?_
    obtain ⟨ho4, h⟩ := h
    obtain ⟨hi5, h⟩ := h
    refine wp_bast (pc := 41) d_X12_take_41 ho4 hi5 ?_
    refine wp_iinc (pc := 42) (v := 1) (lv' := [some (vr _), some (vi _), none, none]) d_X12_take_42 (by decide) rfl rfl rfl ?_
    refine wp_goto (pc := 45) (tgt := 20) d_X12_take_45 (by decide) ?_
    refine wp_sub ?_ h
    exact ⟨rfl, ⟨rfl, trivial⟩⟩
theorem v_X12_take_62 {E : EE} {d : Nat} {Q : Option AV → AH → Prop} {x0 : Nat} {x1 : Int64} {x3 : Int32} {G : AH} (h0 : 0 < d) (h : isO E G x0 12 ∧ (((gI G x0 1) ≤ x3 → wp E d M_X12_take 90 [some (vr x0), some (vj x1), none, some (vi 7)] [] G Q) ∧ (¬ ((gI G x0 1) ≤ x3) → isO E G (gR G x0 0) 13 ∧ (vp_in x3 (gN G (gR G x0 0)) ∧ (wpJ E (d - 1) M_X12_mixed [vj x1, vi (gI G (gR G x0 0) (Int32.toNatClampNeg x3))] G (fun r4 G5 => wp E d M_X12_take 62 [some (vr x0), some (vj r4), none, some (vi (x3 + 1))] [] G5 Q)))))) : wp E d M_X12_take 62 [some (vr x0), some (vj x1), none, some (vi x3)] [] G Q := by
  refine wp_iload_n (pc := 62) d_X12_take_62 rfl ?_
  refine wp_aload_n (pc := 63) d_X12_take_63 rfl ?_
  obtain ⟨ho1, h⟩ := h
  refine wp_getI (pc := 64) d_X12_take_64 fl_X12_217 (fun _ _ _ => rfl) ho1 ?_
  refine wp_icmp_ge (pc := 67) (tgt := 87) d_X12_take_67 (by decide) (fun hc => ?_) (fun hc => ?_)
  · have h := h.1 hc
    refine wp_bipush (pc := 87) (v := 7) d_X12_take_87 rfl ?_
    refine wp_istore_n (pc := 89) (lv' := [some (vr _), some (vj _), none, some (vi _)]) d_X12_take_89 (by decide) rfl ?_
    refine wp_sub ?_ h
    exact ⟨rfl, ⟨rfl, ⟨rfl, trivial⟩⟩⟩
  · have h := h.2 hc
    refine wp_lload_n (pc := 70) d_X12_take_70 rfl ?_
    refine wp_aload_n (pc := 71) d_X12_take_71 rfl ?_
    refine wp_getR (pc := 72) d_X12_take_72 fl_X12_9 (fun _ _ _ => rfl) ho1 ?_
    refine wp_iload_n (pc := 75) d_X12_take_75 rfl ?_
    obtain ⟨ho2, h⟩ := h
    obtain ⟨hi3, h⟩ := h
    refine wp_bald (pc := 76) d_X12_take_76 ho2 hi3 ?_
    refine wp_invS (pc := 77) (N := M_X12_mixed) (As := [vj _, vi _]) (rest := []) d_X12_take_77 ml_X12_725 mk_X12_mixed ms_X12_mixed h0 (Nat.le_of_ble_eq_true rfl) ?_
    refine wpM.mono h (fun rr G5 hr => ?_)
    obtain ⟨r4, rfl, h⟩ := hr
    show wp E d M_X12_take 80 [some (vr _), some (vj _), none, some (vi _)] [vj _] G5 Q
    refine wp_lstore_n (pc := 80) (lv' := [some (vr _), some (vj _), none, some (vi _)]) d_X12_take_80 (by decide) rfl ?_
    refine wp_iinc (pc := 81) (v := 1) (lv' := [some (vr _), some (vj _), none, some (vi _)]) d_X12_take_81 (by decide) rfl rfl rfl ?_
    refine wp_goto (pc := 84) (tgt := 62) d_X12_take_84 (by decide) ?_
    refine wp_sub ?_ h
    exact ⟨rfl, ⟨rfl, ⟨rfl, trivial⟩⟩⟩
theorem v_X12_take_90 {E : EE} {d : Nat} {Q : Option AV → AH → Prop} {x0 : Nat} {x1 : Int64} {x3 : Int32} {G : AH} (h : (x3 < 0 → isO E G x0 12 ∧ (Q (some (vi (gI G x0 1))) G)) ∧ (¬ (x3 < 0) → isO E G x0 12 ∧ (isO E G (gR G x0 0) 13 ∧ (vp_in (gI G x0 1) (gN G (gR G x0 0)) ∧ (∀ G5 : AH, G5 = sI G (gR G x0 0) (Int32.toNatClampNeg (gI G x0 1)) (i2b (i2b (Int64.toInt32 (x1 >>> (Int32.toInt64 (8 * x3) &&& 63))))) → ∀ G7 : AH, G7 = sI G5 x0 1 ((gI G5 x0 1) + 1) → wp E d M_X12_take 90 [some (vr x0), some (vj x1), none, some (vi (x3 + (-1)))] [] G7 Q))))) : wp E d M_X12_take 90 [some (vr x0), some (vj x1), none, some (vi x3)] [] G Q := by
  refine wp_iload_n (pc := 90) d_X12_take_90 rfl ?_
  refine wp_if_lt (pc := 91) (tgt := 127) d_X12_take_91 (by decide) (fun hc => ?_) (fun hc => ?_)
  · have h := h.1 hc
    refine wp_aload_n (pc := 127) d_X12_take_127 rfl ?_
    obtain ⟨ho1, h⟩ := h
    refine wp_getI (pc := 128) d_X12_take_128 fl_X12_217 (fun _ _ _ => rfl) ho1 ?_
    exact wp_iret (pc := 131) d_X12_take_131 rfl h
  · have h := h.2 hc
    refine wp_aload_n (pc := 94) d_X12_take_94 rfl ?_
    obtain ⟨ho2, h⟩ := h
    refine wp_getR (pc := 95) d_X12_take_95 fl_X12_9 (fun _ _ _ => rfl) ho2 ?_
    refine wp_aload_n (pc := 98) d_X12_take_98 rfl ?_
    refine wp_getI (pc := 99) d_X12_take_99 fl_X12_217 (fun _ _ _ => rfl) ho2 ?_
    refine wp_lload_n (pc := 102) d_X12_take_102 rfl ?_
    refine wp_bipush (pc := 103) (v := 8) d_X12_take_103 rfl ?_
    refine wp_iload_n (pc := 105) d_X12_take_105 rfl ?_
    refine wp_imul (pc := 106) d_X12_take_106 ?_
    refine wp_lshr (pc := 107) d_X12_take_107 ?_
    refine wp_l2i (pc := 108) d_X12_take_108 ?_
    refine wp_i2b (pc := 109) d_X12_take_109 ?_
    obtain ⟨ho3, h⟩ := h
    obtain ⟨hi4, h⟩ := h
    refine wp_bast (pc := 110) d_X12_take_110 ho3 hi4 ?_
    refine wp_nm (fun G5 eG5 => ?_)
    have h := h G5 eG5
    have ho6 := isO_sI eG5 ho2
    refine wp_aload_n (pc := 111) d_X12_take_111 rfl ?_
    refine wp_dup (pc := 112) d_X12_take_112 (c1_r _) ?_
    refine wp_getI (pc := 113) d_X12_take_113 fl_X12_217 (fun _ _ _ => rfl) ho6 ?_
    refine wp_iconst (pc := 116) (v := 1) d_X12_take_116 rfl ?_
    refine wp_iadd (pc := 117) d_X12_take_117 ?_
    refine wp_putI (pc := 118) d_X12_take_118 fl_X12_217 (fun _ _ _ => rfl) (Or.inl rfl) ho6 (okI_int _) ?_
    refine wp_nm (fun G7 eG7 => ?_)
    have h := h G7 eG7
    have ho8 := isO_sI eG7 ho6
    refine wp_iinc (pc := 121) (v := (-1)) (lv' := [some (vr _), some (vj _), none, some (vi _)]) d_X12_take_121 (by decide) rfl rfl rfl ?_
    refine wp_goto (pc := 124) (tgt := 90) d_X12_take_124 (by decide) ?_
    refine wp_sub ?_ h
    exact ⟨rfl, ⟨rfl, ⟨rfl, trivial⟩⟩⟩
theorem d_X12_crash_0 : decode prog_14_method_181_code 0 = .ok (.iload_n 1, 1) := by decide +kernel
theorem d_X12_crash_1 : decode prog_14_method_181_code 1 = .ok (.ifCond .ge 5, 3) := by decide +kernel
theorem d_X12_crash_4 : decode prog_14_method_181_code 4 = .ok (.iconst (-1), 1) := by decide +kernel
theorem d_X12_crash_5 : decode prog_14_method_181_code 5 = .ok (.ireturn, 1) := by decide +kernel
theorem d_X12_crash_6 : decode prog_14_method_181_code 6 = .ok (.aload_n 0, 1) := by decide +kernel
theorem d_X12_crash_7 : decode prog_14_method_181_code 7 = .ok (.getfield 211, 3) := by decide +kernel
theorem d_X12_crash_10 : decode prog_14_method_181_code 10 = .ok (.ifCond .lt 74, 3) := by decide +kernel
theorem d_X12_crash_13 : decode prog_14_method_181_code 13 = .ok (.aload_n 0, 1) := by decide +kernel
theorem d_X12_crash_14 : decode prog_14_method_181_code 14 = .ok (.getfield 208, 3) := by decide +kernel
theorem d_X12_crash_17 : decode prog_14_method_181_code 17 = .ok (.aload_n 0, 1) := by decide +kernel
theorem d_X12_crash_18 : decode prog_14_method_181_code 18 = .ok (.getfield 211, 3) := by decide +kernel
theorem d_X12_crash_21 : decode prog_14_method_181_code 21 = .ok (.iaload, 1) := by decide +kernel
theorem d_X12_crash_22 : decode prog_14_method_181_code 22 = .ok (.i2l, 1) := by decide +kernel
theorem d_X12_crash_23 : decode prog_14_method_181_code 23 = .ok (.iload_n 1, 1) := by decide +kernel
theorem d_X12_crash_24 : decode prog_14_method_181_code 24 = .ok (.i2l, 1) := by decide +kernel
theorem d_X12_crash_25 : decode prog_14_method_181_code 25 = .ok (.ladd, 1) := by decide +kernel
theorem d_X12_crash_26 : decode prog_14_method_181_code 26 = .ok (.lstore_n 2, 1) := by decide +kernel
theorem d_X12_crash_27 : decode prog_14_method_181_code 27 = .ok (.aload_n 0, 1) := by decide +kernel
theorem d_X12_crash_28 : decode prog_14_method_181_code 28 = .ok (.getfield 713, 3) := by decide +kernel
theorem d_X12_crash_31 : decode prog_14_method_181_code 31 = .ok (.aload_n 0, 1) := by decide +kernel
theorem d_X12_crash_32 : decode prog_14_method_181_code 32 = .ok (.getfield 211, 3) := by decide +kernel
theorem d_X12_crash_35 : decode prog_14_method_181_code 35 = .ok (.if_icmp .le 31, 3) := by decide +kernel
theorem d_X12_crash_38 : decode prog_14_method_181_code 38 = .ok (.aload_n 0, 1) := by decide +kernel
theorem d_X12_crash_39 : decode prog_14_method_181_code 39 = .ok (.getfield 208, 3) := by decide +kernel
theorem d_X12_crash_42 : decode prog_14_method_181_code 42 = .ok (.aload_n 0, 1) := by decide +kernel
theorem d_X12_crash_43 : decode prog_14_method_181_code 43 = .ok (.getfield 713, 3) := by decide +kernel
theorem d_X12_crash_46 : decode prog_14_method_181_code 46 = .ok (.iaload, 1) := by decide +kernel
theorem d_X12_crash_47 : decode prog_14_method_181_code 47 = .ok (.i2l, 1) := by decide +kernel
theorem d_X12_crash_48 : decode prog_14_method_181_code 48 = .ok (.lload_n 2, 1) := by decide +kernel
theorem d_X12_crash_49 : decode prog_14_method_181_code 49 = .ok (.lcmp, 1) := by decide +kernel
theorem d_X12_crash_50 : decode prog_14_method_181_code 50 = .ok (.ifCond .le 16, 3) := by decide +kernel
theorem d_X12_crash_53 : decode prog_14_method_181_code 53 = .ok (.aload_n 0, 1) := by decide +kernel
theorem d_X12_crash_54 : decode prog_14_method_181_code 54 = .ok (.dup, 1) := by decide +kernel
theorem d_X12_crash_55 : decode prog_14_method_181_code 55 = .ok (.getfield 713, 3) := by decide +kernel
theorem d_X12_crash_58 : decode prog_14_method_181_code 58 = .ok (.iconst 1, 1) := by decide +kernel
theorem d_X12_crash_59 : decode prog_14_method_181_code 59 = .ok (.isub, 1) := by decide +kernel
theorem d_X12_crash_60 : decode prog_14_method_181_code 60 = .ok (.putfield 713, 3) := by decide +kernel
theorem d_X12_crash_63 : decode prog_14_method_181_code 63 = .ok (.goto (-36), 3) := by decide +kernel
theorem d_X12_crash_66 : decode prog_14_method_181_code 66 = .ok (.aload_n 0, 1) := by decide +kernel
theorem d_X12_crash_67 : decode prog_14_method_181_code 67 = .ok (.aload_n 0, 1) := by decide +kernel
theorem d_X12_crash_68 : decode prog_14_method_181_code 68 = .ok (.getfield 208, 3) := by decide +kernel
theorem d_X12_crash_71 : decode prog_14_method_181_code 71 = .ok (.aload_n 0, 1) := by decide +kernel
theorem d_X12_crash_72 : decode prog_14_method_181_code 72 = .ok (.getfield 713, 3) := by decide +kernel
theorem d_X12_crash_75 : decode prog_14_method_181_code 75 = .ok (.iaload, 1) := by decide +kernel
theorem d_X12_crash_76 : decode prog_14_method_181_code 76 = .ok (.putfield 708, 3) := by decide +kernel
theorem d_X12_crash_79 : decode prog_14_method_181_code 79 = .ok (.aload_n 0, 1) := by decide +kernel
theorem d_X12_crash_80 : decode prog_14_method_181_code 80 = .ok (.iconst (-1), 1) := by decide +kernel
theorem d_X12_crash_81 : decode prog_14_method_181_code 81 = .ok (.putfield 211, 3) := by decide +kernel
theorem d_X12_crash_84 : decode prog_14_method_181_code 84 = .ok (.aload_n 0, 1) := by decide +kernel
theorem d_X12_crash_85 : decode prog_14_method_181_code 85 = .ok (.getfield 713, 3) := by decide +kernel
theorem d_X12_crash_88 : decode prog_14_method_181_code 88 = .ok (.ireturn, 1) := by decide +kernel
theorem v_X12_crash_0 {E : EE} {d : Nat} {Q : Option AV → AH → Prop} {x0 : Nat} {x1 : Int32} {G : AH} (h : (0 ≤ x1 → isO E G x0 12 ∧ (((gI G x0 92) < 0 → wp E d M_X12_crash 84 [some (vr x0), some (vi x1), none, none] [] G Q) ∧ (¬ ((gI G x0 92) < 0) → isO E G (gR G x0 90) 14 ∧ (vp_in (gI G x0 92) (gN G (gR G x0 90)) ∧ (wp E d M_X12_crash 27 [some (vr x0), some (vi x1), some (vj ((Int32.toInt64 (gI G (gR G x0 90) (Int32.toNatClampNeg (gI G x0 92)))) + (Int32.toInt64 x1))), none] [] G Q))))) ∧ (¬ (0 ≤ x1) → Q (some (vi (-1))) G)) : wp E d M_X12_crash 0 [some (vr x0), some (vi x1), none, none] [] G Q := by
  refine wp_iload_n (pc := 0) d_X12_crash_0 rfl ?_
  refine wp_if_ge (pc := 1) (tgt := 6) d_X12_crash_1 (by decide) (fun hc => ?_) (fun hc => ?_)
  · have h := h.1 hc
    refine wp_aload_n (pc := 6) d_X12_crash_6 rfl ?_
    obtain ⟨ho1, h⟩ := h
    refine wp_getI (pc := 7) d_X12_crash_7 fl_X12_211 (fun _ _ _ => rfl) ho1 ?_
    refine wp_if_lt (pc := 10) (tgt := 84) d_X12_crash_10 (by decide) (fun hc => ?_) (fun hc => ?_)
    · have h := h.1 hc
      refine wp_sub ?_ h
      exact ⟨rfl, ⟨rfl, trivial⟩⟩
    · have h := h.2 hc
      refine wp_aload_n (pc := 13) d_X12_crash_13 rfl ?_
      refine wp_getR (pc := 14) d_X12_crash_14 fl_X12_208 (fun _ _ _ => rfl) ho1 ?_
      refine wp_aload_n (pc := 17) d_X12_crash_17 rfl ?_
      refine wp_getI (pc := 18) d_X12_crash_18 fl_X12_211 (fun _ _ _ => rfl) ho1 ?_
      obtain ⟨ho2, h⟩ := h
      obtain ⟨hi3, h⟩ := h
      refine wp_iald (pc := 21) d_X12_crash_21 ho2 hi3 ?_
      refine wp_i2l (pc := 22) d_X12_crash_22 ?_
      refine wp_iload_n (pc := 23) d_X12_crash_23 rfl ?_
      refine wp_i2l (pc := 24) d_X12_crash_24 ?_
      refine wp_ladd (pc := 25) d_X12_crash_25 ?_
      refine wp_lstore_n (pc := 26) (lv' := [some (vr _), some (vi _), some (vj _), none]) d_X12_crash_26 (by decide) rfl ?_
      refine wp_sub ?_ h
      exact ⟨rfl, ⟨rfl, ⟨rfl, trivial⟩⟩⟩
  · have h := h.2 hc
    refine wp_iconst (pc := 4) (v := (-1)) d_X12_crash_4 rfl ?_
    exact wp_iret (pc := 5) d_X12_crash_5 rfl h
theorem v_X12_crash_27 {E : EE} {d : Nat} {Q : Option AV → AH → Prop} {x0 : Nat} {x1 : Int32} {x2 : Int64} {G : AH} (h : isO E G x0 12 ∧ (((gI G x0 91) ≤ (gI G x0 92) → wp E d M_X12_crash 66 [some (vr x0), some (vi x1), some (vj x2), none] [] G Q) ∧ (¬ ((gI G x0 91) ≤ (gI G x0 92)) → isO E G (gR G x0 90) 14 ∧ (vp_in (gI G x0 91) (gN G (gR G x0 90)) ∧ (((Int32.toInt64 (gI G (gR G x0 90) (Int32.toNatClampNeg (gI G x0 91)))) ≤ x2 → wp E d M_X12_crash 66 [some (vr x0), some (vi x1), some (vj x2), none] [] G Q) ∧ (¬ ((Int32.toInt64 (gI G (gR G x0 90) (Int32.toNatClampNeg (gI G x0 91)))) ≤ x2) → wp E d M_X12_crash 27 [some (vr x0), some (vi x1), some (vj x2), none] [] (sI G x0 91 ((gI G x0 91) - 1)) Q)))))) : wp E d M_X12_crash 27 [some (vr x0), some (vi x1), some (vj x2), none] [] G Q := by
  refine wp_aload_n (pc := 27) d_X12_crash_27 rfl ?_
  obtain ⟨ho1, h⟩ := h
  refine wp_getI (pc := 28) d_X12_crash_28 fl_X12_713 (fun _ _ _ => rfl) ho1 ?_
  refine wp_aload_n (pc := 31) d_X12_crash_31 rfl ?_
  refine wp_getI (pc := 32) d_X12_crash_32 fl_X12_211 (fun _ _ _ => rfl) ho1 ?_
  refine wp_icmp_le (pc := 35) (tgt := 66) d_X12_crash_35 (by decide) (fun hc => ?_) (fun hc => ?_)
  · have h := h.1 hc
    refine wp_sub ?_ h
    exact ⟨rfl, ⟨rfl, ⟨rfl, trivial⟩⟩⟩
  · have h := h.2 hc
    refine wp_aload_n (pc := 38) d_X12_crash_38 rfl ?_
    refine wp_getR (pc := 39) d_X12_crash_39 fl_X12_208 (fun _ _ _ => rfl) ho1 ?_
    refine wp_aload_n (pc := 42) d_X12_crash_42 rfl ?_
    refine wp_getI (pc := 43) d_X12_crash_43 fl_X12_713 (fun _ _ _ => rfl) ho1 ?_
    obtain ⟨ho2, h⟩ := h
    obtain ⟨hi3, h⟩ := h
    refine wp_iald (pc := 46) d_X12_crash_46 ho2 hi3 ?_
    refine wp_i2l (pc := 47) d_X12_crash_47 ?_
    refine wp_lload_n (pc := 48) d_X12_crash_48 rfl ?_
    refine wp_lcmp_le (pc := 49) (tgt := 66) d_X12_crash_49 d_X12_crash_50 (by decide) (fun hc => ?_) (fun hc => ?_)
    · have h := h.1 hc
      refine wp_sub ?_ h
      exact ⟨rfl, ⟨rfl, ⟨rfl, trivial⟩⟩⟩
    · have h := h.2 hc
      refine wp_aload_n (pc := 53) d_X12_crash_53 rfl ?_
      refine wp_dup (pc := 54) d_X12_crash_54 (c1_r _) ?_
      refine wp_getI (pc := 55) d_X12_crash_55 fl_X12_713 (fun _ _ _ => rfl) ho1 ?_
      refine wp_iconst (pc := 58) (v := 1) d_X12_crash_58 rfl ?_
      refine wp_isub (pc := 59) d_X12_crash_59 ?_
      refine wp_putI (pc := 60) d_X12_crash_60 fl_X12_713 (fun _ _ _ => rfl) (Or.inl rfl) ho1 (okI_int _) ?_
      refine wp_goto (pc := 63) (tgt := 27) d_X12_crash_63 (by decide) ?_
      refine wp_sub ?_ h
      exact ⟨rfl, ⟨rfl, ⟨rfl, trivial⟩⟩⟩
theorem v_X12_crash_66 {E : EE} {d : Nat} {Q : Option AV → AH → Prop} {x0 : Nat} {x1 : Int32} {x2 : Int64} {G : AH} (h : isO E G x0 12 ∧ (isO E G (gR G x0 90) 14 ∧ (vp_in (gI G x0 91) (gN G (gR G x0 90)) ∧ (∀ G4 : AH, G4 = sI G x0 89 (gI G (gR G x0 90) (Int32.toNatClampNeg (gI G x0 91))) → ∀ G6 : AH, G6 = sI G4 x0 92 (-1) → wp E d M_X12_crash 84 [some (vr x0), some (vi x1), none, none] [] G6 Q)))) : wp E d M_X12_crash 66 [some (vr x0), some (vi x1), some (vj x2), none] [] G Q := by
  refine wp_aload_n (pc := 66) d_X12_crash_66 rfl ?_
  refine wp_aload_n (pc := 67) d_X12_crash_67 rfl ?_
  obtain ⟨ho1, h⟩ := h
  refine wp_getR (pc := 68) d_X12_crash_68 fl_X12_208 (fun _ _ _ => rfl) ho1 ?_
  refine wp_aload_n (pc := 71) d_X12_crash_71 rfl ?_
  refine wp_getI (pc := 72) d_X12_crash_72 fl_X12_713 (fun _ _ _ => rfl) ho1 ?_
  obtain ⟨ho2, h⟩ := h
  obtain ⟨hi3, h⟩ := h
  refine wp_iald (pc := 75) d_X12_crash_75 ho2 hi3 ?_
  refine wp_putI (pc := 76) d_X12_crash_76 fl_X12_708 (fun _ _ _ => rfl) (Or.inl rfl) ho1 (okI_int _) ?_
  refine wp_nm (fun G4 eG4 => ?_)
  have h := h G4 eG4
  have ho5 := isO_sI eG4 ho1
  refine wp_aload_n (pc := 79) d_X12_crash_79 rfl ?_
  refine wp_iconst (pc := 80) (v := (-1)) d_X12_crash_80 rfl ?_
  refine wp_putI (pc := 81) d_X12_crash_81 fl_X12_211 (fun _ _ _ => rfl) (Or.inl rfl) ho5 (okI_int _) ?_
  refine wp_nm (fun G6 eG6 => ?_)
  have h := h G6 eG6
  have ho7 := isO_sI eG6 ho5
  refine wp_sub ?_ h
  exact ⟨rfl, ⟨rfl, trivial⟩⟩
theorem v_X12_crash_84 {E : EE} {d : Nat} {Q : Option AV → AH → Prop} {x0 : Nat} {x1 : Int32} {G : AH} (h : isO E G x0 12 ∧ (Q (some (vi (gI G x0 91))) G)) : wp E d M_X12_crash 84 [some (vr x0), some (vi x1), none, none] [] G Q := by
  refine wp_aload_n (pc := 84) d_X12_crash_84 rfl ?_
  obtain ⟨ho1, h⟩ := h
  refine wp_getI (pc := 85) d_X12_crash_85 fl_X12_713 (fun _ _ _ => rfl) ho1 ?_
  exact wp_iret (pc := 88) d_X12_crash_88 rfl h
theorem d_X12_byteAt_0 : decode prog_14_method_180_code 0 = .ok (.iload_n 1, 1) := by decide +kernel
theorem d_X12_byteAt_1 : decode prog_14_method_180_code 1 = .ok (.ifCond .lt 11, 3) := by decide +kernel
theorem d_X12_byteAt_4 : decode prog_14_method_180_code 4 = .ok (.iload_n 1, 1) := by decide +kernel
theorem d_X12_byteAt_5 : decode prog_14_method_180_code 5 = .ok (.aload_n 0, 1) := by decide +kernel
theorem d_X12_byteAt_6 : decode prog_14_method_180_code 6 = .ok (.getfield 708, 3) := by decide +kernel
theorem d_X12_byteAt_9 : decode prog_14_method_180_code 9 = .ok (.if_icmp .lt 7, 3) := by decide +kernel
theorem d_X12_byteAt_12 : decode prog_14_method_180_code 12 = .ok (.iconst (-1), 1) := by decide +kernel
theorem d_X12_byteAt_13 : decode prog_14_method_180_code 13 = .ok (.goto 13, 3) := by decide +kernel
theorem d_X12_byteAt_16 : decode prog_14_method_180_code 16 = .ok (.aload_n 0, 1) := by decide +kernel
theorem d_X12_byteAt_17 : decode prog_14_method_180_code 17 = .ok (.getfield 205, 3) := by decide +kernel
theorem d_X12_byteAt_20 : decode prog_14_method_180_code 20 = .ok (.iload_n 1, 1) := by decide +kernel
theorem d_X12_byteAt_21 : decode prog_14_method_180_code 21 = .ok (.baload, 1) := by decide +kernel
theorem d_X12_byteAt_22 : decode prog_14_method_180_code 22 = .ok (.sipush 255, 3) := by decide +kernel
theorem d_X12_byteAt_25 : decode prog_14_method_180_code 25 = .ok (.iand, 1) := by decide +kernel
theorem d_X12_byteAt_26 : decode prog_14_method_180_code 26 = .ok (.ireturn, 1) := by decide +kernel
theorem v_X12_byteAt_0 {E : EE} {d : Nat} {Q : Option AV → AH → Prop} {x0 : Nat} {x1 : Int32} {G : AH} (h : (x1 < 0 → wp E d M_X12_byteAt 12 [some (vr x0), some (vi x1)] [] G Q) ∧ (¬ (x1 < 0) → isO E G x0 12 ∧ ((x1 < (gI G x0 89) → isO E G (gR G x0 88) 13 ∧ (vp_in x1 (gN G (gR G x0 88)) ∧ (Q (some (vi ((gI G (gR G x0 88) (Int32.toNatClampNeg x1)) &&& 255))) G))) ∧ (¬ (x1 < (gI G x0 89)) → wp E d M_X12_byteAt 12 [some (vr x0), some (vi x1)] [] G Q)))) : wp E d M_X12_byteAt 0 [some (vr x0), some (vi x1)] [] G Q := by
  refine wp_iload_n (pc := 0) d_X12_byteAt_0 rfl ?_
  refine wp_if_lt (pc := 1) (tgt := 12) d_X12_byteAt_1 (by decide) (fun hc => ?_) (fun hc => ?_)
  · have h := h.1 hc
    refine wp_sub ?_ h
    exact ⟨rfl, ⟨rfl, trivial⟩⟩
  · have h := h.2 hc
    refine wp_iload_n (pc := 4) d_X12_byteAt_4 rfl ?_
    refine wp_aload_n (pc := 5) d_X12_byteAt_5 rfl ?_
    obtain ⟨ho1, h⟩ := h
    refine wp_getI (pc := 6) d_X12_byteAt_6 fl_X12_708 (fun _ _ _ => rfl) ho1 ?_
    refine wp_icmp_lt (pc := 9) (tgt := 16) d_X12_byteAt_9 (by decide) (fun hc => ?_) (fun hc => ?_)
    · have h := h.1 hc
      refine wp_aload_n (pc := 16) d_X12_byteAt_16 rfl ?_
      refine wp_getR (pc := 17) d_X12_byteAt_17 fl_X12_205 (fun _ _ _ => rfl) ho1 ?_
      refine wp_iload_n (pc := 20) d_X12_byteAt_20 rfl ?_
      obtain ⟨ho2, h⟩ := h
      obtain ⟨hi3, h⟩ := h
      refine wp_bald (pc := 21) d_X12_byteAt_21 ho2 hi3 ?_
      refine wp_sipush (pc := 22) (v := 255) d_X12_byteAt_22 rfl ?_
      refine wp_iand (pc := 25) d_X12_byteAt_25 ?_
      exact wp_iret (pc := 26) d_X12_byteAt_26 rfl h
    · have h := h.2 hc
      refine wp_sub ?_ h
      exact ⟨rfl, ⟨rfl, trivial⟩⟩
theorem v_X12_byteAt_12 {E : EE} {d : Nat} {Q : Option AV → AH → Prop} {x0 : Nat} {x1 : Int32} {G : AH} (h : Q (some (vi (-1))) G) : wp E d M_X12_byteAt 12 [some (vr x0), some (vi x1)] [] G Q := by
  refine wp_iconst (pc := 12) (v := (-1)) d_X12_byteAt_12 rfl ?_
  refine wp_goto (pc := 13) (tgt := 26) d_X12_byteAt_13 (by decide) ?_
  exact wp_iret (pc := 26) d_X12_byteAt_26 rfl h
theorem d_X12_size_0 : decode prog_14_method_179_code 0 = .ok (.aload_n 0, 1) := by decide +kernel
theorem d_X12_size_1 : decode prog_14_method_179_code 1 = .ok (.getfield 708, 3) := by decide +kernel
theorem d_X12_size_4 : decode prog_14_method_179_code 4 = .ok (.ireturn, 1) := by decide +kernel
theorem v_X12_size_0 {E : EE} {d : Nat} {Q : Option AV → AH → Prop} {x0 : Nat} {G : AH} (h : isO E G x0 12 ∧ (Q (some (vi (gI G x0 89))) G)) : wp E d M_X12_size 0 [some (vr x0)] [] G Q := by
  refine wp_aload_n (pc := 0) d_X12_size_0 rfl ?_
  obtain ⟨ho1, h⟩ := h
  refine wp_getI (pc := 1) d_X12_size_1 fl_X12_708 (fun _ _ _ => rfl) ho1 ?_
  exact wp_iret (pc := 4) d_X12_size_4 rfl h
theorem d_X12_rows_0 : decode prog_14_method_178_code 0 = .ok (.aload_n 0, 1) := by decide +kernel
theorem d_X12_rows_1 : decode prog_14_method_178_code 1 = .ok (.getfield 713, 3) := by decide +kernel
theorem d_X12_rows_4 : decode prog_14_method_178_code 4 = .ok (.ireturn, 1) := by decide +kernel
theorem v_X12_rows_0 {E : EE} {d : Nat} {Q : Option AV → AH → Prop} {x0 : Nat} {G : AH} (h : isO E G x0 12 ∧ (Q (some (vi (gI G x0 91))) G)) : wp E d M_X12_rows 0 [some (vr x0)] [] G Q := by
  refine wp_aload_n (pc := 0) d_X12_rows_0 rfl ?_
  obtain ⟨ho1, h⟩ := h
  refine wp_getI (pc := 1) d_X12_rows_1 fl_X12_713 (fun _ _ _ => rfl) ho1 ?_
  exact wp_iret (pc := 4) d_X12_rows_4 rfl h
theorem d_X12_load_0 : decode prog_14_method_177_code 0 = .ok (.iload_n 1, 1) := by decide +kernel
theorem d_X12_load_1 : decode prog_14_method_177_code 1 = .ok (.ifCond .lt 11, 3) := by decide +kernel
theorem d_X12_load_4 : decode prog_14_method_177_code 4 = .ok (.iload_n 1, 1) := by decide +kernel
theorem d_X12_load_5 : decode prog_14_method_177_code 5 = .ok (.aload_n 0, 1) := by decide +kernel
theorem d_X12_load_6 : decode prog_14_method_177_code 6 = .ok (.getfield 713, 3) := by decide +kernel
theorem d_X12_load_9 : decode prog_14_method_177_code 9 = .ok (.if_icmp .lt 5, 3) := by decide +kernel
theorem d_X12_load_12 : decode prog_14_method_177_code 12 = .ok (.iconst (-1), 1) := by decide +kernel
theorem d_X12_load_13 : decode prog_14_method_177_code 13 = .ok (.ireturn, 1) := by decide +kernel
theorem d_X12_load_14 : decode prog_14_method_177_code 14 = .ok (.aload_n 0, 1) := by decide +kernel
theorem d_X12_load_15 : decode prog_14_method_177_code 15 = .ok (.invokevirtual 444, 3) := by decide +kernel
theorem d_X12_load_18 : decode prog_14_method_177_code 18 = .ok (.istore_n 2, 1) := by decide +kernel
theorem d_X12_load_19 : decode prog_14_method_177_code 19 = .ok (.iload_n 2, 1) := by decide +kernel
theorem d_X12_load_20 : decode prog_14_method_177_code 20 = .ok (.iconst 4, 1) := by decide +kernel
theorem d_X12_load_21 : decode prog_14_method_177_code 21 = .ok (.if_icmp .ne 6, 3) := by decide +kernel
theorem d_X12_load_24 : decode prog_14_method_177_code 24 = .ok (.ldc 220, 2) := by decide +kernel
theorem d_X12_load_26 : decode prog_14_method_177_code 26 = .ok (.ireturn, 1) := by decide +kernel
theorem d_X12_load_27 : decode prog_14_method_177_code 27 = .ok (.aload_n 0, 1) := by decide +kernel
theorem d_X12_load_28 : decode prog_14_method_177_code 28 = .ok (.iconst 1, 1) := by decide +kernel
theorem d_X12_load_29 : decode prog_14_method_177_code 29 = .ok (.putfield 729, 3) := by decide +kernel
theorem d_X12_load_32 : decode prog_14_method_177_code 32 = .ok (.aload_n 0, 1) := by decide +kernel
theorem d_X12_load_33 : decode prog_14_method_177_code 33 = .ok (.aload_n 0, 1) := by decide +kernel
theorem d_X12_load_34 : decode prog_14_method_177_code 34 = .ok (.getfield 208, 3) := by decide +kernel
theorem d_X12_load_37 : decode prog_14_method_177_code 37 = .ok (.iload_n 1, 1) := by decide +kernel
theorem d_X12_load_38 : decode prog_14_method_177_code 38 = .ok (.iaload, 1) := by decide +kernel
theorem d_X12_load_39 : decode prog_14_method_177_code 39 = .ok (.aload_n 0, 1) := by decide +kernel
theorem d_X12_load_40 : decode prog_14_method_177_code 40 = .ok (.getfield 208, 3) := by decide +kernel
theorem d_X12_load_43 : decode prog_14_method_177_code 43 = .ok (.iload_n 1, 1) := by decide +kernel
theorem d_X12_load_44 : decode prog_14_method_177_code 44 = .ok (.iconst 1, 1) := by decide +kernel
theorem d_X12_load_45 : decode prog_14_method_177_code 45 = .ok (.iadd, 1) := by decide +kernel
theorem d_X12_load_46 : decode prog_14_method_177_code 46 = .ok (.iaload, 1) := by decide +kernel
theorem d_X12_load_47 : decode prog_14_method_177_code 47 = .ok (.iload_n 2, 1) := by decide +kernel
theorem d_X12_load_48 : decode prog_14_method_177_code 48 = .ok (.invokevirtual 739, 3) := by decide +kernel
theorem d_X12_load_51 : decode prog_14_method_177_code 51 = .ok (.istore_n 3, 1) := by decide +kernel
theorem d_X12_load_52 : decode prog_14_method_177_code 52 = .ok (.aload_n 0, 1) := by decide +kernel
theorem d_X12_load_53 : decode prog_14_method_177_code 53 = .ok (.getfield 19, 3) := by decide +kernel
theorem d_X12_load_56 : decode prog_14_method_177_code 56 = .ok (.iload_n 2, 1) := by decide +kernel
theorem d_X12_load_57 : decode prog_14_method_177_code 57 = .ok (.iconst 1, 1) := by decide +kernel
theorem d_X12_load_58 : decode prog_14_method_177_code 58 = .ok (.bastore, 1) := by decide +kernel
theorem d_X12_load_59 : decode prog_14_method_177_code 59 = .ok (.iload_n 2, 1) := by decide +kernel
theorem d_X12_load_60 : decode prog_14_method_177_code 60 = .ok (.ireturn, 1) := by decide +kernel
theorem v_X12_load_0 {E : EE} {d : Nat} {Q : Option AV → AH → Prop} {x0 : Nat} {x1 : Int32} {G : AH} (h0 : 0 < d) (h : (x1 < 0 → Q (some (vi (-1))) G) ∧ (¬ (x1 < 0) → isO E G x0 12 ∧ ((x1 < (gI G x0 91) → wpI E (d - 1) M_X12_freeSlot [vr x0] G (fun r2 G3 => (¬ r2 = 4 → isO E G3 x0 12 ∧ (∀ G5 : AH, G5 = sI G3 x0 93 1 → isO E G5 (gR G5 x0 90) 14 ∧ (vp_in x1 (gN G5 (gR G5 x0 90)) ∧ (vp_in (x1 + 1) (gN G5 (gR G5 x0 90)) ∧ (wpI E (d - 1) M_X12_readRow [vr x0, vi (gI G5 (gR G5 x0 90) (Int32.toNatClampNeg x1)), vi (gI G5 (gR G5 x0 90) (Int32.toNatClampNeg (x1 + 1))), vi r2] G5 (fun r10 G11 => isO E G11 x0 12 ∧ (isO E G11 (gR G11 x0 5) 16 ∧ (vp_in r2 (gN G11 (gR G11 x0 5)) ∧ (∀ G15 : AH, G15 = sI G11 (gR G11 x0 5) (Int32.toNatClampNeg r2) (nz 1) → Q (some (vi r2)) G15))))))))) ∧ (r2 = 4 → Q (some (vi (-100000))) G3))) ∧ (¬ (x1 < (gI G x0 91)) → Q (some (vi (-1))) G)))) : wp E d M_X12_load 0 [some (vr x0), some (vi x1), none, none] [] G Q := by
  refine wp_iload_n (pc := 0) d_X12_load_0 rfl ?_
  refine wp_if_lt (pc := 1) (tgt := 12) d_X12_load_1 (by decide) (fun hc => ?_) (fun hc => ?_)
  · have h := h.1 hc
    refine wp_iconst (pc := 12) (v := (-1)) d_X12_load_12 rfl ?_
    exact wp_iret (pc := 13) d_X12_load_13 rfl h
  · have h := h.2 hc
    refine wp_iload_n (pc := 4) d_X12_load_4 rfl ?_
    refine wp_aload_n (pc := 5) d_X12_load_5 rfl ?_
    obtain ⟨ho1, h⟩ := h
    refine wp_getI (pc := 6) d_X12_load_6 fl_X12_713 (fun _ _ _ => rfl) ho1 ?_
    refine wp_icmp_lt (pc := 9) (tgt := 14) d_X12_load_9 (by decide) (fun hc => ?_) (fun hc => ?_)
    · have h := h.1 hc
      refine wp_aload_n (pc := 14) d_X12_load_14 rfl ?_
      refine wp_invV (pc := 15) (N := M_X12_freeSlot) (As := []) (rest := []) (r := (cn_12, ct_12, 95)) d_X12_load_15 ml_X12_444 mk_X12_freeSlot mv_X12_freeSlot h0 ho1 rfl rfl (Nat.le_of_ble_eq_true rfl) ?_
      refine wpM.mono h (fun rr G3 hr => ?_)
      obtain ⟨r2, rfl, h⟩ := hr
      show wp E d M_X12_load 18 [some (vr _), some (vi _), none, none] [vi _] G3 Q
      refine wp_istore_n (pc := 18) (lv' := [some (vr _), some (vi _), some (vi _), none]) d_X12_load_18 (by decide) rfl ?_
      refine wp_iload_n (pc := 19) d_X12_load_19 rfl ?_
      refine wp_iconst (pc := 20) (v := 4) d_X12_load_20 rfl ?_
      refine wp_icmp_ne (pc := 21) (tgt := 27) d_X12_load_21 (by decide) (fun hc => ?_) (fun hc => ?_)
      · have h := h.1 hc
        refine wp_aload_n (pc := 27) d_X12_load_27 rfl ?_
        refine wp_iconst (pc := 28) (v := 1) d_X12_load_28 rfl ?_
        obtain ⟨ho4, h⟩ := h
        refine wp_putI (pc := 29) d_X12_load_29 fl_X12_729 (fun _ _ _ => rfl) (Or.inl rfl) ho4 okI_z1 ?_
        refine wp_nm (fun G5 eG5 => ?_)
        have h := h G5 eG5
        have ho6 := isO_sI eG5 ho4
        refine wp_aload_n (pc := 32) d_X12_load_32 rfl ?_
        refine wp_aload_n (pc := 33) d_X12_load_33 rfl ?_
        refine wp_getR (pc := 34) d_X12_load_34 fl_X12_208 (fun _ _ _ => rfl) ho6 ?_
        refine wp_iload_n (pc := 37) d_X12_load_37 rfl ?_
        obtain ⟨ho7, h⟩ := h
        obtain ⟨hi8, h⟩ := h
        refine wp_iald (pc := 38) d_X12_load_38 ho7 hi8 ?_
        refine wp_aload_n (pc := 39) d_X12_load_39 rfl ?_
        refine wp_getR (pc := 40) d_X12_load_40 fl_X12_208 (fun _ _ _ => rfl) ho6 ?_
        refine wp_iload_n (pc := 43) d_X12_load_43 rfl ?_
        refine wp_iconst (pc := 44) (v := 1) d_X12_load_44 rfl ?_
        refine wp_iadd (pc := 45) d_X12_load_45 ?_
        obtain ⟨hi9, h⟩ := h
        refine wp_iald (pc := 46) d_X12_load_46 ho7 hi9 ?_
        refine wp_iload_n (pc := 47) d_X12_load_47 rfl ?_
        refine wp_invV (pc := 48) (N := M_X12_readRow) (As := [vi _, vi _, vi _]) (rest := []) (r := (cn_12, ct_12, 95)) d_X12_load_48 ml_X12_739 mk_X12_readRow mv_X12_readRow h0 ho6 rfl rfl (Nat.le_of_ble_eq_true rfl) ?_
        refine wpM.mono h (fun rr G11 hr => ?_)
        obtain ⟨r10, rfl, h⟩ := hr
        show wp E d M_X12_load 51 [some (vr _), some (vi _), some (vi _), none] [vi _] G11 Q
        refine wp_istore_n (pc := 51) (lv' := [some (vr _), some (vi _), some (vi _), some (vi _)]) d_X12_load_51 (by decide) rfl ?_
        refine wp_aload_n (pc := 52) d_X12_load_52 rfl ?_
        obtain ⟨ho12, h⟩ := h
        refine wp_getR (pc := 53) d_X12_load_53 fl_X12_19 (fun _ _ _ => rfl) ho12 ?_
        refine wp_iload_n (pc := 56) d_X12_load_56 rfl ?_
        refine wp_iconst (pc := 57) (v := 1) d_X12_load_57 rfl ?_
        obtain ⟨ho13, h⟩ := h
        obtain ⟨hi14, h⟩ := h
        refine wp_zast (pc := 58) d_X12_load_58 ho13 hi14 ?_
        refine wp_nm (fun G15 eG15 => ?_)
        have h := h G15 eG15
        have ho16 := isO_sI eG15 ho12
        refine wp_iload_n (pc := 59) d_X12_load_59 rfl ?_
        exact wp_iret (pc := 60) d_X12_load_60 rfl h
      · have h := h.2 hc
        refine wp_ldc (pc := 24) (v := (-100000)) d_X12_load_24 ci_X12_220 ?_
        exact wp_iret (pc := 26) d_X12_load_26 rfl h
    · have h := h.2 hc
      refine wp_iconst (pc := 12) (v := (-1)) d_X12_load_12 rfl ?_
      exact wp_iret (pc := 13) d_X12_load_13 rfl h
theorem d_X12_freeSlot_0 : decode prog_14_method_49_code 0 = .ok (.iconst 0, 1) := by decide +kernel
theorem d_X12_freeSlot_1 : decode prog_14_method_49_code 1 = .ok (.istore_n 1, 1) := by decide +kernel
theorem d_X12_freeSlot_2 : decode prog_14_method_49_code 2 = .ok (.iload_n 1, 1) := by decide +kernel
theorem d_X12_freeSlot_3 : decode prog_14_method_49_code 3 = .ok (.iconst 4, 1) := by decide +kernel
theorem d_X12_freeSlot_4 : decode prog_14_method_49_code 4 = .ok (.if_icmp .ge 18, 3) := by decide +kernel
theorem d_X12_freeSlot_7 : decode prog_14_method_49_code 7 = .ok (.aload_n 0, 1) := by decide +kernel
theorem d_X12_freeSlot_8 : decode prog_14_method_49_code 8 = .ok (.getfield 19, 3) := by decide +kernel
theorem d_X12_freeSlot_11 : decode prog_14_method_49_code 11 = .ok (.iload_n 1, 1) := by decide +kernel
theorem d_X12_freeSlot_12 : decode prog_14_method_49_code 12 = .ok (.baload, 1) := by decide +kernel
theorem d_X12_freeSlot_13 : decode prog_14_method_49_code 13 = .ok (.ifCond .eq 9, 3) := by decide +kernel
theorem d_X12_freeSlot_16 : decode prog_14_method_49_code 16 = .ok (.iinc 1 1, 3) := by decide +kernel
theorem d_X12_freeSlot_19 : decode prog_14_method_49_code 19 = .ok (.goto (-17), 3) := by decide +kernel
theorem d_X12_freeSlot_22 : decode prog_14_method_49_code 22 = .ok (.iload_n 1, 1) := by decide +kernel
theorem d_X12_freeSlot_23 : decode prog_14_method_49_code 23 = .ok (.ireturn, 1) := by decide +kernel
theorem v_X12_freeSlot_0 {E : EE} {d : Nat} {Q : Option AV → AH → Prop} {x0 : Nat} {G : AH} (h : wp E d M_X12_freeSlot 2 [some (vr x0), some (vi 0)] [] G Q) : wp E d M_X12_freeSlot 0 [some (vr x0), none] [] G Q := by
  refine wp_iconst (pc := 0) (v := 0) d_X12_freeSlot_0 rfl ?_
  refine wp_istore_n (pc := 1) (lv' := [some (vr _), some (vi _)]) d_X12_freeSlot_1 (by decide) rfl ?_
  refine wp_sub ?_ h
  exact ⟨rfl, ⟨rfl, trivial⟩⟩
theorem v_X12_freeSlot_2 {E : EE} {d : Nat} {Q : Option AV → AH → Prop} {x0 : Nat} {x1 : Int32} {G : AH} (h : (4 ≤ x1 → Q (some (vi x1)) G) ∧ (¬ (4 ≤ x1) → isO E G x0 12 ∧ (isO E G (gR G x0 5) 16 ∧ (vp_in x1 (gN G (gR G x0 5)) ∧ (((gI G (gR G x0 5) (Int32.toNatClampNeg x1)) = 0 → Q (some (vi x1)) G) ∧ (¬ ((gI G (gR G x0 5) (Int32.toNatClampNeg x1)) = 0) → wp E d M_X12_freeSlot 2 [some (vr x0), some (vi (x1 + 1))] [] G Q)))))) : wp E d M_X12_freeSlot 2 [some (vr x0), some (vi x1)] [] G Q := by
  refine wp_iload_n (pc := 2) d_X12_freeSlot_2 rfl ?_
  refine wp_iconst (pc := 3) (v := 4) d_X12_freeSlot_3 rfl ?_
  refine wp_icmp_ge (pc := 4) (tgt := 22) d_X12_freeSlot_4 (by decide) (fun hc => ?_) (fun hc => ?_)
  · have h := h.1 hc
    refine wp_iload_n (pc := 22) d_X12_freeSlot_22 rfl ?_
    exact wp_iret (pc := 23) d_X12_freeSlot_23 rfl h
  · have h := h.2 hc
    refine wp_aload_n (pc := 7) d_X12_freeSlot_7 rfl ?_
    obtain ⟨ho1, h⟩ := h
    refine wp_getR (pc := 8) d_X12_freeSlot_8 fl_X12_19 (fun _ _ _ => rfl) ho1 ?_
    refine wp_iload_n (pc := 11) d_X12_freeSlot_11 rfl ?_
    obtain ⟨ho2, h⟩ := h
    obtain ⟨hi3, h⟩ := h
    refine wp_zald (pc := 12) d_X12_freeSlot_12 ho2 hi3 ?_
    refine wp_if_eq (pc := 13) (tgt := 22) d_X12_freeSlot_13 (by decide) (fun hc => ?_) (fun hc => ?_)
    · have h := h.1 hc
      refine wp_iload_n (pc := 22) d_X12_freeSlot_22 rfl ?_
      exact wp_iret (pc := 23) d_X12_freeSlot_23 rfl h
    · have h := h.2 hc
      refine wp_iinc (pc := 16) (v := 1) (lv' := [some (vr _), some (vi _)]) d_X12_freeSlot_16 (by decide) rfl rfl rfl ?_
      refine wp_goto (pc := 19) (tgt := 2) d_X12_freeSlot_19 (by decide) ?_
      refine wp_sub ?_ h
      exact ⟨rfl, ⟨rfl, trivial⟩⟩
theorem d_X12_save_0 : decode prog_14_method_173_code 0 = .ok (.aload_n 0, 1) := by decide +kernel
theorem d_X12_save_1 : decode prog_14_method_173_code 1 = .ok (.iload_n 1, 1) := by decide +kernel
theorem d_X12_save_2 : decode prog_14_method_173_code 2 = .ok (.invokevirtual 453, 3) := by decide +kernel
theorem d_X12_save_5 : decode prog_14_method_173_code 5 = .ok (.ifCond .ne 5, 3) := by decide +kernel
theorem d_X12_save_8 : decode prog_14_method_173_code 8 = .ok (.iconst (-1), 1) := by decide +kernel
theorem d_X12_save_9 : decode prog_14_method_173_code 9 = .ok (.ireturn, 1) := by decide +kernel
theorem d_X12_save_10 : decode prog_14_method_173_code 10 = .ok (.aload_n 0, 1) := by decide +kernel
theorem d_X12_save_11 : decode prog_14_method_173_code 11 = .ok (.getfield 713, 3) := by decide +kernel
theorem d_X12_save_14 : decode prog_14_method_173_code 14 = .ok (.bipush 100, 2) := by decide +kernel
theorem d_X12_save_16 : decode prog_14_method_173_code 16 = .ok (.if_icmp .eq 19, 3) := by decide +kernel
theorem d_X12_save_19 : decode prog_14_method_173_code 19 = .ok (.aload_n 0, 1) := by decide +kernel
theorem d_X12_save_20 : decode prog_14_method_173_code 20 = .ok (.getfield 708, 3) := by decide +kernel
theorem d_X12_save_23 : decode prog_14_method_173_code 23 = .ok (.aload_n 0, 1) := by decide +kernel
theorem d_X12_save_24 : decode prog_14_method_173_code 24 = .ok (.iload_n 1, 1) := by decide +kernel
theorem d_X12_save_25 : decode prog_14_method_173_code 25 = .ok (.invokevirtual 716, 3) := by decide +kernel
theorem d_X12_save_28 : decode prog_14_method_173_code 28 = .ok (.iadd, 1) := by decide +kernel
theorem d_X12_save_29 : decode prog_14_method_173_code 29 = .ok (.sipush 19990, 3) := by decide +kernel
theorem d_X12_save_32 : decode prog_14_method_173_code 32 = .ok (.if_icmp .le 6, 3) := by decide +kernel
theorem d_X12_save_35 : decode prog_14_method_173_code 35 = .ok (.ldc 220, 2) := by decide +kernel
theorem d_X12_save_37 : decode prog_14_method_173_code 37 = .ok (.ireturn, 1) := by decide +kernel
theorem d_X12_save_38 : decode prog_14_method_173_code 38 = .ok (.aload_n 0, 1) := by decide +kernel
theorem d_X12_save_39 : decode prog_14_method_173_code 39 = .ok (.getfield 708, 3) := by decide +kernel
theorem d_X12_save_42 : decode prog_14_method_173_code 42 = .ok (.istore_n 2, 1) := by decide +kernel
theorem d_X12_save_43 : decode prog_14_method_173_code 43 = .ok (.aload_n 0, 1) := by decide +kernel
theorem d_X12_save_44 : decode prog_14_method_173_code 44 = .ok (.ldc2_w 719, 3) := by decide +kernel
theorem d_X12_save_47 : decode prog_14_method_173_code 47 = .ok (.iconst 1, 1) := by decide +kernel
theorem d_X12_save_48 : decode prog_14_method_173_code 48 = .ok (.invokevirtual 721, 3) := by decide +kernel
theorem d_X12_save_51 : decode prog_14_method_173_code 51 = .ok (.aload_n 0, 1) := by decide +kernel
theorem d_X12_save_52 : decode prog_14_method_173_code 52 = .ok (.aload_n 0, 1) := by decide +kernel
theorem d_X12_save_53 : decode prog_14_method_173_code 53 = .ok (.getfield 27, 3) := by decide +kernel
theorem d_X12_save_56 : decode prog_14_method_173_code 56 = .ok (.iload_n 1, 1) := by decide +kernel
theorem d_X12_save_57 : decode prog_14_method_173_code 57 = .ok (.iaload, 1) := by decide +kernel
theorem d_X12_save_58 : decode prog_14_method_173_code 58 = .ok (.i2l, 1) := by decide +kernel
theorem d_X12_save_59 : decode prog_14_method_173_code 59 = .ok (.iconst 2, 1) := by decide +kernel
theorem d_X12_save_60 : decode prog_14_method_173_code 60 = .ok (.invokevirtual 721, 3) := by decide +kernel
theorem d_X12_save_63 : decode prog_14_method_173_code 63 = .ok (.iconst 0, 1) := by decide +kernel
theorem d_X12_save_64 : decode prog_14_method_173_code 64 = .ok (.istore_n 3, 1) := by decide +kernel
theorem d_X12_save_65 : decode prog_14_method_173_code 65 = .ok (.iload_n 3, 1) := by decide +kernel
theorem d_X12_save_66 : decode prog_14_method_173_code 66 = .ok (.aload_n 0, 1) := by decide +kernel
theorem d_X12_save_67 : decode prog_14_method_173_code 67 = .ok (.getfield 27, 3) := by decide +kernel
theorem d_X12_save_70 : decode prog_14_method_173_code 70 = .ok (.iload_n 1, 1) := by decide +kernel
theorem d_X12_save_71 : decode prog_14_method_173_code 71 = .ok (.iaload, 1) := by decide +kernel
theorem d_X12_save_72 : decode prog_14_method_173_code 72 = .ok (.if_icmp .ge 27, 3) := by decide +kernel
theorem d_X12_save_75 : decode prog_14_method_173_code 75 = .ok (.aload_n 0, 1) := by decide +kernel
theorem d_X12_save_76 : decode prog_14_method_173_code 76 = .ok (.aload_n 0, 1) := by decide +kernel
theorem d_X12_save_77 : decode prog_14_method_173_code 77 = .ok (.getfield 24, 3) := by decide +kernel
theorem d_X12_save_80 : decode prog_14_method_173_code 80 = .ok (.sipush 20000, 3) := by decide +kernel
theorem d_X12_save_83 : decode prog_14_method_173_code 83 = .ok (.iload_n 1, 1) := by decide +kernel
theorem d_X12_save_84 : decode prog_14_method_173_code 84 = .ok (.imul, 1) := by decide +kernel
theorem d_X12_save_85 : decode prog_14_method_173_code 85 = .ok (.iload_n 3, 1) := by decide +kernel
theorem d_X12_save_86 : decode prog_14_method_173_code 86 = .ok (.iadd, 1) := by decide +kernel
theorem d_X12_save_87 : decode prog_14_method_173_code 87 = .ok (.baload, 1) := by decide +kernel
theorem d_X12_save_88 : decode prog_14_method_173_code 88 = .ok (.i2l, 1) := by decide +kernel
theorem d_X12_save_89 : decode prog_14_method_173_code 89 = .ok (.iconst 1, 1) := by decide +kernel
theorem d_X12_save_90 : decode prog_14_method_173_code 90 = .ok (.invokevirtual 721, 3) := by decide +kernel
theorem d_X12_save_93 : decode prog_14_method_173_code 93 = .ok (.iinc 3 1, 3) := by decide +kernel
theorem d_X12_save_96 : decode prog_14_method_173_code 96 = .ok (.goto (-31), 3) := by decide +kernel
theorem d_X12_save_99 : decode prog_14_method_173_code 99 = .ok (.iconst 0, 1) := by decide +kernel
theorem d_X12_save_100 : decode prog_14_method_173_code 100 = .ok (.istore_n 3, 1) := by decide +kernel
theorem d_X12_save_101 : decode prog_14_method_173_code 101 = .ok (.iload_n 3, 1) := by decide +kernel
theorem d_X12_save_102 : decode prog_14_method_173_code 102 = .ok (.aload_n 0, 1) := by decide +kernel
theorem d_X12_save_103 : decode prog_14_method_173_code 103 = .ok (.getfield 58, 3) := by decide +kernel
theorem d_X12_save_106 : decode prog_14_method_173_code 106 = .ok (.iconst 4, 1) := by decide +kernel
theorem d_X12_save_107 : decode prog_14_method_173_code 107 = .ok (.iload_n 1, 1) := by decide +kernel
theorem d_X12_save_108 : decode prog_14_method_173_code 108 = .ok (.imul, 1) := by decide +kernel
theorem d_X12_save_109 : decode prog_14_method_173_code 109 = .ok (.iaload, 1) := by decide +kernel
theorem d_X12_save_110 : decode prog_14_method_173_code 110 = .ok (.if_icmp .ge 26, 3) := by decide +kernel
theorem d_X12_save_113 : decode prog_14_method_173_code 113 = .ok (.aload_n 0, 1) := by decide +kernel
theorem d_X12_save_114 : decode prog_14_method_173_code 114 = .ok (.aload_n 0, 1) := by decide +kernel
theorem d_X12_save_115 : decode prog_14_method_173_code 115 = .ok (.getfield 61, 3) := by decide +kernel
theorem d_X12_save_118 : decode prog_14_method_173_code 118 = .ok (.bipush 16, 2) := by decide +kernel
theorem d_X12_save_120 : decode prog_14_method_173_code 120 = .ok (.iload_n 1, 1) := by decide +kernel
theorem d_X12_save_121 : decode prog_14_method_173_code 121 = .ok (.imul, 1) := by decide +kernel
theorem d_X12_save_122 : decode prog_14_method_173_code 122 = .ok (.iload_n 3, 1) := by decide +kernel
theorem d_X12_save_123 : decode prog_14_method_173_code 123 = .ok (.iadd, 1) := by decide +kernel
theorem d_X12_save_124 : decode prog_14_method_173_code 124 = .ok (.iaload, 1) := by decide +kernel
theorem d_X12_save_125 : decode prog_14_method_173_code 125 = .ok (.i2l, 1) := by decide +kernel
theorem d_X12_save_126 : decode prog_14_method_173_code 126 = .ok (.iconst 4, 1) := by decide +kernel
theorem d_X12_save_127 : decode prog_14_method_173_code 127 = .ok (.invokevirtual 721, 3) := by decide +kernel
theorem d_X12_save_130 : decode prog_14_method_173_code 130 = .ok (.iinc 3 1, 3) := by decide +kernel
theorem d_X12_save_133 : decode prog_14_method_173_code 133 = .ok (.goto (-32), 3) := by decide +kernel
theorem d_X12_save_136 : decode prog_14_method_173_code 136 = .ok (.iconst 0, 1) := by decide +kernel
theorem d_X12_save_137 : decode prog_14_method_173_code 137 = .ok (.istore_n 3, 1) := by decide +kernel
theorem d_X12_save_138 : decode prog_14_method_173_code 138 = .ok (.iconst 0, 1) := by decide +kernel
theorem d_X12_save_139 : decode prog_14_method_173_code 139 = .ok (.istore 4, 2) := by decide +kernel
theorem d_X12_save_141 : decode prog_14_method_173_code 141 = .ok (.iload 4, 2) := by decide +kernel
theorem d_X12_save_143 : decode prog_14_method_173_code 143 = .ok (.aload_n 0, 1) := by decide +kernel
theorem d_X12_save_144 : decode prog_14_method_173_code 144 = .ok (.iload_n 1, 1) := by decide +kernel
theorem d_X12_save_145 : decode prog_14_method_173_code 145 = .ok (.invokevirtual 456, 3) := by decide +kernel
theorem d_X12_save_148 : decode prog_14_method_173_code 148 = .ok (.if_icmp .ge 87, 3) := by decide +kernel
theorem d_X12_save_151 : decode prog_14_method_173_code 151 = .ok (.aload_n 0, 1) := by decide +kernel
theorem d_X12_save_152 : decode prog_14_method_173_code 152 = .ok (.aload_n 0, 1) := by decide +kernel
theorem d_X12_save_153 : decode prog_14_method_173_code 153 = .ok (.getfield 70, 3) := by decide +kernel
theorem d_X12_save_156 : decode prog_14_method_173_code 156 = .ok (.bipush 20, 2) := by decide +kernel
theorem d_X12_save_158 : decode prog_14_method_173_code 158 = .ok (.bipush 12, 2) := by decide +kernel
theorem d_X12_save_160 : decode prog_14_method_173_code 160 = .ok (.iload_n 1, 1) := by decide +kernel
theorem d_X12_save_161 : decode prog_14_method_173_code 161 = .ok (.imul, 1) := by decide +kernel
theorem d_X12_save_162 : decode prog_14_method_173_code 162 = .ok (.iload 4, 2) := by decide +kernel
theorem d_X12_save_164 : decode prog_14_method_173_code 164 = .ok (.iadd, 1) := by decide +kernel
theorem d_X12_save_165 : decode prog_14_method_173_code 165 = .ok (.imul, 1) := by decide +kernel
theorem d_X12_save_166 : decode prog_14_method_173_code 166 = .ok (.aload_n 0, 1) := by decide +kernel
theorem d_X12_save_167 : decode prog_14_method_173_code 167 = .ok (.getfield 73, 3) := by decide +kernel
theorem d_X12_save_170 : decode prog_14_method_173_code 170 = .ok (.bipush 12, 2) := by decide +kernel
theorem d_X12_save_172 : decode prog_14_method_173_code 172 = .ok (.iload_n 1, 1) := by decide +kernel
theorem d_X12_save_173 : decode prog_14_method_173_code 173 = .ok (.imul, 1) := by decide +kernel
theorem d_X12_save_174 : decode prog_14_method_173_code 174 = .ok (.iload 4, 2) := by decide +kernel
theorem d_X12_save_176 : decode prog_14_method_173_code 176 = .ok (.iadd, 1) := by decide +kernel
theorem d_X12_save_177 : decode prog_14_method_173_code 177 = .ok (.iaload, 1) := by decide +kernel
theorem d_X12_save_178 : decode prog_14_method_173_code 178 = .ok (.iadd, 1) := by decide +kernel
theorem d_X12_save_179 : decode prog_14_method_173_code 179 = .ok (.iaload, 1) := by decide +kernel
theorem d_X12_save_180 : decode prog_14_method_173_code 180 = .ok (.i2l, 1) := by decide +kernel
theorem d_X12_save_181 : decode prog_14_method_173_code 181 = .ok (.iconst 1, 1) := by decide +kernel
theorem d_X12_save_182 : decode prog_14_method_173_code 182 = .ok (.invokevirtual 721, 3) := by decide +kernel
theorem d_X12_save_185 : decode prog_14_method_173_code 185 = .ok (.aload_n 0, 1) := by decide +kernel
theorem d_X12_save_186 : decode prog_14_method_173_code 186 = .ok (.aload_n 0, 1) := by decide +kernel
theorem d_X12_save_187 : decode prog_14_method_173_code 187 = .ok (.getfield 76, 3) := by decide +kernel
theorem d_X12_save_190 : decode prog_14_method_173_code 190 = .ok (.bipush 12, 2) := by decide +kernel
theorem d_X12_save_192 : decode prog_14_method_173_code 192 = .ok (.iload_n 1, 1) := by decide +kernel
theorem d_X12_save_193 : decode prog_14_method_173_code 193 = .ok (.imul, 1) := by decide +kernel
theorem d_X12_save_194 : decode prog_14_method_173_code 194 = .ok (.iload 4, 2) := by decide +kernel
theorem d_X12_save_196 : decode prog_14_method_173_code 196 = .ok (.iadd, 1) := by decide +kernel
theorem d_X12_save_197 : decode prog_14_method_173_code 197 = .ok (.iaload, 1) := by decide +kernel
theorem d_X12_save_198 : decode prog_14_method_173_code 198 = .ok (.i2l, 1) := by decide +kernel
theorem d_X12_save_199 : decode prog_14_method_173_code 199 = .ok (.iconst 2, 1) := by decide +kernel
theorem d_X12_save_200 : decode prog_14_method_173_code 200 = .ok (.invokevirtual 721, 3) := by decide +kernel
theorem d_X12_save_203 : decode prog_14_method_173_code 203 = .ok (.iload_n 3, 1) := by decide +kernel
theorem d_X12_save_204 : decode prog_14_method_173_code 204 = .ok (.aload_n 0, 1) := by decide +kernel
theorem d_X12_save_205 : decode prog_14_method_173_code 205 = .ok (.getfield 79, 3) := by decide +kernel
theorem d_X12_save_208 : decode prog_14_method_173_code 208 = .ok (.bipush 12, 2) := by decide +kernel
theorem d_X12_save_210 : decode prog_14_method_173_code 210 = .ok (.iload_n 1, 1) := by decide +kernel
theorem d_X12_save_211 : decode prog_14_method_173_code 211 = .ok (.imul, 1) := by decide +kernel
theorem d_X12_save_212 : decode prog_14_method_173_code 212 = .ok (.iload 4, 2) := by decide +kernel
theorem d_X12_save_214 : decode prog_14_method_173_code 214 = .ok (.iadd, 1) := by decide +kernel
theorem d_X12_save_215 : decode prog_14_method_173_code 215 = .ok (.baload, 1) := by decide +kernel
theorem d_X12_save_216 : decode prog_14_method_173_code 216 = .ok (.ifCond .eq 10, 3) := by decide +kernel
theorem d_X12_save_219 : decode prog_14_method_173_code 219 = .ok (.iconst 1, 1) := by decide +kernel
theorem d_X12_save_220 : decode prog_14_method_173_code 220 = .ok (.iload 4, 2) := by decide +kernel
theorem d_X12_save_222 : decode prog_14_method_173_code 222 = .ok (.ishl, 1) := by decide +kernel
theorem d_X12_save_223 : decode prog_14_method_173_code 223 = .ok (.goto 4, 3) := by decide +kernel
theorem d_X12_save_226 : decode prog_14_method_173_code 226 = .ok (.iconst 0, 1) := by decide +kernel
theorem d_X12_save_227 : decode prog_14_method_173_code 227 = .ok (.ior, 1) := by decide +kernel
theorem d_X12_save_228 : decode prog_14_method_173_code 228 = .ok (.istore_n 3, 1) := by decide +kernel
theorem d_X12_save_229 : decode prog_14_method_173_code 229 = .ok (.iinc 4 1, 3) := by decide +kernel
theorem d_X12_save_232 : decode prog_14_method_173_code 232 = .ok (.goto (-91), 3) := by decide +kernel
theorem d_X12_save_235 : decode prog_14_method_173_code 235 = .ok (.aload_n 0, 1) := by decide +kernel
theorem d_X12_save_236 : decode prog_14_method_173_code 236 = .ok (.iload_n 3, 1) := by decide +kernel
theorem d_X12_save_237 : decode prog_14_method_173_code 237 = .ok (.i2l, 1) := by decide +kernel
theorem d_X12_save_238 : decode prog_14_method_173_code 238 = .ok (.iconst 2, 1) := by decide +kernel
theorem d_X12_save_239 : decode prog_14_method_173_code 239 = .ok (.invokevirtual 721, 3) := by decide +kernel
theorem d_X12_save_242 : decode prog_14_method_173_code 242 = .ok (.lconst 0, 1) := by decide +kernel
theorem d_X12_save_243 : decode prog_14_method_173_code 243 = .ok (.lstore 4, 2) := by decide +kernel
theorem d_X12_save_245 : decode prog_14_method_173_code 245 = .ok (.iload_n 2, 1) := by decide +kernel
theorem d_X12_save_246 : decode prog_14_method_173_code 246 = .ok (.istore 6, 2) := by decide +kernel
theorem d_X12_save_248 : decode prog_14_method_173_code 248 = .ok (.iload 6, 2) := by decide +kernel
theorem d_X12_save_250 : decode prog_14_method_173_code 250 = .ok (.aload_n 0, 1) := by decide +kernel
theorem d_X12_save_251 : decode prog_14_method_173_code 251 = .ok (.getfield 708, 3) := by decide +kernel
theorem d_X12_save_254 : decode prog_14_method_173_code 254 = .ok (.if_icmp .ge 23, 3) := by decide +kernel
theorem d_X12_save_257 : decode prog_14_method_173_code 257 = .ok (.lload 4, 2) := by decide +kernel
theorem d_X12_save_259 : decode prog_14_method_173_code 259 = .ok (.aload_n 0, 1) := by decide +kernel
theorem d_X12_save_260 : decode prog_14_method_173_code 260 = .ok (.getfield 205, 3) := by decide +kernel
theorem d_X12_save_263 : decode prog_14_method_173_code 263 = .ok (.iload 6, 2) := by decide +kernel
theorem d_X12_save_265 : decode prog_14_method_173_code 265 = .ok (.baload, 1) := by decide +kernel
theorem d_X12_save_266 : decode prog_14_method_173_code 266 = .ok (.invokestatic 725, 3) := by decide +kernel
theorem d_X12_save_269 : decode prog_14_method_173_code 269 = .ok (.lstore 4, 2) := by decide +kernel
theorem d_X12_save_271 : decode prog_14_method_173_code 271 = .ok (.iinc 6 1, 3) := by decide +kernel
theorem d_X12_save_274 : decode prog_14_method_173_code 274 = .ok (.goto (-26), 3) := by decide +kernel
theorem d_X12_save_277 : decode prog_14_method_173_code 277 = .ok (.aload_n 0, 1) := by decide +kernel
theorem d_X12_save_278 : decode prog_14_method_173_code 278 = .ok (.lload 4, 2) := by decide +kernel
theorem d_X12_save_280 : decode prog_14_method_173_code 280 = .ok (.bipush 8, 2) := by decide +kernel
theorem d_X12_save_282 : decode prog_14_method_173_code 282 = .ok (.invokevirtual 721, 3) := by decide +kernel
theorem d_X12_save_285 : decode prog_14_method_173_code 285 = .ok (.aload_n 0, 1) := by decide +kernel
theorem d_X12_save_286 : decode prog_14_method_173_code 286 = .ok (.aload_n 0, 1) := by decide +kernel
theorem d_X12_save_287 : decode prog_14_method_173_code 287 = .ok (.getfield 713, 3) := by decide +kernel
theorem d_X12_save_290 : decode prog_14_method_173_code 290 = .ok (.putfield 211, 3) := by decide +kernel
theorem d_X12_save_293 : decode prog_14_method_173_code 293 = .ok (.aload_n 0, 1) := by decide +kernel
theorem d_X12_save_294 : decode prog_14_method_173_code 294 = .ok (.getfield 208, 3) := by decide +kernel
theorem d_X12_save_297 : decode prog_14_method_173_code 297 = .ok (.aload_n 0, 1) := by decide +kernel
theorem d_X12_save_298 : decode prog_14_method_173_code 298 = .ok (.getfield 713, 3) := by decide +kernel
theorem d_X12_save_301 : decode prog_14_method_173_code 301 = .ok (.iload_n 2, 1) := by decide +kernel
theorem d_X12_save_302 : decode prog_14_method_173_code 302 = .ok (.iastore, 1) := by decide +kernel
theorem d_X12_save_303 : decode prog_14_method_173_code 303 = .ok (.aload_n 0, 1) := by decide +kernel
theorem d_X12_save_304 : decode prog_14_method_173_code 304 = .ok (.dup, 1) := by decide +kernel
theorem d_X12_save_305 : decode prog_14_method_173_code 305 = .ok (.getfield 713, 3) := by decide +kernel
theorem d_X12_save_308 : decode prog_14_method_173_code 308 = .ok (.iconst 1, 1) := by decide +kernel
theorem d_X12_save_309 : decode prog_14_method_173_code 309 = .ok (.iadd, 1) := by decide +kernel
theorem d_X12_save_310 : decode prog_14_method_173_code 310 = .ok (.putfield 713, 3) := by decide +kernel
theorem d_X12_save_313 : decode prog_14_method_173_code 313 = .ok (.aload_n 0, 1) := by decide +kernel
theorem d_X12_save_314 : decode prog_14_method_173_code 314 = .ok (.getfield 208, 3) := by decide +kernel
theorem d_X12_save_317 : decode prog_14_method_173_code 317 = .ok (.aload_n 0, 1) := by decide +kernel
theorem d_X12_save_318 : decode prog_14_method_173_code 318 = .ok (.getfield 713, 3) := by decide +kernel
theorem d_X12_save_321 : decode prog_14_method_173_code 321 = .ok (.aload_n 0, 1) := by decide +kernel
theorem d_X12_save_322 : decode prog_14_method_173_code 322 = .ok (.getfield 708, 3) := by decide +kernel
theorem d_X12_save_325 : decode prog_14_method_173_code 325 = .ok (.iastore, 1) := by decide +kernel
theorem d_X12_save_326 : decode prog_14_method_173_code 326 = .ok (.aload_n 0, 1) := by decide +kernel
theorem d_X12_save_327 : decode prog_14_method_173_code 327 = .ok (.getfield 713, 3) := by decide +kernel
theorem d_X12_save_330 : decode prog_14_method_173_code 330 = .ok (.iconst 1, 1) := by decide +kernel
theorem d_X12_save_331 : decode prog_14_method_173_code 331 = .ok (.isub, 1) := by decide +kernel
theorem d_X12_save_332 : decode prog_14_method_173_code 332 = .ok (.ireturn, 1) := by decide +kernel
theorem v_X12_save_0 {E : EE} {d : Nat} {Q : Option AV → AH → Prop} {x0 : Nat} {x1 : Int32} {G : AH} (h0 : 0 < d) (h : isO E G x0 12 ∧ (wpI E (d - 1) M_X12_isProblem [vr x0, vi x1] G (fun r1 G2 => (¬ r1 = 0 → isO E G2 x0 12 ∧ (((gI G2 x0 91) = 100 → Q (some (vi (-100000))) G2) ∧ (¬ ((gI G2 x0 91) = 100) → wpI E (d - 1) M_X12_needOf [vr x0, vi x1] G2 (fun r4 G5 => (((gI G2 x0 89) + r4) ≤ 19990 → isO E G5 x0 12 ∧ (wpV E (d - 1) M_X12_storeBytes [vr x0, vj 211, vi 1] G5 (fun G7 => isO E G7 x0 12 ∧ (isO E G7 (gR G7 x0 7) 14 ∧ (vp_in x1 (gN G7 (gR G7 x0 7)) ∧ (wpV E (d - 1) M_X12_storeBytes [vr x0, vj (Int32.toInt64 (gI G7 (gR G7 x0 7) (Int32.toNatClampNeg x1))), vi 2] G7 (fun G11 => wp E d M_X12_save 65 [some (vr x0), some (vi x1), some (vi (gI G5 x0 89)), some (vi 0), none, none, none] [] G11 Q))))))) ∧ (¬ (((gI G2 x0 89) + r4) ≤ 19990) → Q (some (vi (-100000))) G5))))) ∧ (r1 = 0 → Q (some (vi (-1))) G2)))) : wp E d M_X12_save 0 [some (vr x0), some (vi x1), none, none, none, none, none] [] G Q := by
  refine wp_aload_n (pc := 0) d_X12_save_0 rfl ?_
  refine wp_iload_n (pc := 1) d_X12_save_1 rfl ?_
  obtain ⟨ho12, h⟩ := h
  refine wp_invV (pc := 2) (N := M_X12_isProblem) (As := [vi _]) (rest := []) (r := (cn_12, ct_12, 95)) d_X12_save_2 ml_X12_453 mk_X12_isProblem mv_X12_isProblem h0 ho12 rfl rfl (Nat.le_of_ble_eq_true rfl) ?_
  refine wpM.mono h (fun rr G2 hr => ?_)
  obtain ⟨r1, rfl, h⟩ := hr
  show wp E d M_X12_save 5 [some (vr _), some (vi _), none, none, none, none, none] [vi _] G2 Q
  refine wp_if_ne (pc := 5) (tgt := 10) d_X12_save_5 (by decide) (fun hc => ?_) (fun hc => ?_)
  · have h := h.1 hc
    refine wp_aload_n (pc := 10) d_X12_save_10 rfl ?_
    obtain ⟨ho3, h⟩ := h
    refine wp_getI (pc := 11) d_X12_save_11 fl_X12_713 (fun _ _ _ => rfl) ho3 ?_
    refine wp_bipush (pc := 14) (v := 100) d_X12_save_14 rfl ?_
    refine wp_icmp_eq (pc := 16) (tgt := 35) d_X12_save_16 (by decide) (fun hc => ?_) (fun hc => ?_)
    · have h := h.1 hc
      refine wp_ldc (pc := 35) (v := (-100000)) d_X12_save_35 ci_X12_220 ?_
      exact wp_iret (pc := 37) d_X12_save_37 rfl h
    · have h := h.2 hc
      refine wp_aload_n (pc := 19) d_X12_save_19 rfl ?_
      refine wp_getI (pc := 20) d_X12_save_20 fl_X12_708 (fun _ _ _ => rfl) ho3 ?_
      refine wp_aload_n (pc := 23) d_X12_save_23 rfl ?_
      refine wp_iload_n (pc := 24) d_X12_save_24 rfl ?_
      refine wp_invV (pc := 25) (N := M_X12_needOf) (As := [vi _]) (rest := [vi _]) (r := (cn_12, ct_12, 95)) d_X12_save_25 ml_X12_716 mk_X12_needOf mv_X12_needOf h0 ho3 rfl rfl (Nat.le_of_ble_eq_true rfl) ?_
      refine wpM.mono h (fun rr G5 hr => ?_)
      obtain ⟨r4, rfl, h⟩ := hr
      show wp E d M_X12_save 28 [some (vr _), some (vi _), none, none, none, none, none] [vi _, vi _] G5 Q
      refine wp_iadd (pc := 28) d_X12_save_28 ?_
      refine wp_sipush (pc := 29) (v := 19990) d_X12_save_29 rfl ?_
      refine wp_icmp_le (pc := 32) (tgt := 38) d_X12_save_32 (by decide) (fun hc => ?_) (fun hc => ?_)
      · have h := h.1 hc
        refine wp_aload_n (pc := 38) d_X12_save_38 rfl ?_
        obtain ⟨ho6, h⟩ := h
        refine wp_getI (pc := 39) d_X12_save_39 fl_X12_708 (fun _ _ _ => rfl) ho6 ?_
        refine wp_istore_n (pc := 42) (lv' := [some (vr _), some (vi _), some (vi _), none, none, none, none]) d_X12_save_42 (by decide) rfl ?_
        refine wp_aload_n (pc := 43) d_X12_save_43 rfl ?_
        refine wp_ldc2 (pc := 44) (v := 211) d_X12_save_44 cj_X12_719 ?_
        refine wp_iconst (pc := 47) (v := 1) d_X12_save_47 rfl ?_
        refine wp_invV (pc := 48) (N := M_X12_storeBytes) (As := [vj _, vi _]) (rest := []) (r := (cn_12, ct_12, 95)) d_X12_save_48 ml_X12_721 mk_X12_storeBytes mv_X12_storeBytes h0 ho6 rfl rfl (Nat.le_of_ble_eq_true rfl) ?_
        refine wpM.mono h (fun rr G7 hr => ?_)
        obtain ⟨rfl, h⟩ := hr
        show wp E d M_X12_save 51 [some (vr _), some (vi _), some (vi _), none, none, none, none] [] G7 Q
        refine wp_aload_n (pc := 51) d_X12_save_51 rfl ?_
        refine wp_aload_n (pc := 52) d_X12_save_52 rfl ?_
        obtain ⟨ho8, h⟩ := h
        refine wp_getR (pc := 53) d_X12_save_53 fl_X12_27 (fun _ _ _ => rfl) ho8 ?_
        refine wp_iload_n (pc := 56) d_X12_save_56 rfl ?_
        obtain ⟨ho9, h⟩ := h
        obtain ⟨hi10, h⟩ := h
        refine wp_iald (pc := 57) d_X12_save_57 ho9 hi10 ?_
        refine wp_i2l (pc := 58) d_X12_save_58 ?_
        refine wp_iconst (pc := 59) (v := 2) d_X12_save_59 rfl ?_
        refine wp_invV (pc := 60) (N := M_X12_storeBytes) (As := [vj _, vi _]) (rest := []) (r := (cn_12, ct_12, 95)) d_X12_save_60 ml_X12_721 mk_X12_storeBytes mv_X12_storeBytes h0 ho8 rfl rfl (Nat.le_of_ble_eq_true rfl) ?_
        refine wpM.mono h (fun rr G11 hr => ?_)
        obtain ⟨rfl, h⟩ := hr
        show wp E d M_X12_save 63 [some (vr _), some (vi _), some (vi _), none, none, none, none] [] G11 Q
        refine wp_iconst (pc := 63) (v := 0) d_X12_save_63 rfl ?_
        refine wp_istore_n (pc := 64) (lv' := [some (vr _), some (vi _), some (vi _), some (vi _), none, none, none]) d_X12_save_64 (by decide) rfl ?_
        refine wp_sub ?_ h
        exact ⟨rfl, ⟨rfl, ⟨rfl, ⟨rfl, trivial⟩⟩⟩⟩
      · have h := h.2 hc
        refine wp_ldc (pc := 35) (v := (-100000)) d_X12_save_35 ci_X12_220 ?_
        exact wp_iret (pc := 37) d_X12_save_37 rfl h
  · have h := h.2 hc
    refine wp_iconst (pc := 8) (v := (-1)) d_X12_save_8 rfl ?_
    exact wp_iret (pc := 9) d_X12_save_9 rfl h
theorem v_X12_save_65 {E : EE} {d : Nat} {Q : Option AV → AH → Prop} {x0 : Nat} {x1 : Int32} {x2 : Int32} {x3 : Int32} {G : AH} (h0 : 0 < d) (h : isO E G x0 12 ∧ (isO E G (gR G x0 7) 14 ∧ (vp_in x1 (gN G (gR G x0 7)) ∧ (((gI G (gR G x0 7) (Int32.toNatClampNeg x1)) ≤ x3 → wp E d M_X12_save 101 [some (vr x0), some (vi x1), some (vi x2), some (vi 0), none, none, none] [] G Q) ∧ (¬ ((gI G (gR G x0 7) (Int32.toNatClampNeg x1)) ≤ x3) → isO E G (gR G x0 6) 13 ∧ (vp_in ((20000 * x1) + x3) (gN G (gR G x0 6)) ∧ (wpV E (d - 1) M_X12_storeBytes [vr x0, vj (Int32.toInt64 (gI G (gR G x0 6) (Int32.toNatClampNeg ((20000 * x1) + x3)))), vi 1] G (fun G6 => wp E d M_X12_save 65 [some (vr x0), some (vi x1), some (vi x2), some (vi (x3 + 1)), none, none, none] [] G6 Q)))))))) : wp E d M_X12_save 65 [some (vr x0), some (vi x1), some (vi x2), some (vi x3), none, none, none] [] G Q := by
  refine wp_iload_n (pc := 65) d_X12_save_65 rfl ?_
  refine wp_aload_n (pc := 66) d_X12_save_66 rfl ?_
  obtain ⟨ho1, h⟩ := h
  refine wp_getR (pc := 67) d_X12_save_67 fl_X12_27 (fun _ _ _ => rfl) ho1 ?_
  refine wp_iload_n (pc := 70) d_X12_save_70 rfl ?_
  obtain ⟨ho2, h⟩ := h
  obtain ⟨hi3, h⟩ := h
  refine wp_iald (pc := 71) d_X12_save_71 ho2 hi3 ?_
  refine wp_icmp_ge (pc := 72) (tgt := 99) d_X12_save_72 (by decide) (fun hc => ?_) (fun hc => ?_)
  · have h := h.1 hc
    refine wp_iconst (pc := 99) (v := 0) d_X12_save_99 rfl ?_
    refine wp_istore_n (pc := 100) (lv' := [some (vr _), some (vi _), some (vi _), some (vi _), none, none, none]) d_X12_save_100 (by decide) rfl ?_
    refine wp_sub ?_ h
    exact ⟨rfl, ⟨rfl, ⟨rfl, ⟨rfl, trivial⟩⟩⟩⟩
  · have h := h.2 hc
    refine wp_aload_n (pc := 75) d_X12_save_75 rfl ?_
    refine wp_aload_n (pc := 76) d_X12_save_76 rfl ?_
    refine wp_getR (pc := 77) d_X12_save_77 fl_X12_24 (fun _ _ _ => rfl) ho1 ?_
    refine wp_sipush (pc := 80) (v := 20000) d_X12_save_80 rfl ?_
    refine wp_iload_n (pc := 83) d_X12_save_83 rfl ?_
    refine wp_imul (pc := 84) d_X12_save_84 ?_
    refine wp_iload_n (pc := 85) d_X12_save_85 rfl ?_
    refine wp_iadd (pc := 86) d_X12_save_86 ?_
    obtain ⟨ho4, h⟩ := h
    obtain ⟨hi5, h⟩ := h
    refine wp_bald (pc := 87) d_X12_save_87 ho4 hi5 ?_
    refine wp_i2l (pc := 88) d_X12_save_88 ?_
    refine wp_iconst (pc := 89) (v := 1) d_X12_save_89 rfl ?_
    refine wp_invV (pc := 90) (N := M_X12_storeBytes) (As := [vj _, vi _]) (rest := []) (r := (cn_12, ct_12, 95)) d_X12_save_90 ml_X12_721 mk_X12_storeBytes mv_X12_storeBytes h0 ho1 rfl rfl (Nat.le_of_ble_eq_true rfl) ?_
    refine wpM.mono h (fun rr G6 hr => ?_)
    obtain ⟨rfl, h⟩ := hr
    show wp E d M_X12_save 93 [some (vr _), some (vi _), some (vi _), some (vi _), none, none, none] [] G6 Q
    refine wp_iinc (pc := 93) (v := 1) (lv' := [some (vr _), some (vi _), some (vi _), some (vi _), none, none, none]) d_X12_save_93 (by decide) rfl rfl rfl ?_
    refine wp_goto (pc := 96) (tgt := 65) d_X12_save_96 (by decide) ?_
    refine wp_sub ?_ h
    exact ⟨rfl, ⟨rfl, ⟨rfl, ⟨rfl, trivial⟩⟩⟩⟩
theorem v_X12_save_101 {E : EE} {d : Nat} {Q : Option AV → AH → Prop} {x0 : Nat} {x1 : Int32} {x2 : Int32} {x3 : Int32} {G : AH} (h0 : 0 < d) (h : isO E G x0 12 ∧ (isO E G (gR G x0 17) 14 ∧ (vp_in (4 * x1) (gN G (gR G x0 17)) ∧ (((gI G (gR G x0 17) (Int32.toNatClampNeg (4 * x1))) ≤ x3 → wp E d M_X12_save 141 [some (vr x0), some (vi x1), some (vi x2), some (vi 0), some (vi 0), none, none] [] G Q) ∧ (¬ ((gI G (gR G x0 17) (Int32.toNatClampNeg (4 * x1))) ≤ x3) → isO E G (gR G x0 18) 14 ∧ (vp_in ((16 * x1) + x3) (gN G (gR G x0 18)) ∧ (wpV E (d - 1) M_X12_storeBytes [vr x0, vj (Int32.toInt64 (gI G (gR G x0 18) (Int32.toNatClampNeg ((16 * x1) + x3)))), vi 4] G (fun G6 => wp E d M_X12_save 101 [some (vr x0), some (vi x1), some (vi x2), some (vi (x3 + 1)), none, none, none] [] G6 Q)))))))) : wp E d M_X12_save 101 [some (vr x0), some (vi x1), some (vi x2), some (vi x3), none, none, none] [] G Q := by
  refine wp_iload_n (pc := 101) d_X12_save_101 rfl ?_
  refine wp_aload_n (pc := 102) d_X12_save_102 rfl ?_
  obtain ⟨ho1, h⟩ := h
  refine wp_getR (pc := 103) d_X12_save_103 fl_X12_58 (fun _ _ _ => rfl) ho1 ?_
  refine wp_iconst (pc := 106) (v := 4) d_X12_save_106 rfl ?_
  refine wp_iload_n (pc := 107) d_X12_save_107 rfl ?_
  refine wp_imul (pc := 108) d_X12_save_108 ?_
  obtain ⟨ho2, h⟩ := h
  obtain ⟨hi3, h⟩ := h
  refine wp_iald (pc := 109) d_X12_save_109 ho2 hi3 ?_
  refine wp_icmp_ge (pc := 110) (tgt := 136) d_X12_save_110 (by decide) (fun hc => ?_) (fun hc => ?_)
  · have h := h.1 hc
    refine wp_iconst (pc := 136) (v := 0) d_X12_save_136 rfl ?_
    refine wp_istore_n (pc := 137) (lv' := [some (vr _), some (vi _), some (vi _), some (vi _), none, none, none]) d_X12_save_137 (by decide) rfl ?_
    refine wp_iconst (pc := 138) (v := 0) d_X12_save_138 rfl ?_
    refine wp_istore (pc := 139) (lv' := [some (vr _), some (vi _), some (vi _), some (vi _), some (vi _), none, none]) d_X12_save_139 (by decide) rfl ?_
    refine wp_sub ?_ h
    exact ⟨rfl, ⟨rfl, ⟨rfl, ⟨rfl, ⟨rfl, trivial⟩⟩⟩⟩⟩
  · have h := h.2 hc
    refine wp_aload_n (pc := 113) d_X12_save_113 rfl ?_
    refine wp_aload_n (pc := 114) d_X12_save_114 rfl ?_
    refine wp_getR (pc := 115) d_X12_save_115 fl_X12_61 (fun _ _ _ => rfl) ho1 ?_
    refine wp_bipush (pc := 118) (v := 16) d_X12_save_118 rfl ?_
    refine wp_iload_n (pc := 120) d_X12_save_120 rfl ?_
    refine wp_imul (pc := 121) d_X12_save_121 ?_
    refine wp_iload_n (pc := 122) d_X12_save_122 rfl ?_
    refine wp_iadd (pc := 123) d_X12_save_123 ?_
    obtain ⟨ho4, h⟩ := h
    obtain ⟨hi5, h⟩ := h
    refine wp_iald (pc := 124) d_X12_save_124 ho4 hi5 ?_
    refine wp_i2l (pc := 125) d_X12_save_125 ?_
    refine wp_iconst (pc := 126) (v := 4) d_X12_save_126 rfl ?_
    refine wp_invV (pc := 127) (N := M_X12_storeBytes) (As := [vj _, vi _]) (rest := []) (r := (cn_12, ct_12, 95)) d_X12_save_127 ml_X12_721 mk_X12_storeBytes mv_X12_storeBytes h0 ho1 rfl rfl (Nat.le_of_ble_eq_true rfl) ?_
    refine wpM.mono h (fun rr G6 hr => ?_)
    obtain ⟨rfl, h⟩ := hr
    show wp E d M_X12_save 130 [some (vr _), some (vi _), some (vi _), some (vi _), none, none, none] [] G6 Q
    refine wp_iinc (pc := 130) (v := 1) (lv' := [some (vr _), some (vi _), some (vi _), some (vi _), none, none, none]) d_X12_save_130 (by decide) rfl rfl rfl ?_
    refine wp_goto (pc := 133) (tgt := 101) d_X12_save_133 (by decide) ?_
    refine wp_sub ?_ h
    exact ⟨rfl, ⟨rfl, ⟨rfl, ⟨rfl, trivial⟩⟩⟩⟩
theorem v_X12_save_141 {E : EE} {d : Nat} {Q : Option AV → AH → Prop} {x0 : Nat} {x1 : Int32} {x2 : Int32} {x3 : Int32} {x4 : Int32} {G : AH} (h0 : 0 < d) (h : isO E G x0 12 ∧ (wpI E (d - 1) M_X12_vars [vr x0, vi x1] G (fun r1 G2 => (r1 ≤ x4 → isO E G2 x0 12 ∧ (wpV E (d - 1) M_X12_storeBytes [vr x0, vj (Int32.toInt64 x3), vi 2] G2 (fun G3 => wp E d M_X12_save 248 [some (vr x0), some (vi x1), some (vi x2), some (vi x3), some (vj 0), none, some (vi x2)] [] G3 Q))) ∧ (¬ (r1 ≤ x4) → isO E G2 x0 12 ∧ (isO E G2 (gR G2 x0 22) 14 ∧ (vp_in ((12 * x1) + x4) (gN G2 (gR G2 x0 22)) ∧ (isO E G2 (gR G2 x0 21) 14 ∧ (vp_in ((20 * ((12 * x1) + x4)) + (gI G2 (gR G2 x0 22) (Int32.toNatClampNeg ((12 * x1) + x4)))) (gN G2 (gR G2 x0 21)) ∧ (wpV E (d - 1) M_X12_storeBytes [vr x0, vj (Int32.toInt64 (gI G2 (gR G2 x0 21) (Int32.toNatClampNeg ((20 * ((12 * x1) + x4)) + (gI G2 (gR G2 x0 22) (Int32.toNatClampNeg ((12 * x1) + x4))))))), vi 1] G2 (fun G10 => isO E G10 x0 12 ∧ (isO E G10 (gR G10 x0 23) 14 ∧ (vp_in ((12 * x1) + x4) (gN G10 (gR G10 x0 23)) ∧ (wpV E (d - 1) M_X12_storeBytes [vr x0, vj (Int32.toInt64 (gI G10 (gR G10 x0 23) (Int32.toNatClampNeg ((12 * x1) + x4)))), vi 2] G10 (fun G14 => isO E G14 x0 12 ∧ (isO E G14 (gR G14 x0 24) 16 ∧ (vp_in ((12 * x1) + x4) (gN G14 (gR G14 x0 24)) ∧ (((gI G14 (gR G14 x0 24) (Int32.toNatClampNeg ((12 * x1) + x4))) = 0 → wp E d M_X12_save 227 [some (vr x0), some (vi x1), some (vi x2), some (vi x3), some (vi x4), none, none] [vi 0, vi x3] G14 Q) ∧ (¬ ((gI G14 (gR G14 x0 24) (Int32.toNatClampNeg ((12 * x1) + x4))) = 0) → wp E d M_X12_save 227 [some (vr x0), some (vi x1), some (vi x2), some (vi x3), some (vi x4), none, none] [vi (1 <<< (x4 &&& 31)), vi x3] G14 Q)))))))))))))))))) : wp E d M_X12_save 141 [some (vr x0), some (vi x1), some (vi x2), some (vi x3), some (vi x4), none, none] [] G Q := by
  refine wp_iload (pc := 141) d_X12_save_141 rfl ?_
  refine wp_aload_n (pc := 143) d_X12_save_143 rfl ?_
  refine wp_iload_n (pc := 144) d_X12_save_144 rfl ?_
  obtain ⟨ho18, h⟩ := h
  refine wp_invV (pc := 145) (N := M_X12_vars) (As := [vi _]) (rest := [vi _]) (r := (cn_12, ct_12, 95)) d_X12_save_145 ml_X12_456 mk_X12_vars mv_X12_vars h0 ho18 rfl rfl (Nat.le_of_ble_eq_true rfl) ?_
  refine wpM.mono h (fun rr G2 hr => ?_)
  obtain ⟨r1, rfl, h⟩ := hr
  show wp E d M_X12_save 148 [some (vr _), some (vi _), some (vi _), some (vi _), some (vi _), none, none] [vi _, vi _] G2 Q
  refine wp_icmp_ge (pc := 148) (tgt := 235) d_X12_save_148 (by decide) (fun hc => ?_) (fun hc => ?_)
  · have h := h.1 hc
    refine wp_aload_n (pc := 235) d_X12_save_235 rfl ?_
    refine wp_iload_n (pc := 236) d_X12_save_236 rfl ?_
    refine wp_i2l (pc := 237) d_X12_save_237 ?_
    refine wp_iconst (pc := 238) (v := 2) d_X12_save_238 rfl ?_
    obtain ⟨ho4, h⟩ := h
    refine wp_invV (pc := 239) (N := M_X12_storeBytes) (As := [vj _, vi _]) (rest := []) (r := (cn_12, ct_12, 95)) d_X12_save_239 ml_X12_721 mk_X12_storeBytes mv_X12_storeBytes h0 ho4 rfl rfl (Nat.le_of_ble_eq_true rfl) ?_
    refine wpM.mono h (fun rr G3 hr => ?_)
    obtain ⟨rfl, h⟩ := hr
    show wp E d M_X12_save 242 [some (vr _), some (vi _), some (vi _), some (vi _), some (vi _), none, none] [] G3 Q
    refine wp_lconst (pc := 242) (v := 0) d_X12_save_242 rfl ?_
    refine wp_lstore (pc := 243) (lv' := [some (vr _), some (vi _), some (vi _), some (vi _), some (vj _), none, none]) d_X12_save_243 (by decide) rfl ?_
    refine wp_iload_n (pc := 245) d_X12_save_245 rfl ?_
    refine wp_istore (pc := 246) (lv' := [some (vr _), some (vi _), some (vi _), some (vi _), some (vj _), none, some (vi _)]) d_X12_save_246 (by decide) rfl ?_
    refine wp_sub ?_ h
    exact ⟨rfl, ⟨rfl, ⟨rfl, ⟨rfl, ⟨rfl, ⟨rfl, trivial⟩⟩⟩⟩⟩⟩
  · have h := h.2 hc
    refine wp_aload_n (pc := 151) d_X12_save_151 rfl ?_
    refine wp_aload_n (pc := 152) d_X12_save_152 rfl ?_
    obtain ⟨ho5, h⟩ := h
    refine wp_getR (pc := 153) d_X12_save_153 fl_X12_70 (fun _ _ _ => rfl) ho5 ?_
    refine wp_bipush (pc := 156) (v := 20) d_X12_save_156 rfl ?_
    refine wp_bipush (pc := 158) (v := 12) d_X12_save_158 rfl ?_
    refine wp_iload_n (pc := 160) d_X12_save_160 rfl ?_
    refine wp_imul (pc := 161) d_X12_save_161 ?_
    refine wp_iload (pc := 162) d_X12_save_162 rfl ?_
    refine wp_iadd (pc := 164) d_X12_save_164 ?_
    refine wp_imul (pc := 165) d_X12_save_165 ?_
    refine wp_aload_n (pc := 166) d_X12_save_166 rfl ?_
    refine wp_getR (pc := 167) d_X12_save_167 fl_X12_73 (fun _ _ _ => rfl) ho5 ?_
    refine wp_bipush (pc := 170) (v := 12) d_X12_save_170 rfl ?_
    refine wp_iload_n (pc := 172) d_X12_save_172 rfl ?_
    refine wp_imul (pc := 173) d_X12_save_173 ?_
    refine wp_iload (pc := 174) d_X12_save_174 rfl ?_
    refine wp_iadd (pc := 176) d_X12_save_176 ?_
    obtain ⟨ho6, h⟩ := h
    obtain ⟨hi7, h⟩ := h
    refine wp_iald (pc := 177) d_X12_save_177 ho6 hi7 ?_
    refine wp_iadd (pc := 178) d_X12_save_178 ?_
    obtain ⟨ho8, h⟩ := h
    obtain ⟨hi9, h⟩ := h
    refine wp_iald (pc := 179) d_X12_save_179 ho8 hi9 ?_
    refine wp_i2l (pc := 180) d_X12_save_180 ?_
    refine wp_iconst (pc := 181) (v := 1) d_X12_save_181 rfl ?_
    refine wp_invV (pc := 182) (N := M_X12_storeBytes) (As := [vj _, vi _]) (rest := []) (r := (cn_12, ct_12, 95)) d_X12_save_182 ml_X12_721 mk_X12_storeBytes mv_X12_storeBytes h0 ho5 rfl rfl (Nat.le_of_ble_eq_true rfl) ?_
    refine wpM.mono h (fun rr G10 hr => ?_)
    obtain ⟨rfl, h⟩ := hr
    show wp E d M_X12_save 185 [some (vr _), some (vi _), some (vi _), some (vi _), some (vi _), none, none] [] G10 Q
    refine wp_aload_n (pc := 185) d_X12_save_185 rfl ?_
    refine wp_aload_n (pc := 186) d_X12_save_186 rfl ?_
    obtain ⟨ho11, h⟩ := h
    refine wp_getR (pc := 187) d_X12_save_187 fl_X12_76 (fun _ _ _ => rfl) ho11 ?_
    refine wp_bipush (pc := 190) (v := 12) d_X12_save_190 rfl ?_
    refine wp_iload_n (pc := 192) d_X12_save_192 rfl ?_
    refine wp_imul (pc := 193) d_X12_save_193 ?_
    refine wp_iload (pc := 194) d_X12_save_194 rfl ?_
    refine wp_iadd (pc := 196) d_X12_save_196 ?_
    obtain ⟨ho12, h⟩ := h
    obtain ⟨hi13, h⟩ := h
    refine wp_iald (pc := 197) d_X12_save_197 ho12 hi13 ?_
    refine wp_i2l (pc := 198) d_X12_save_198 ?_
    refine wp_iconst (pc := 199) (v := 2) d_X12_save_199 rfl ?_
    refine wp_invV (pc := 200) (N := M_X12_storeBytes) (As := [vj _, vi _]) (rest := []) (r := (cn_12, ct_12, 95)) d_X12_save_200 ml_X12_721 mk_X12_storeBytes mv_X12_storeBytes h0 ho11 rfl rfl (Nat.le_of_ble_eq_true rfl) ?_
    refine wpM.mono h (fun rr G14 hr => ?_)
    obtain ⟨rfl, h⟩ := hr
    show wp E d M_X12_save 203 [some (vr _), some (vi _), some (vi _), some (vi _), some (vi _), none, none] [] G14 Q
    refine wp_iload_n (pc := 203) d_X12_save_203 rfl ?_
    refine wp_aload_n (pc := 204) d_X12_save_204 rfl ?_
    obtain ⟨ho15, h⟩ := h
    refine wp_getR (pc := 205) d_X12_save_205 fl_X12_79 (fun _ _ _ => rfl) ho15 ?_
    refine wp_bipush (pc := 208) (v := 12) d_X12_save_208 rfl ?_
    refine wp_iload_n (pc := 210) d_X12_save_210 rfl ?_
    refine wp_imul (pc := 211) d_X12_save_211 ?_
    refine wp_iload (pc := 212) d_X12_save_212 rfl ?_
    refine wp_iadd (pc := 214) d_X12_save_214 ?_
    obtain ⟨ho16, h⟩ := h
    obtain ⟨hi17, h⟩ := h
    refine wp_zald (pc := 215) d_X12_save_215 ho16 hi17 ?_
    refine wp_if_eq (pc := 216) (tgt := 226) d_X12_save_216 (by decide) (fun hc => ?_) (fun hc => ?_)
    · have h := h.1 hc
      refine wp_iconst (pc := 226) (v := 0) d_X12_save_226 rfl ?_
      refine wp_sub ?_ h
      exact ⟨rfl, ⟨rfl, ⟨rfl, ⟨rfl, ⟨rfl, trivial⟩⟩⟩⟩⟩
    · have h := h.2 hc
      refine wp_iconst (pc := 219) (v := 1) d_X12_save_219 rfl ?_
      refine wp_iload (pc := 220) d_X12_save_220 rfl ?_
      refine wp_ishl (pc := 222) d_X12_save_222 ?_
      refine wp_goto (pc := 223) (tgt := 227) d_X12_save_223 (by decide) ?_
      refine wp_sub ?_ h
      exact ⟨rfl, ⟨rfl, ⟨rfl, ⟨rfl, ⟨rfl, trivial⟩⟩⟩⟩⟩
theorem v_X12_save_227 {E : EE} {d : Nat} {Q : Option AV → AH → Prop} {x0 : Nat} {x1 : Int32} {x2 : Int32} {x3 : Int32} {x4 : Int32} {t0 : Int32} {t1 : Int32} {G : AH} (h : wp E d M_X12_save 141 [some (vr x0), some (vi x1), some (vi x2), some (vi (t0 ||| t1)), some (vi (x4 + 1)), none, none] [] G Q) : wp E d M_X12_save 227 [some (vr x0), some (vi x1), some (vi x2), some (vi x3), some (vi x4), none, none] [vi t1, vi t0] G Q := by
  refine wp_ior (pc := 227) d_X12_save_227 ?_
  refine wp_istore_n (pc := 228) (lv' := [some (vr _), some (vi _), some (vi _), some (vi _), some (vi _), none, none]) d_X12_save_228 (by decide) rfl ?_
  refine wp_iinc (pc := 229) (v := 1) (lv' := [some (vr _), some (vi _), some (vi _), some (vi _), some (vi _), none, none]) d_X12_save_229 (by decide) rfl rfl rfl ?_
  refine wp_goto (pc := 232) (tgt := 141) d_X12_save_232 (by decide) ?_
  refine wp_sub ?_ h
  exact ⟨rfl, ⟨rfl, ⟨rfl, ⟨rfl, ⟨rfl, trivial⟩⟩⟩⟩⟩
theorem v_X12_save_248 {E : EE} {d : Nat} {Q : Option AV → AH → Prop} {x0 : Nat} {x1 : Int32} {x2 : Int32} {x3 : Int32} {x4 : Int64} {x6 : Int32} {G : AH} (h0 : 0 < d) (h : isO E G x0 12 ∧ (((gI G x0 89) ≤ x6 → wpV E (d - 1) M_X12_storeBytes [vr x0, vj x4, vi 8] G (fun G2 => isO E G2 x0 12 ∧ (∀ G4 : AH, G4 = sI G2 x0 92 (gI G2 x0 91) → isO E G4 (gR G4 x0 90) 14 ∧ (vp_in (gI G4 x0 91) (gN G4 (gR G4 x0 90)) ∧ (∀ G8 : AH, G8 = sI G4 (gR G4 x0 90) (Int32.toNatClampNeg (gI G4 x0 91)) x2 → ∀ G10 : AH, G10 = sI G8 x0 91 ((gI G8 x0 91) + 1) → isO E G10 (gR G10 x0 90) 14 ∧ (vp_in (gI G10 x0 91) (gN G10 (gR G10 x0 90)) ∧ (∀ G14 : AH, G14 = sI G10 (gR G10 x0 90) (Int32.toNatClampNeg (gI G10 x0 91)) (gI G10 x0 89) → Q (some (vi ((gI G14 x0 91) - 1))) G14))))))) ∧ (¬ ((gI G x0 89) ≤ x6) → isO E G (gR G x0 88) 13 ∧ (vp_in x6 (gN G (gR G x0 88)) ∧ (wpJ E (d - 1) M_X12_mixed [vj x4, vi (gI G (gR G x0 88) (Int32.toNatClampNeg x6))] G (fun r18 G19 => wp E d M_X12_save 248 [some (vr x0), some (vi x1), some (vi x2), some (vi x3), some (vj r18), none, some (vi (x6 + 1))] [] G19 Q)))))) : wp E d M_X12_save 248 [some (vr x0), some (vi x1), some (vi x2), some (vi x3), some (vj x4), none, some (vi x6)] [] G Q := by
  refine wp_iload (pc := 248) d_X12_save_248 rfl ?_
  refine wp_aload_n (pc := 250) d_X12_save_250 rfl ?_
  obtain ⟨ho1, h⟩ := h
  refine wp_getI (pc := 251) d_X12_save_251 fl_X12_708 (fun _ _ _ => rfl) ho1 ?_
  refine wp_icmp_ge (pc := 254) (tgt := 277) d_X12_save_254 (by decide) (fun hc => ?_) (fun hc => ?_)
  · have h := h.1 hc
    refine wp_aload_n (pc := 277) d_X12_save_277 rfl ?_
    refine wp_lload (pc := 278) d_X12_save_278 rfl ?_
    refine wp_bipush (pc := 280) (v := 8) d_X12_save_280 rfl ?_
    refine wp_invV (pc := 282) (N := M_X12_storeBytes) (As := [vj _, vi _]) (rest := []) (r := (cn_12, ct_12, 95)) d_X12_save_282 ml_X12_721 mk_X12_storeBytes mv_X12_storeBytes h0 ho1 rfl rfl (Nat.le_of_ble_eq_true rfl) ?_
    refine wpM.mono h (fun rr G2 hr => ?_)
    obtain ⟨rfl, h⟩ := hr
    show wp E d M_X12_save 285 [some (vr _), some (vi _), some (vi _), some (vi _), some (vj _), none, some (vi _)] [] G2 Q
    refine wp_aload_n (pc := 285) d_X12_save_285 rfl ?_
    refine wp_aload_n (pc := 286) d_X12_save_286 rfl ?_
    obtain ⟨ho3, h⟩ := h
    refine wp_getI (pc := 287) d_X12_save_287 fl_X12_713 (fun _ _ _ => rfl) ho3 ?_
    refine wp_putI (pc := 290) d_X12_save_290 fl_X12_211 (fun _ _ _ => rfl) (Or.inl rfl) ho3 (okI_int _) ?_
    refine wp_nm (fun G4 eG4 => ?_)
    have h := h G4 eG4
    have ho5 := isO_sI eG4 ho3
    refine wp_aload_n (pc := 293) d_X12_save_293 rfl ?_
    refine wp_getR (pc := 294) d_X12_save_294 fl_X12_208 (fun _ _ _ => rfl) ho5 ?_
    refine wp_aload_n (pc := 297) d_X12_save_297 rfl ?_
    refine wp_getI (pc := 298) d_X12_save_298 fl_X12_713 (fun _ _ _ => rfl) ho5 ?_
    refine wp_iload_n (pc := 301) d_X12_save_301 rfl ?_
    obtain ⟨ho6, h⟩ := h
    obtain ⟨hi7, h⟩ := h
    refine wp_iast (pc := 302) d_X12_save_302 ho6 hi7 ?_
    refine wp_nm (fun G8 eG8 => ?_)
    have h := h G8 eG8
    have ho9 := isO_sI eG8 ho5
    refine wp_aload_n (pc := 303) d_X12_save_303 rfl ?_
    refine wp_dup (pc := 304) d_X12_save_304 (c1_r _) ?_
    refine wp_getI (pc := 305) d_X12_save_305 fl_X12_713 (fun _ _ _ => rfl) ho9 ?_
    refine wp_iconst (pc := 308) (v := 1) d_X12_save_308 rfl ?_
    refine wp_iadd (pc := 309) d_X12_save_309 ?_
    refine wp_putI (pc := 310) d_X12_save_310 fl_X12_713 (fun _ _ _ => rfl) (Or.inl rfl) ho9 (okI_int _) ?_
    refine wp_nm (fun G10 eG10 => ?_)
    have h := h G10 eG10
    have ho11 := isO_sI eG10 ho9
    refine wp_aload_n (pc := 313) d_X12_save_313 rfl ?_
    refine wp_getR (pc := 314) d_X12_save_314 fl_X12_208 (fun _ _ _ => rfl) ho11 ?_
    refine wp_aload_n (pc := 317) d_X12_save_317 rfl ?_
    refine wp_getI (pc := 318) d_X12_save_318 fl_X12_713 (fun _ _ _ => rfl) ho11 ?_
    refine wp_aload_n (pc := 321) d_X12_save_321 rfl ?_
    refine wp_getI (pc := 322) d_X12_save_322 fl_X12_708 (fun _ _ _ => rfl) ho11 ?_
    obtain ⟨ho12, h⟩ := h
    obtain ⟨hi13, h⟩ := h
    refine wp_iast (pc := 325) d_X12_save_325 ho12 hi13 ?_
    refine wp_nm (fun G14 eG14 => ?_)
    have h := h G14 eG14
    have ho15 := isO_sI eG14 ho11
    refine wp_aload_n (pc := 326) d_X12_save_326 rfl ?_
    refine wp_getI (pc := 327) d_X12_save_327 fl_X12_713 (fun _ _ _ => rfl) ho15 ?_
    refine wp_iconst (pc := 330) (v := 1) d_X12_save_330 rfl ?_
    refine wp_isub (pc := 331) d_X12_save_331 ?_
    exact wp_iret (pc := 332) d_X12_save_332 rfl h
  · have h := h.2 hc
    refine wp_lload (pc := 257) d_X12_save_257 rfl ?_
    refine wp_aload_n (pc := 259) d_X12_save_259 rfl ?_
    refine wp_getR (pc := 260) d_X12_save_260 fl_X12_205 (fun _ _ _ => rfl) ho1 ?_
    refine wp_iload (pc := 263) d_X12_save_263 rfl ?_
    obtain ⟨ho16, h⟩ := h
    obtain ⟨hi17, h⟩ := h
    refine wp_bald (pc := 265) d_X12_save_265 ho16 hi17 ?_
    refine wp_invS (pc := 266) (N := M_X12_mixed) (As := [vj _, vi _]) (rest := []) d_X12_save_266 ml_X12_725 mk_X12_mixed ms_X12_mixed h0 (Nat.le_of_ble_eq_true rfl) ?_
    refine wpM.mono h (fun rr G19 hr => ?_)
    obtain ⟨r18, rfl, h⟩ := hr
    show wp E d M_X12_save 269 [some (vr _), some (vi _), some (vi _), some (vi _), some (vj _), none, some (vi _)] [vj _] G19 Q
    refine wp_lstore (pc := 269) (lv' := [some (vr _), some (vi _), some (vi _), some (vi _), some (vj _), none, some (vi _)]) d_X12_save_269 (by decide) rfl ?_
    refine wp_iinc (pc := 271) (v := 1) (lv' := [some (vr _), some (vi _), some (vi _), some (vi _), some (vj _), none, some (vi _)]) d_X12_save_271 (by decide) rfl rfl rfl ?_
    refine wp_goto (pc := 274) (tgt := 248) d_X12_save_274 (by decide) ?_
    refine wp_sub ?_ h
    exact ⟨rfl, ⟨rfl, ⟨rfl, ⟨rfl, ⟨rfl, ⟨rfl, trivial⟩⟩⟩⟩⟩⟩
theorem d_X12_isProblem_0 : decode prog_14_method_52_code 0 = .ok (.iload_n 1, 1) := by decide +kernel
theorem d_X12_isProblem_1 : decode prog_14_method_52_code 1 = .ok (.ifCond .lt 21, 3) := by decide +kernel
theorem d_X12_isProblem_4 : decode prog_14_method_52_code 4 = .ok (.iload_n 1, 1) := by decide +kernel
theorem d_X12_isProblem_5 : decode prog_14_method_52_code 5 = .ok (.iconst 4, 1) := by decide +kernel
theorem d_X12_isProblem_6 : decode prog_14_method_52_code 6 = .ok (.if_icmp .ge 16, 3) := by decide +kernel
theorem d_X12_isProblem_9 : decode prog_14_method_52_code 9 = .ok (.aload_n 0, 1) := by decide +kernel
theorem d_X12_isProblem_10 : decode prog_14_method_52_code 10 = .ok (.getfield 19, 3) := by decide +kernel
theorem d_X12_isProblem_13 : decode prog_14_method_52_code 13 = .ok (.iload_n 1, 1) := by decide +kernel
theorem d_X12_isProblem_14 : decode prog_14_method_52_code 14 = .ok (.baload, 1) := by decide +kernel
theorem d_X12_isProblem_15 : decode prog_14_method_52_code 15 = .ok (.ifCond .eq 7, 3) := by decide +kernel
theorem d_X12_isProblem_18 : decode prog_14_method_52_code 18 = .ok (.iconst 1, 1) := by decide +kernel
theorem d_X12_isProblem_19 : decode prog_14_method_52_code 19 = .ok (.goto 4, 3) := by decide +kernel
theorem d_X12_isProblem_22 : decode prog_14_method_52_code 22 = .ok (.iconst 0, 1) := by decide +kernel
theorem d_X12_isProblem_23 : decode prog_14_method_52_code 23 = .ok (.ireturn, 1) := by decide +kernel
theorem v_X12_isProblem_0 {E : EE} {d : Nat} {Q : Option AV → AH → Prop} {x0 : Nat} {x1 : Int32} {G : AH} (h : (x1 < 0 → Q (some (vi 0)) G) ∧ (¬ (x1 < 0) → (4 ≤ x1 → Q (some (vi 0)) G) ∧ (¬ (4 ≤ x1) → isO E G x0 12 ∧ (isO E G (gR G x0 5) 16 ∧ (vp_in x1 (gN G (gR G x0 5)) ∧ (((gI G (gR G x0 5) (Int32.toNatClampNeg x1)) = 0 → Q (some (vi 0)) G) ∧ (¬ ((gI G (gR G x0 5) (Int32.toNatClampNeg x1)) = 0) → Q (some (vi 1)) G))))))) : wp E d M_X12_isProblem 0 [some (vr x0), some (vi x1)] [] G Q := by
  refine wp_iload_n (pc := 0) d_X12_isProblem_0 rfl ?_
  refine wp_if_lt (pc := 1) (tgt := 22) d_X12_isProblem_1 (by decide) (fun hc => ?_) (fun hc => ?_)
  · have h := h.1 hc
    refine wp_iconst (pc := 22) (v := 0) d_X12_isProblem_22 rfl ?_
    exact wp_zret (pc := 23) d_X12_isProblem_23 rfl rfl h
  · have h := h.2 hc
    refine wp_iload_n (pc := 4) d_X12_isProblem_4 rfl ?_
    refine wp_iconst (pc := 5) (v := 4) d_X12_isProblem_5 rfl ?_
    refine wp_icmp_ge (pc := 6) (tgt := 22) d_X12_isProblem_6 (by decide) (fun hc => ?_) (fun hc => ?_)
    · have h := h.1 hc
      refine wp_iconst (pc := 22) (v := 0) d_X12_isProblem_22 rfl ?_
      exact wp_zret (pc := 23) d_X12_isProblem_23 rfl rfl h
    · have h := h.2 hc
      refine wp_aload_n (pc := 9) d_X12_isProblem_9 rfl ?_
      obtain ⟨ho1, h⟩ := h
      refine wp_getR (pc := 10) d_X12_isProblem_10 fl_X12_19 (fun _ _ _ => rfl) ho1 ?_
      refine wp_iload_n (pc := 13) d_X12_isProblem_13 rfl ?_
      obtain ⟨ho2, h⟩ := h
      obtain ⟨hi3, h⟩ := h
      refine wp_zald (pc := 14) d_X12_isProblem_14 ho2 hi3 ?_
      refine wp_if_eq (pc := 15) (tgt := 22) d_X12_isProblem_15 (by decide) (fun hc => ?_) (fun hc => ?_)
      · have h := h.1 hc
        refine wp_iconst (pc := 22) (v := 0) d_X12_isProblem_22 rfl ?_
        exact wp_zret (pc := 23) d_X12_isProblem_23 rfl rfl h
      · have h := h.2 hc
        refine wp_iconst (pc := 18) (v := 1) d_X12_isProblem_18 rfl ?_
        refine wp_goto (pc := 19) (tgt := 23) d_X12_isProblem_19 (by decide) ?_
        exact wp_zret (pc := 23) d_X12_isProblem_23 rfl rfl h
theorem d_X12_storeBytes_0 : decode prog_14_method_170_code 0 = .ok (.iload_n 3, 1) := by decide +kernel
theorem d_X12_storeBytes_1 : decode prog_14_method_170_code 1 = .ok (.iconst 1, 1) := by decide +kernel
theorem d_X12_storeBytes_2 : decode prog_14_method_170_code 2 = .ok (.isub, 1) := by decide +kernel
theorem d_X12_storeBytes_3 : decode prog_14_method_170_code 3 = .ok (.istore 4, 2) := by decide +kernel
theorem d_X12_storeBytes_5 : decode prog_14_method_170_code 5 = .ok (.iload 4, 2) := by decide +kernel
theorem d_X12_storeBytes_7 : decode prog_14_method_170_code 7 = .ok (.ifCond .lt 37, 3) := by decide +kernel
theorem d_X12_storeBytes_10 : decode prog_14_method_170_code 10 = .ok (.aload_n 0, 1) := by decide +kernel
theorem d_X12_storeBytes_11 : decode prog_14_method_170_code 11 = .ok (.getfield 205, 3) := by decide +kernel
theorem d_X12_storeBytes_14 : decode prog_14_method_170_code 14 = .ok (.aload_n 0, 1) := by decide +kernel
theorem d_X12_storeBytes_15 : decode prog_14_method_170_code 15 = .ok (.getfield 708, 3) := by decide +kernel
theorem d_X12_storeBytes_18 : decode prog_14_method_170_code 18 = .ok (.lload_n 1, 1) := by decide +kernel
theorem d_X12_storeBytes_19 : decode prog_14_method_170_code 19 = .ok (.bipush 8, 2) := by decide +kernel
theorem d_X12_storeBytes_21 : decode prog_14_method_170_code 21 = .ok (.iload 4, 2) := by decide +kernel
theorem d_X12_storeBytes_23 : decode prog_14_method_170_code 23 = .ok (.imul, 1) := by decide +kernel
theorem d_X12_storeBytes_24 : decode prog_14_method_170_code 24 = .ok (.lshr, 1) := by decide +kernel
theorem d_X12_storeBytes_25 : decode prog_14_method_170_code 25 = .ok (.l2i, 1) := by decide +kernel
theorem d_X12_storeBytes_26 : decode prog_14_method_170_code 26 = .ok (.i2b, 1) := by decide +kernel
theorem d_X12_storeBytes_27 : decode prog_14_method_170_code 27 = .ok (.bastore, 1) := by decide +kernel
theorem d_X12_storeBytes_28 : decode prog_14_method_170_code 28 = .ok (.aload_n 0, 1) := by decide +kernel
theorem d_X12_storeBytes_29 : decode prog_14_method_170_code 29 = .ok (.dup, 1) := by decide +kernel
theorem d_X12_storeBytes_30 : decode prog_14_method_170_code 30 = .ok (.getfield 708, 3) := by decide +kernel
theorem d_X12_storeBytes_33 : decode prog_14_method_170_code 33 = .ok (.iconst 1, 1) := by decide +kernel
theorem d_X12_storeBytes_34 : decode prog_14_method_170_code 34 = .ok (.iadd, 1) := by decide +kernel
theorem d_X12_storeBytes_35 : decode prog_14_method_170_code 35 = .ok (.putfield 708, 3) := by decide +kernel
theorem d_X12_storeBytes_38 : decode prog_14_method_170_code 38 = .ok (.iinc 4 (-1), 3) := by decide +kernel
theorem d_X12_storeBytes_41 : decode prog_14_method_170_code 41 = .ok (.goto (-36), 3) := by decide +kernel
theorem d_X12_storeBytes_44 : decode prog_14_method_170_code 44 = .ok (.return_, 1) := by decide +kernel
theorem v_X12_storeBytes_0 {E : EE} {d : Nat} {Q : Option AV → AH → Prop} {x0 : Nat} {x1 : Int64} {x3 : Int32} {G : AH} (h : wp E d M_X12_storeBytes 5 [some (vr x0), some (vj x1), none, some (vi x3), some (vi (x3 - 1))] [] G Q) : wp E d M_X12_storeBytes 0 [some (vr x0), some (vj x1), none, some (vi x3), none] [] G Q := by
  refine wp_iload_n (pc := 0) d_X12_storeBytes_0 rfl ?_
  refine wp_iconst (pc := 1) (v := 1) d_X12_storeBytes_1 rfl ?_
  refine wp_isub (pc := 2) d_X12_storeBytes_2 ?_
  refine wp_istore (pc := 3) (lv' := [some (vr _), some (vj _), none, some (vi _), some (vi _)]) d_X12_storeBytes_3 (by decide) rfl ?_
  refine wp_sub ?_ h
  exact ⟨rfl, ⟨rfl, ⟨rfl, ⟨rfl, trivial⟩⟩⟩⟩
theorem v_X12_storeBytes_5 {E : EE} {d : Nat} {Q : Option AV → AH → Prop} {x0 : Nat} {x1 : Int64} {x3 : Int32} {x4 : Int32} {G : AH} (h : (x4 < 0 → Q none G) ∧ (¬ (x4 < 0) → isO E G x0 12 ∧ (isO E G (gR G x0 88) 13 ∧ (vp_in (gI G x0 89) (gN G (gR G x0 88)) ∧ (∀ G4 : AH, G4 = sI G (gR G x0 88) (Int32.toNatClampNeg (gI G x0 89)) (i2b (i2b (Int64.toInt32 (x1 >>> (Int32.toInt64 (8 * x4) &&& 63))))) → ∀ G6 : AH, G6 = sI G4 x0 89 ((gI G4 x0 89) + 1) → wp E d M_X12_storeBytes 5 [some (vr x0), some (vj x1), none, some (vi x3), some (vi (x4 + (-1)))] [] G6 Q))))) : wp E d M_X12_storeBytes 5 [some (vr x0), some (vj x1), none, some (vi x3), some (vi x4)] [] G Q := by
  refine wp_iload (pc := 5) d_X12_storeBytes_5 rfl ?_
  refine wp_if_lt (pc := 7) (tgt := 44) d_X12_storeBytes_7 (by decide) (fun hc => ?_) (fun hc => ?_)
  · have h := h.1 hc
    exact wp_vret (pc := 44) d_X12_storeBytes_44 rfl h
  · have h := h.2 hc
    refine wp_aload_n (pc := 10) d_X12_storeBytes_10 rfl ?_
    obtain ⟨ho1, h⟩ := h
    refine wp_getR (pc := 11) d_X12_storeBytes_11 fl_X12_205 (fun _ _ _ => rfl) ho1 ?_
    refine wp_aload_n (pc := 14) d_X12_storeBytes_14 rfl ?_
    refine wp_getI (pc := 15) d_X12_storeBytes_15 fl_X12_708 (fun _ _ _ => rfl) ho1 ?_
    refine wp_lload_n (pc := 18) d_X12_storeBytes_18 rfl ?_
    refine wp_bipush (pc := 19) (v := 8) d_X12_storeBytes_19 rfl ?_
    refine wp_iload (pc := 21) d_X12_storeBytes_21 rfl ?_
    refine wp_imul (pc := 23) d_X12_storeBytes_23 ?_
    refine wp_lshr (pc := 24) d_X12_storeBytes_24 ?_
    refine wp_l2i (pc := 25) d_X12_storeBytes_25 ?_
    refine wp_i2b (pc := 26) d_X12_storeBytes_26 ?_
    obtain ⟨ho2, h⟩ := h
    obtain ⟨hi3, h⟩ := h
    refine wp_bast (pc := 27) d_X12_storeBytes_27 ho2 hi3 ?_
    refine wp_nm (fun G4 eG4 => ?_)
    have h := h G4 eG4
    have ho5 := isO_sI eG4 ho1
    refine wp_aload_n (pc := 28) d_X12_storeBytes_28 rfl ?_
    refine wp_dup (pc := 29) d_X12_storeBytes_29 (c1_r _) ?_
    refine wp_getI (pc := 30) d_X12_storeBytes_30 fl_X12_708 (fun _ _ _ => rfl) ho5 ?_
    refine wp_iconst (pc := 33) (v := 1) d_X12_storeBytes_33 rfl ?_
    refine wp_iadd (pc := 34) d_X12_storeBytes_34 ?_
    refine wp_putI (pc := 35) d_X12_storeBytes_35 fl_X12_708 (fun _ _ _ => rfl) (Or.inl rfl) ho5 (okI_int _) ?_
    refine wp_nm (fun G6 eG6 => ?_)
    have h := h G6 eG6
    have ho7 := isO_sI eG6 ho5
    refine wp_iinc (pc := 38) (v := (-1)) (lv' := [some (vr _), some (vj _), none, some (vi _), some (vi _)]) d_X12_storeBytes_38 (by decide) rfl rfl rfl ?_
    refine wp_goto (pc := 41) (tgt := 5) d_X12_storeBytes_41 (by decide) ?_
    refine wp_sub ?_ h
    exact ⟨rfl, ⟨rfl, ⟨rfl, ⟨rfl, trivial⟩⟩⟩⟩
theorem d_X12_below_0 : decode prog_14_method_169_code 0 = .ok (.aload_n 0, 1) := by decide +kernel
theorem d_X12_below_1 : decode prog_14_method_169_code 1 = .ok (.getfield 15, 3) := by decide +kernel
theorem d_X12_below_4 : decode prog_14_method_169_code 4 = .ok (.lreturn, 1) := by decide +kernel
theorem v_X12_below_0 {E : EE} {d : Nat} {Q : Option AV → AH → Prop} {x0 : Nat} {G : AH} (h : isO E G x0 12 ∧ (Q (some (vj (gJ G x0 3))) G)) : wp E d M_X12_below 0 [some (vr x0)] [] G Q := by
  refine wp_aload_n (pc := 0) d_X12_below_0 rfl ?_
  obtain ⟨ho1, h⟩ := h
  refine wp_getJ (pc := 1) d_X12_below_1 fl_X12_15 (fun _ _ _ => rfl) ho1 ?_
  exact wp_lret (pc := 4) d_X12_below_4 rfl h
theorem d_X12_above_0 : decode prog_14_method_168_code 0 = .ok (.aload_n 0, 1) := by decide +kernel
theorem d_X12_above_1 : decode prog_14_method_168_code 1 = .ok (.getfield 605, 3) := by decide +kernel
theorem d_X12_above_4 : decode prog_14_method_168_code 4 = .ok (.lreturn, 1) := by decide +kernel
theorem v_X12_above_0 {E : EE} {d : Nat} {Q : Option AV → AH → Prop} {x0 : Nat} {G : AH} (h : isO E G x0 12 ∧ (Q (some (vj (gJ G x0 2))) G)) : wp E d M_X12_above 0 [some (vr x0)] [] G Q := by
  refine wp_aload_n (pc := 0) d_X12_above_0 rfl ?_
  obtain ⟨ho1, h⟩ := h
  refine wp_getJ (pc := 1) d_X12_above_1 fl_X12_605 (fun _ _ _ => rfl) ho1 ?_
  exact wp_lret (pc := 4) d_X12_above_4 rfl h
theorem d_X12_prove_0 : decode prog_14_method_167_code 0 = .ok (.aload_n 0, 1) := by decide +kernel
theorem d_X12_prove_1 : decode prog_14_method_167_code 1 = .ok (.iload_n 1, 1) := by decide +kernel
theorem d_X12_prove_2 : decode prog_14_method_167_code 2 = .ok (.invokevirtual 453, 3) := by decide +kernel
theorem d_X12_prove_5 : decode prog_14_method_167_code 5 = .ok (.ifCond .ne 5, 3) := by decide +kernel
theorem d_X12_prove_8 : decode prog_14_method_167_code 8 = .ok (.iconst (-1), 1) := by decide +kernel
theorem d_X12_prove_9 : decode prog_14_method_167_code 9 = .ok (.ireturn, 1) := by decide +kernel
theorem d_X12_prove_10 : decode prog_14_method_167_code 10 = .ok (.aload_n 0, 1) := by decide +kernel
theorem d_X12_prove_11 : decode prog_14_method_167_code 11 = .ok (.iload_n 1, 1) := by decide +kernel
theorem d_X12_prove_12 : decode prog_14_method_167_code 12 = .ok (.invokevirtual 571, 3) := by decide +kernel
theorem d_X12_prove_15 : decode prog_14_method_167_code 15 = .ok (.aload_n 0, 1) := by decide +kernel
theorem d_X12_prove_16 : decode prog_14_method_167_code 16 = .ok (.iload_n 1, 1) := by decide +kernel
theorem d_X12_prove_17 : decode prog_14_method_167_code 17 = .ok (.invokevirtual 580, 3) := by decide +kernel
theorem d_X12_prove_20 : decode prog_14_method_167_code 20 = .ok (.istore_n 2, 1) := by decide +kernel
theorem d_X12_prove_21 : decode prog_14_method_167_code 21 = .ok (.iconst 0, 1) := by decide +kernel
theorem d_X12_prove_22 : decode prog_14_method_167_code 22 = .ok (.istore_n 3, 1) := by decide +kernel
theorem d_X12_prove_23 : decode prog_14_method_167_code 23 = .ok (.iload_n 3, 1) := by decide +kernel
theorem d_X12_prove_24 : decode prog_14_method_167_code 24 = .ok (.aload_n 0, 1) := by decide +kernel
theorem d_X12_prove_25 : decode prog_14_method_167_code 25 = .ok (.getfield 82, 3) := by decide +kernel
theorem d_X12_prove_28 : decode prog_14_method_167_code 28 = .ok (.iload_n 1, 1) := by decide +kernel
theorem d_X12_prove_29 : decode prog_14_method_167_code 29 = .ok (.iaload, 1) := by decide +kernel
theorem d_X12_prove_30 : decode prog_14_method_167_code 30 = .ok (.if_icmp .ge 29, 3) := by decide +kernel
theorem d_X12_prove_33 : decode prog_14_method_167_code 33 = .ok (.aload_n 0, 1) := by decide +kernel
theorem d_X12_prove_34 : decode prog_14_method_167_code 34 = .ok (.iload_n 1, 1) := by decide +kernel
theorem d_X12_prove_35 : decode prog_14_method_167_code 35 = .ok (.iload_n 3, 1) := by decide +kernel
theorem d_X12_prove_36 : decode prog_14_method_167_code 36 = .ok (.invokevirtual 562, 3) := by decide +kernel
theorem d_X12_prove_39 : decode prog_14_method_167_code 39 = .ok (.ifCond .eq 14, 3) := by decide +kernel
theorem d_X12_prove_42 : decode prog_14_method_167_code 42 = .ok (.aload_n 0, 1) := by decide +kernel
theorem d_X12_prove_43 : decode prog_14_method_167_code 43 = .ok (.iload_n 3, 1) := by decide +kernel
theorem d_X12_prove_44 : decode prog_14_method_167_code 44 = .ok (.iload_n 2, 1) := by decide +kernel
theorem d_X12_prove_45 : decode prog_14_method_167_code 45 = .ok (.invokevirtual 565, 3) := by decide +kernel
theorem d_X12_prove_48 : decode prog_14_method_167_code 48 = .ok (.ifCond .eq 5, 3) := by decide +kernel
theorem d_X12_prove_51 : decode prog_14_method_167_code 51 = .ok (.iconst (-1), 1) := by decide +kernel
theorem d_X12_prove_52 : decode prog_14_method_167_code 52 = .ok (.ireturn, 1) := by decide +kernel
theorem d_X12_prove_53 : decode prog_14_method_167_code 53 = .ok (.iinc 3 1, 3) := by decide +kernel
theorem d_X12_prove_56 : decode prog_14_method_167_code 56 = .ok (.goto (-33), 3) := by decide +kernel
theorem d_X12_prove_59 : decode prog_14_method_167_code 59 = .ok (.aload_n 0, 1) := by decide +kernel
theorem d_X12_prove_60 : decode prog_14_method_167_code 60 = .ok (.iconst 0, 1) := by decide +kernel
theorem d_X12_prove_61 : decode prog_14_method_167_code 61 = .ok (.putfield 699, 3) := by decide +kernel
theorem d_X12_prove_64 : decode prog_14_method_167_code 64 = .ok (.aload_n 0, 1) := by decide +kernel
theorem d_X12_prove_65 : decode prog_14_method_167_code 65 = .ok (.iload_n 1, 1) := by decide +kernel
theorem d_X12_prove_66 : decode prog_14_method_167_code 66 = .ok (.iconst 0, 1) := by decide +kernel
theorem d_X12_prove_67 : decode prog_14_method_167_code 67 = .ok (.invokevirtual 705, 3) := by decide +kernel
theorem d_X12_prove_70 : decode prog_14_method_167_code 70 = .ok (.aload_n 0, 1) := by decide +kernel
theorem d_X12_prove_71 : decode prog_14_method_167_code 71 = .ok (.getfield 699, 3) := by decide +kernel
theorem d_X12_prove_74 : decode prog_14_method_167_code 74 = .ok (.sipush 20000, 3) := by decide +kernel
theorem d_X12_prove_77 : decode prog_14_method_167_code 77 = .ok (.if_icmp .le 5, 3) := by decide +kernel
theorem d_X12_prove_80 : decode prog_14_method_167_code 80 = .ok (.iconst (-1), 1) := by decide +kernel
theorem d_X12_prove_81 : decode prog_14_method_167_code 81 = .ok (.ireturn, 1) := by decide +kernel
theorem d_X12_prove_82 : decode prog_14_method_167_code 82 = .ok (.iconst 0, 1) := by decide +kernel
theorem d_X12_prove_83 : decode prog_14_method_167_code 83 = .ok (.istore_n 3, 1) := by decide +kernel
theorem d_X12_prove_84 : decode prog_14_method_167_code 84 = .ok (.iload_n 3, 1) := by decide +kernel
theorem d_X12_prove_85 : decode prog_14_method_167_code 85 = .ok (.aload_n 0, 1) := by decide +kernel
theorem d_X12_prove_86 : decode prog_14_method_167_code 86 = .ok (.getfield 699, 3) := by decide +kernel
theorem d_X12_prove_89 : decode prog_14_method_167_code 89 = .ok (.if_icmp .ge 21, 3) := by decide +kernel
theorem d_X12_prove_92 : decode prog_14_method_167_code 92 = .ok (.aload_n 0, 1) := by decide +kernel
theorem d_X12_prove_93 : decode prog_14_method_167_code 93 = .ok (.getfield 9, 3) := by decide +kernel
theorem d_X12_prove_96 : decode prog_14_method_167_code 96 = .ok (.iload_n 3, 1) := by decide +kernel
theorem d_X12_prove_97 : decode prog_14_method_167_code 97 = .ok (.aload_n 0, 1) := by decide +kernel
theorem d_X12_prove_98 : decode prog_14_method_167_code 98 = .ok (.getfield 202, 3) := by decide +kernel
theorem d_X12_prove_101 : decode prog_14_method_167_code 101 = .ok (.iload_n 3, 1) := by decide +kernel
theorem d_X12_prove_102 : decode prog_14_method_167_code 102 = .ok (.baload, 1) := by decide +kernel
theorem d_X12_prove_103 : decode prog_14_method_167_code 103 = .ok (.bastore, 1) := by decide +kernel
theorem d_X12_prove_104 : decode prog_14_method_167_code 104 = .ok (.iinc 3 1, 3) := by decide +kernel
theorem d_X12_prove_107 : decode prog_14_method_167_code 107 = .ok (.goto (-23), 3) := by decide +kernel
theorem d_X12_prove_110 : decode prog_14_method_167_code 110 = .ok (.aload_n 0, 1) := by decide +kernel
theorem d_X12_prove_111 : decode prog_14_method_167_code 111 = .ok (.aload_n 0, 1) := by decide +kernel
theorem d_X12_prove_112 : decode prog_14_method_167_code 112 = .ok (.getfield 699, 3) := by decide +kernel
theorem d_X12_prove_115 : decode prog_14_method_167_code 115 = .ok (.putfield 217, 3) := by decide +kernel
theorem d_X12_prove_118 : decode prog_14_method_167_code 118 = .ok (.aload_n 0, 1) := by decide +kernel
theorem d_X12_prove_119 : decode prog_14_method_167_code 119 = .ok (.getfield 217, 3) := by decide +kernel
theorem d_X12_prove_122 : decode prog_14_method_167_code 122 = .ok (.ireturn, 1) := by decide +kernel
theorem v_X12_prove_0 {E : EE} {d : Nat} {Q : Option AV → AH → Prop} {x0 : Nat} {x1 : Int32} {G : AH} (h0 : 0 < d) (h : isO E G x0 12 ∧ (wpI E (d - 1) M_X12_isProblem [vr x0, vi x1] G (fun r1 G2 => (¬ r1 = 0 → isO E G2 x0 12 ∧ (wpV E (d - 1) M_X12_know [vr x0, vi x1] G2 (fun G3 => isO E G3 x0 12 ∧ (wpI E (d - 1) M_X12_handOf [vr x0, vi x1] G3 (fun r4 G5 => wp E d M_X12_prove 23 [some (vr x0), some (vi x1), some (vi r4), some (vi 0)] [] G5 Q))))) ∧ (r1 = 0 → Q (some (vi (-1))) G2)))) : wp E d M_X12_prove 0 [some (vr x0), some (vi x1), none, none] [] G Q := by
  refine wp_aload_n (pc := 0) d_X12_prove_0 rfl ?_
  refine wp_iload_n (pc := 1) d_X12_prove_1 rfl ?_
  obtain ⟨ho8, h⟩ := h
  refine wp_invV (pc := 2) (N := M_X12_isProblem) (As := [vi _]) (rest := []) (r := (cn_12, ct_12, 95)) d_X12_prove_2 ml_X12_453 mk_X12_isProblem mv_X12_isProblem h0 ho8 rfl rfl (Nat.le_of_ble_eq_true rfl) ?_
  refine wpM.mono h (fun rr G2 hr => ?_)
  obtain ⟨r1, rfl, h⟩ := hr
  show wp E d M_X12_prove 5 [some (vr _), some (vi _), none, none] [vi _] G2 Q
  refine wp_if_ne (pc := 5) (tgt := 10) d_X12_prove_5 (by decide) (fun hc => ?_) (fun hc => ?_)
  · have h := h.1 hc
    refine wp_aload_n (pc := 10) d_X12_prove_10 rfl ?_
    refine wp_iload_n (pc := 11) d_X12_prove_11 rfl ?_
    obtain ⟨ho7, h⟩ := h
    refine wp_invV (pc := 12) (N := M_X12_know) (As := [vi _]) (rest := []) (r := (cn_12, ct_12, 95)) d_X12_prove_12 ml_X12_571 mk_X12_know mv_X12_know h0 ho7 rfl rfl (Nat.le_of_ble_eq_true rfl) ?_
    refine wpM.mono h (fun rr G3 hr => ?_)
    obtain ⟨rfl, h⟩ := hr
    show wp E d M_X12_prove 15 [some (vr _), some (vi _), none, none] [] G3 Q
    refine wp_aload_n (pc := 15) d_X12_prove_15 rfl ?_
    refine wp_iload_n (pc := 16) d_X12_prove_16 rfl ?_
    obtain ⟨ho6, h⟩ := h
    refine wp_invV (pc := 17) (N := M_X12_handOf) (As := [vi _]) (rest := []) (r := (cn_12, ct_12, 95)) d_X12_prove_17 ml_X12_580 mk_X12_handOf mv_X12_handOf h0 ho6 rfl rfl (Nat.le_of_ble_eq_true rfl) ?_
    refine wpM.mono h (fun rr G5 hr => ?_)
    obtain ⟨r4, rfl, h⟩ := hr
    show wp E d M_X12_prove 20 [some (vr _), some (vi _), none, none] [vi _] G5 Q
    refine wp_istore_n (pc := 20) (lv' := [some (vr _), some (vi _), some (vi _), none]) d_X12_prove_20 (by decide) rfl ?_
    refine wp_iconst (pc := 21) (v := 0) d_X12_prove_21 rfl ?_
    refine wp_istore_n (pc := 22) (lv' := [some (vr _), some (vi _), some (vi _), some (vi _)]) d_X12_prove_22 (by decide) rfl ?_
    refine wp_sub ?_ h
    exact ⟨rfl, ⟨rfl, ⟨rfl, ⟨rfl, trivial⟩⟩⟩⟩
  · have h := h.2 hc
    refine wp_iconst (pc := 8) (v := (-1)) d_X12_prove_8 rfl ?_
    exact wp_iret (pc := 9) d_X12_prove_9 rfl h
theorem v_X12_prove_23 {E : EE} {d : Nat} {Q : Option AV → AH → Prop} {x0 : Nat} {x1 : Int32} {x2 : Int32} {x3 : Int32} {G : AH} (h0 : 0 < d) (h : isO E G x0 12 ∧ (isO E G (gR G x0 25) 14 ∧ (vp_in x1 (gN G (gR G x0 25)) ∧ (((gI G (gR G x0 25) (Int32.toNatClampNeg x1)) ≤ x3 → wpV E (d - 1) M_X12_print [vr x0, vi x1, vi 0] (sI G x0 84 0) (fun G4 => isO E G4 x0 12 ∧ (((gI G4 x0 84) ≤ 20000 → wp E d M_X12_prove 84 [some (vr x0), some (vi x1), some (vi x2), some (vi 0)] [] G4 Q) ∧ (¬ ((gI G4 x0 84) ≤ 20000) → Q (some (vi (-1))) G4)))) ∧ (¬ ((gI G (gR G x0 25) (Int32.toNatClampNeg x1)) ≤ x3) → wpI E (d - 1) M_X12_isGood [vr x0, vi x1, vi x3] G (fun r6 G7 => (r6 = 0 → wp E d M_X12_prove 53 [some (vr x0), some (vi x1), some (vi x2), some (vi x3)] [] G7 Q) ∧ (¬ (r6 = 0) → isO E G7 x0 12 ∧ (wpI E (d - 1) M_X12_isBetter [vr x0, vi x3, vi x2] G7 (fun r8 G9 => (r8 = 0 → wp E d M_X12_prove 53 [some (vr x0), some (vi x1), some (vi x2), some (vi x3)] [] G9 Q) ∧ (¬ (r8 = 0) → Q (some (vi (-1))) G9)))))))))) : wp E d M_X12_prove 23 [some (vr x0), some (vi x1), some (vi x2), some (vi x3)] [] G Q := by
  refine wp_iload_n (pc := 23) d_X12_prove_23 rfl ?_
  refine wp_aload_n (pc := 24) d_X12_prove_24 rfl ?_
  obtain ⟨ho1, h⟩ := h
  refine wp_getR (pc := 25) d_X12_prove_25 fl_X12_82 (fun _ _ _ => rfl) ho1 ?_
  refine wp_iload_n (pc := 28) d_X12_prove_28 rfl ?_
  obtain ⟨ho2, h⟩ := h
  obtain ⟨hi3, h⟩ := h
  refine wp_iald (pc := 29) d_X12_prove_29 ho2 hi3 ?_
  refine wp_icmp_ge (pc := 30) (tgt := 59) d_X12_prove_30 (by decide) (fun hc => ?_) (fun hc => ?_)
  · have h := h.1 hc
    refine wp_aload_n (pc := 59) d_X12_prove_59 rfl ?_
    refine wp_iconst (pc := 60) (v := 0) d_X12_prove_60 rfl ?_
    refine wp_putI (pc := 61) d_X12_prove_61 fl_X12_699 (fun _ _ _ => rfl) (Or.inl rfl) ho1 (okI_int _) ?_
    refine wp_aload_n (pc := 64) d_X12_prove_64 rfl ?_
    refine wp_iload_n (pc := 65) d_X12_prove_65 rfl ?_
    refine wp_iconst (pc := 66) (v := 0) d_X12_prove_66 rfl ?_
    refine wp_invV (pc := 67) (N := M_X12_print) (As := [vi _, vi _]) (rest := []) (r := (cn_12, ct_12, 95)) d_X12_prove_67 ml_X12_705 mk_X12_print mv_X12_print h0 ho1 rfl rfl (Nat.le_of_ble_eq_true rfl) ?_
    refine wpM.mono h (fun rr G4 hr => ?_)
    obtain ⟨rfl, h⟩ := hr
    show wp E d M_X12_prove 70 [some (vr _), some (vi _), some (vi _), some (vi _)] [] G4 Q
    refine wp_aload_n (pc := 70) d_X12_prove_70 rfl ?_
    obtain ⟨ho5, h⟩ := h
    refine wp_getI (pc := 71) d_X12_prove_71 fl_X12_699 (fun _ _ _ => rfl) ho5 ?_
    refine wp_sipush (pc := 74) (v := 20000) d_X12_prove_74 rfl ?_
    refine wp_icmp_le (pc := 77) (tgt := 82) d_X12_prove_77 (by decide) (fun hc => ?_) (fun hc => ?_)
    · have h := h.1 hc
      refine wp_iconst (pc := 82) (v := 0) d_X12_prove_82 rfl ?_
      refine wp_istore_n (pc := 83) (lv' := [some (vr _), some (vi _), some (vi _), some (vi _)]) d_X12_prove_83 (by decide) rfl ?_
      refine wp_sub ?_ h
      exact ⟨rfl, ⟨rfl, ⟨rfl, ⟨rfl, trivial⟩⟩⟩⟩
    · have h := h.2 hc
      refine wp_iconst (pc := 80) (v := (-1)) d_X12_prove_80 rfl ?_
      exact wp_iret (pc := 81) d_X12_prove_81 rfl h
  · have h := h.2 hc
    refine wp_aload_n (pc := 33) d_X12_prove_33 rfl ?_
    refine wp_iload_n (pc := 34) d_X12_prove_34 rfl ?_
    refine wp_iload_n (pc := 35) d_X12_prove_35 rfl ?_
    refine wp_invV (pc := 36) (N := M_X12_isGood) (As := [vi _, vi _]) (rest := []) (r := (cn_12, ct_12, 95)) d_X12_prove_36 ml_X12_562 mk_X12_isGood mv_X12_isGood h0 ho1 rfl rfl (Nat.le_of_ble_eq_true rfl) ?_
    refine wpM.mono h (fun rr G7 hr => ?_)
    obtain ⟨r6, rfl, h⟩ := hr
    show wp E d M_X12_prove 39 [some (vr _), some (vi _), some (vi _), some (vi _)] [vi _] G7 Q
    refine wp_if_eq (pc := 39) (tgt := 53) d_X12_prove_39 (by decide) (fun hc => ?_) (fun hc => ?_)
    · have h := h.1 hc
      refine wp_sub ?_ h
      exact ⟨rfl, ⟨rfl, ⟨rfl, ⟨rfl, trivial⟩⟩⟩⟩
    · have h := h.2 hc
      refine wp_aload_n (pc := 42) d_X12_prove_42 rfl ?_
      refine wp_iload_n (pc := 43) d_X12_prove_43 rfl ?_
      refine wp_iload_n (pc := 44) d_X12_prove_44 rfl ?_
      obtain ⟨ho10, h⟩ := h
      refine wp_invV (pc := 45) (N := M_X12_isBetter) (As := [vi _, vi _]) (rest := []) (r := (cn_12, ct_12, 95)) d_X12_prove_45 ml_X12_565 mk_X12_isBetter mv_X12_isBetter h0 ho10 rfl rfl (Nat.le_of_ble_eq_true rfl) ?_
      refine wpM.mono h (fun rr G9 hr => ?_)
      obtain ⟨r8, rfl, h⟩ := hr
      show wp E d M_X12_prove 48 [some (vr _), some (vi _), some (vi _), some (vi _)] [vi _] G9 Q
      refine wp_if_eq (pc := 48) (tgt := 53) d_X12_prove_48 (by decide) (fun hc => ?_) (fun hc => ?_)
      · have h := h.1 hc
        refine wp_sub ?_ h
        exact ⟨rfl, ⟨rfl, ⟨rfl, ⟨rfl, trivial⟩⟩⟩⟩
      · have h := h.2 hc
        refine wp_iconst (pc := 51) (v := (-1)) d_X12_prove_51 rfl ?_
        exact wp_iret (pc := 52) d_X12_prove_52 rfl h
theorem v_X12_prove_53 {E : EE} {d : Nat} {Q : Option AV → AH → Prop} {x0 : Nat} {x1 : Int32} {x2 : Int32} {x3 : Int32} {G : AH} (h : wp E d M_X12_prove 23 [some (vr x0), some (vi x1), some (vi x2), some (vi (x3 + 1))] [] G Q) : wp E d M_X12_prove 53 [some (vr x0), some (vi x1), some (vi x2), some (vi x3)] [] G Q := by
  refine wp_iinc (pc := 53) (v := 1) (lv' := [some (vr _), some (vi _), some (vi _), some (vi _)]) d_X12_prove_53 (by decide) rfl rfl rfl ?_
  refine wp_goto (pc := 56) (tgt := 23) d_X12_prove_56 (by decide) ?_
  refine wp_sub ?_ h
  exact ⟨rfl, ⟨rfl, ⟨rfl, ⟨rfl, trivial⟩⟩⟩⟩
theorem v_X12_prove_84 {E : EE} {d : Nat} {Q : Option AV → AH → Prop} {x0 : Nat} {x1 : Int32} {x2 : Int32} {x3 : Int32} {G : AH} (h : isO E G x0 12 ∧ (((gI G x0 84) ≤ x3 → Q (some (vi (gI (sI G x0 1 (gI G x0 84)) x0 1))) (sI G x0 1 (gI G x0 84))) ∧ (¬ ((gI G x0 84) ≤ x3) → isO E G (gR G x0 87) 13 ∧ (vp_in x3 (gN G (gR G x0 87)) ∧ (isO E G (gR G x0 0) 13 ∧ (vp_in x3 (gN G (gR G x0 0)) ∧ (wp E d M_X12_prove 84 [some (vr x0), some (vi x1), some (vi x2), some (vi (x3 + 1))] [] (sI G (gR G x0 0) (Int32.toNatClampNeg x3) (i2b (gI G (gR G x0 87) (Int32.toNatClampNeg x3)))) Q))))))) : wp E d M_X12_prove 84 [some (vr x0), some (vi x1), some (vi x2), some (vi x3)] [] G Q := by
  refine wp_iload_n (pc := 84) d_X12_prove_84 rfl ?_
  refine wp_aload_n (pc := 85) d_X12_prove_85 rfl ?_
  obtain ⟨ho1, h⟩ := h
  refine wp_getI (pc := 86) d_X12_prove_86 fl_X12_699 (fun _ _ _ => rfl) ho1 ?_
  refine wp_icmp_ge (pc := 89) (tgt := 110) d_X12_prove_89 (by decide) (fun hc => ?_) (fun hc => ?_)
  · have h := h.1 hc
    refine wp_aload_n (pc := 110) d_X12_prove_110 rfl ?_
    refine wp_aload_n (pc := 111) d_X12_prove_111 rfl ?_
    refine wp_getI (pc := 112) d_X12_prove_112 fl_X12_699 (fun _ _ _ => rfl) ho1 ?_
    refine wp_putI (pc := 115) d_X12_prove_115 fl_X12_217 (fun _ _ _ => rfl) (Or.inl rfl) ho1 (okI_int _) ?_
    refine wp_aload_n (pc := 118) d_X12_prove_118 rfl ?_
    refine wp_getI (pc := 119) d_X12_prove_119 fl_X12_217 (fun _ _ _ => rfl) ho1 ?_
    exact wp_iret (pc := 122) d_X12_prove_122 rfl h
  · have h := h.2 hc
    refine wp_aload_n (pc := 92) d_X12_prove_92 rfl ?_
    refine wp_getR (pc := 93) d_X12_prove_93 fl_X12_9 (fun _ _ _ => rfl) ho1 ?_
    refine wp_iload_n (pc := 96) d_X12_prove_96 rfl ?_
    refine wp_aload_n (pc := 97) d_X12_prove_97 rfl ?_
    refine wp_getR (pc := 98) d_X12_prove_98 fl_X12_202 (fun _ _ _ => rfl) ho1 ?_
    refine wp_iload_n (pc := 101) d_X12_prove_101 rfl ?_
    obtain ⟨ho2, h⟩ := h
    obtain ⟨hi3, h⟩ := h
    refine wp_bald (pc := 102) d_X12_prove_102 ho2 hi3 ?_
    obtain ⟨ho4, h⟩ := h
    obtain ⟨hi5, h⟩ := h
    refine wp_bast (pc := 103) d_X12_prove_103 ho4 hi5 ?_
    refine wp_iinc (pc := 104) (v := 1) (lv' := [some (vr _), some (vi _), some (vi _), some (vi _)]) d_X12_prove_104 (by decide) rfl rfl rfl ?_
    refine wp_goto (pc := 107) (tgt := 84) d_X12_prove_107 (by decide) ?_
    refine wp_sub ?_ h
    exact ⟨rfl, ⟨rfl, ⟨rfl, ⟨rfl, trivial⟩⟩⟩⟩
theorem d_X12_know_0 : decode prog_14_method_90_code 0 = .ok (.aload_n 0, 1) := by decide +kernel
theorem d_X12_know_1 : decode prog_14_method_90_code 1 = .ok (.getfield 146, 3) := by decide +kernel
theorem d_X12_know_4 : decode prog_14_method_90_code 4 = .ok (.iload_n 1, 1) := by decide +kernel
theorem d_X12_know_5 : decode prog_14_method_90_code 5 = .ok (.if_icmp .ne 16, 3) := by decide +kernel
theorem d_X12_know_8 : decode prog_14_method_90_code 8 = .ok (.aload_n 0, 1) := by decide +kernel
theorem d_X12_know_9 : decode prog_14_method_90_code 9 = .ok (.getfield 550, 3) := by decide +kernel
theorem d_X12_know_12 : decode prog_14_method_90_code 12 = .ok (.aload_n 0, 1) := by decide +kernel
theorem d_X12_know_13 : decode prog_14_method_90_code 13 = .ok (.getfield 115, 3) := by decide +kernel
theorem d_X12_know_16 : decode prog_14_method_90_code 16 = .ok (.iload_n 1, 1) := by decide +kernel
theorem d_X12_know_17 : decode prog_14_method_90_code 17 = .ok (.iaload, 1) := by decide +kernel
theorem d_X12_know_18 : decode prog_14_method_90_code 18 = .ok (.if_icmp .eq 9, 3) := by decide +kernel
theorem d_X12_know_21 : decode prog_14_method_90_code 21 = .ok (.aload_n 0, 1) := by decide +kernel
theorem d_X12_know_22 : decode prog_14_method_90_code 22 = .ok (.iload_n 1, 1) := by decide +kernel
theorem d_X12_know_23 : decode prog_14_method_90_code 23 = .ok (.iconst (-1), 1) := by decide +kernel
theorem d_X12_know_24 : decode prog_14_method_90_code 24 = .ok (.invokevirtual 553, 3) := by decide +kernel
theorem d_X12_know_27 : decode prog_14_method_90_code 27 = .ok (.return_, 1) := by decide +kernel
theorem v_X12_know_0 {E : EE} {d : Nat} {Q : Option AV → AH → Prop} {x0 : Nat} {x1 : Int32} {G : AH} (h : isO E G x0 12 ∧ ((¬ (gI G x0 62) = x1 → wp E d M_X12_know 21 [some (vr x0), some (vi x1)] [] G Q) ∧ ((gI G x0 62) = x1 → isO E G (gR G x0 36) 14 ∧ (vp_in x1 (gN G (gR G x0 36)) ∧ (((gI G x0 63) = (gI G (gR G x0 36) (Int32.toNatClampNeg x1)) → Q none G) ∧ (¬ ((gI G x0 63) = (gI G (gR G x0 36) (Int32.toNatClampNeg x1))) → wp E d M_X12_know 21 [some (vr x0), some (vi x1)] [] G Q)))))) : wp E d M_X12_know 0 [some (vr x0), some (vi x1)] [] G Q := by
  refine wp_aload_n (pc := 0) d_X12_know_0 rfl ?_
  obtain ⟨ho1, h⟩ := h
  refine wp_getI (pc := 1) d_X12_know_1 fl_X12_146 (fun _ _ _ => rfl) ho1 ?_
  refine wp_iload_n (pc := 4) d_X12_know_4 rfl ?_
  refine wp_icmp_ne (pc := 5) (tgt := 21) d_X12_know_5 (by decide) (fun hc => ?_) (fun hc => ?_)
  · have h := h.1 hc
    refine wp_sub ?_ h
    exact ⟨rfl, ⟨rfl, trivial⟩⟩
  · have h := h.2 hc
    refine wp_aload_n (pc := 8) d_X12_know_8 rfl ?_
    refine wp_getI (pc := 9) d_X12_know_9 fl_X12_550 (fun _ _ _ => rfl) ho1 ?_
    refine wp_aload_n (pc := 12) d_X12_know_12 rfl ?_
    refine wp_getR (pc := 13) d_X12_know_13 fl_X12_115 (fun _ _ _ => rfl) ho1 ?_
    refine wp_iload_n (pc := 16) d_X12_know_16 rfl ?_
    obtain ⟨ho2, h⟩ := h
    obtain ⟨hi3, h⟩ := h
    refine wp_iald (pc := 17) d_X12_know_17 ho2 hi3 ?_
    refine wp_icmp_eq (pc := 18) (tgt := 27) d_X12_know_18 (by decide) (fun hc => ?_) (fun hc => ?_)
    · have h := h.1 hc
      exact wp_vret (pc := 27) d_X12_know_27 rfl h
    · have h := h.2 hc
      refine wp_sub ?_ h
      exact ⟨rfl, ⟨rfl, trivial⟩⟩
theorem v_X12_know_21 {E : EE} {d : Nat} {Q : Option AV → AH → Prop} {x0 : Nat} {x1 : Int32} {G : AH} (h0 : 0 < d) (h : isO E G x0 12 ∧ (wpV E (d - 1) M_X12_weighAll [vr x0, vi x1, vi (-1)] G (fun G1 => Q none G1))) : wp E d M_X12_know 21 [some (vr x0), some (vi x1)] [] G Q := by
  refine wp_aload_n (pc := 21) d_X12_know_21 rfl ?_
  refine wp_iload_n (pc := 22) d_X12_know_22 rfl ?_
  refine wp_iconst (pc := 23) (v := (-1)) d_X12_know_23 rfl ?_
  obtain ⟨ho2, h⟩ := h
  refine wp_invV (pc := 24) (N := M_X12_weighAll) (As := [vi _, vi _]) (rest := []) (r := (cn_12, ct_12, 95)) d_X12_know_24 ml_X12_553 mk_X12_weighAll mv_X12_weighAll h0 ho2 rfl rfl (Nat.le_of_ble_eq_true rfl) ?_
  refine wpM.mono h (fun rr G1 hr => ?_)
  obtain ⟨rfl, h⟩ := hr
  show wp E d M_X12_know 27 [some (vr _), some (vi _)] [] G1 Q
  exact wp_vret (pc := 27) d_X12_know_27 rfl h
theorem d_X12_weighAll_0 : decode prog_14_method_89_code 0 = .ok (.aload_n 0, 1) := by decide +kernel
theorem d_X12_weighAll_1 : decode prog_14_method_89_code 1 = .ok (.iload_n 1, 1) := by decide +kernel
theorem d_X12_weighAll_2 : decode prog_14_method_89_code 2 = .ok (.iload_n 2, 1) := by decide +kernel
theorem d_X12_weighAll_3 : decode prog_14_method_89_code 3 = .ok (.invokevirtual 544, 3) := by decide +kernel
theorem d_X12_weighAll_6 : decode prog_14_method_89_code 6 = .ok (.iconst 0, 1) := by decide +kernel
theorem d_X12_weighAll_7 : decode prog_14_method_89_code 7 = .ok (.istore_n 3, 1) := by decide +kernel
theorem d_X12_weighAll_8 : decode prog_14_method_89_code 8 = .ok (.iload_n 3, 1) := by decide +kernel
theorem d_X12_weighAll_9 : decode prog_14_method_89_code 9 = .ok (.aload_n 0, 1) := by decide +kernel
theorem d_X12_weighAll_10 : decode prog_14_method_89_code 10 = .ok (.getfield 82, 3) := by decide +kernel
theorem d_X12_weighAll_13 : decode prog_14_method_89_code 13 = .ok (.iload_n 1, 1) := by decide +kernel
theorem d_X12_weighAll_14 : decode prog_14_method_89_code 14 = .ok (.iaload, 1) := by decide +kernel
theorem d_X12_weighAll_15 : decode prog_14_method_89_code 15 = .ok (.if_icmp .ge 15, 3) := by decide +kernel
theorem d_X12_weighAll_18 : decode prog_14_method_89_code 18 = .ok (.aload_n 0, 1) := by decide +kernel
theorem d_X12_weighAll_19 : decode prog_14_method_89_code 19 = .ok (.iload_n 1, 1) := by decide +kernel
theorem d_X12_weighAll_20 : decode prog_14_method_89_code 20 = .ok (.iload_n 3, 1) := by decide +kernel
theorem d_X12_weighAll_21 : decode prog_14_method_89_code 21 = .ok (.invokevirtual 547, 3) := by decide +kernel
theorem d_X12_weighAll_24 : decode prog_14_method_89_code 24 = .ok (.iinc 3 1, 3) := by decide +kernel
theorem d_X12_weighAll_27 : decode prog_14_method_89_code 27 = .ok (.goto (-19), 3) := by decide +kernel
theorem d_X12_weighAll_30 : decode prog_14_method_89_code 30 = .ok (.aload_n 0, 1) := by decide +kernel
theorem d_X12_weighAll_31 : decode prog_14_method_89_code 31 = .ok (.iload_n 2, 1) := by decide +kernel
theorem d_X12_weighAll_32 : decode prog_14_method_89_code 32 = .ok (.ifCond .lt 7, 3) := by decide +kernel
theorem d_X12_weighAll_35 : decode prog_14_method_89_code 35 = .ok (.iconst (-1), 1) := by decide +kernel
theorem d_X12_weighAll_36 : decode prog_14_method_89_code 36 = .ok (.goto 4, 3) := by decide +kernel
theorem d_X12_weighAll_39 : decode prog_14_method_89_code 39 = .ok (.iload_n 1, 1) := by decide +kernel
theorem d_X12_weighAll_40 : decode prog_14_method_89_code 40 = .ok (.putfield 146, 3) := by decide +kernel
theorem d_X12_weighAll_43 : decode prog_14_method_89_code 43 = .ok (.aload_n 0, 1) := by decide +kernel
theorem d_X12_weighAll_44 : decode prog_14_method_89_code 44 = .ok (.aload_n 0, 1) := by decide +kernel
theorem d_X12_weighAll_45 : decode prog_14_method_89_code 45 = .ok (.getfield 115, 3) := by decide +kernel
theorem d_X12_weighAll_48 : decode prog_14_method_89_code 48 = .ok (.iload_n 1, 1) := by decide +kernel
theorem d_X12_weighAll_49 : decode prog_14_method_89_code 49 = .ok (.iaload, 1) := by decide +kernel
theorem d_X12_weighAll_50 : decode prog_14_method_89_code 50 = .ok (.putfield 550, 3) := by decide +kernel
theorem d_X12_weighAll_53 : decode prog_14_method_89_code 53 = .ok (.return_, 1) := by decide +kernel
theorem v_X12_weighAll_0 {E : EE} {d : Nat} {Q : Option AV → AH → Prop} {x0 : Nat} {x1 : Int32} {x2 : Int32} {G : AH} (h0 : 0 < d) (h : isO E G x0 12 ∧ (wpV E (d - 1) M_X12_takeFacts [vr x0, vi x1, vi x2] G (fun G1 => wp E d M_X12_weighAll 8 [some (vr x0), some (vi x1), some (vi x2), some (vi 0)] [] G1 Q))) : wp E d M_X12_weighAll 0 [some (vr x0), some (vi x1), some (vi x2), none] [] G Q := by
  refine wp_aload_n (pc := 0) d_X12_weighAll_0 rfl ?_
  refine wp_iload_n (pc := 1) d_X12_weighAll_1 rfl ?_
  refine wp_iload_n (pc := 2) d_X12_weighAll_2 rfl ?_
  obtain ⟨ho2, h⟩ := h
  refine wp_invV (pc := 3) (N := M_X12_takeFacts) (As := [vi _, vi _]) (rest := []) (r := (cn_12, ct_12, 95)) d_X12_weighAll_3 ml_X12_544 mk_X12_takeFacts mv_X12_takeFacts h0 ho2 rfl rfl (Nat.le_of_ble_eq_true rfl) ?_
  refine wpM.mono h (fun rr G1 hr => ?_)
  obtain ⟨rfl, h⟩ := hr
  show wp E d M_X12_weighAll 6 [some (vr _), some (vi _), some (vi _), none] [] G1 Q
  refine wp_iconst (pc := 6) (v := 0) d_X12_weighAll_6 rfl ?_
  refine wp_istore_n (pc := 7) (lv' := [some (vr _), some (vi _), some (vi _), some (vi _)]) d_X12_weighAll_7 (by decide) rfl ?_
  refine wp_sub ?_ h
  exact ⟨rfl, ⟨rfl, ⟨rfl, ⟨rfl, trivial⟩⟩⟩⟩
theorem v_X12_weighAll_8 {E : EE} {d : Nat} {Q : Option AV → AH → Prop} {x0 : Nat} {x1 : Int32} {x2 : Int32} {x3 : Int32} {G : AH} (h0 : 0 < d) (h : isO E G x0 12 ∧ (isO E G (gR G x0 25) 14 ∧ (vp_in x1 (gN G (gR G x0 25)) ∧ (((gI G (gR G x0 25) (Int32.toNatClampNeg x1)) ≤ x3 → (x2 < 0 → wp E d M_X12_weighAll 40 [some (vr x0), some (vi x1), some (vi x2), some (vi x3)] [vi x1, vr x0] G Q) ∧ (¬ (x2 < 0) → wp E d M_X12_weighAll 40 [some (vr x0), some (vi x1), some (vi x2), some (vi x3)] [vi (-1), vr x0] G Q)) ∧ (¬ ((gI G (gR G x0 25) (Int32.toNatClampNeg x1)) ≤ x3) → wpV E (d - 1) M_X12_weighPlan [vr x0, vi x1, vi x3] G (fun G4 => wp E d M_X12_weighAll 8 [some (vr x0), some (vi x1), some (vi x2), some (vi (x3 + 1))] [] G4 Q)))))) : wp E d M_X12_weighAll 8 [some (vr x0), some (vi x1), some (vi x2), some (vi x3)] [] G Q := by
  refine wp_iload_n (pc := 8) d_X12_weighAll_8 rfl ?_
  refine wp_aload_n (pc := 9) d_X12_weighAll_9 rfl ?_
  obtain ⟨ho1, h⟩ := h
  refine wp_getR (pc := 10) d_X12_weighAll_10 fl_X12_82 (fun _ _ _ => rfl) ho1 ?_
  refine wp_iload_n (pc := 13) d_X12_weighAll_13 rfl ?_
  obtain ⟨ho2, h⟩ := h
  obtain ⟨hi3, h⟩ := h
  refine wp_iald (pc := 14) d_X12_weighAll_14 ho2 hi3 ?_
  refine wp_icmp_ge (pc := 15) (tgt := 30) d_X12_weighAll_15 (by decide) (fun hc => ?_) (fun hc => ?_)
  · have h := h.1 hc
    refine wp_aload_n (pc := 30) d_X12_weighAll_30 rfl ?_
    refine wp_iload_n (pc := 31) d_X12_weighAll_31 rfl ?_
    refine wp_if_lt (pc := 32) (tgt := 39) d_X12_weighAll_32 (by decide) (fun hc => ?_) (fun hc => ?_)
    · have h := h.1 hc
      refine wp_iload_n (pc := 39) d_X12_weighAll_39 rfl ?_
      refine wp_sub ?_ h
      exact ⟨rfl, ⟨rfl, ⟨rfl, ⟨rfl, trivial⟩⟩⟩⟩
    · have h := h.2 hc
      refine wp_iconst (pc := 35) (v := (-1)) d_X12_weighAll_35 rfl ?_
      refine wp_goto (pc := 36) (tgt := 40) d_X12_weighAll_36 (by decide) ?_
      refine wp_sub ?_ h
      exact ⟨rfl, ⟨rfl, ⟨rfl, ⟨rfl, trivial⟩⟩⟩⟩
  · have h := h.2 hc
    refine wp_aload_n (pc := 18) d_X12_weighAll_18 rfl ?_
    refine wp_iload_n (pc := 19) d_X12_weighAll_19 rfl ?_
    refine wp_iload_n (pc := 20) d_X12_weighAll_20 rfl ?_
    refine wp_invV (pc := 21) (N := M_X12_weighPlan) (As := [vi _, vi _]) (rest := []) (r := (cn_12, ct_12, 95)) d_X12_weighAll_21 ml_X12_547 mk_X12_weighPlan mv_X12_weighPlan h0 ho1 rfl rfl (Nat.le_of_ble_eq_true rfl) ?_
    refine wpM.mono h (fun rr G4 hr => ?_)
    obtain ⟨rfl, h⟩ := hr
    show wp E d M_X12_weighAll 24 [some (vr _), some (vi _), some (vi _), some (vi _)] [] G4 Q
    refine wp_iinc (pc := 24) (v := 1) (lv' := [some (vr _), some (vi _), some (vi _), some (vi _)]) d_X12_weighAll_24 (by decide) rfl rfl rfl ?_
    refine wp_goto (pc := 27) (tgt := 8) d_X12_weighAll_27 (by decide) ?_
    refine wp_sub ?_ h
    exact ⟨rfl, ⟨rfl, ⟨rfl, ⟨rfl, trivial⟩⟩⟩⟩
theorem v_X12_weighAll_40 {E : EE} {d : Nat} {Q : Option AV → AH → Prop} {x0 : Nat} {x1 : Int32} {x2 : Int32} {x3 : Int32} {t0 : Nat} {t1 : Int32} {G : AH} (h : isO E G t0 12 ∧ (∀ G2 : AH, G2 = sI G t0 62 t1 → isO E G2 x0 12 ∧ (isO E G2 (gR G2 x0 36) 14 ∧ (vp_in x1 (gN G2 (gR G2 x0 36)) ∧ (∀ G6 : AH, G6 = sI G2 x0 63 (gI G2 (gR G2 x0 36) (Int32.toNatClampNeg x1)) → Q none G6))))) : wp E d M_X12_weighAll 40 [some (vr x0), some (vi x1), some (vi x2), some (vi x3)] [vi t1, vr t0] G Q := by
  obtain ⟨ho1, h⟩ := h
  refine wp_putI (pc := 40) d_X12_weighAll_40 fl_X12_146 (fun _ _ _ => rfl) (Or.inl rfl) ho1 (okI_int _) ?_
  refine wp_nm (fun G2 eG2 => ?_)
  have h := h G2 eG2
  refine wp_aload_n (pc := 43) d_X12_weighAll_43 rfl ?_
  refine wp_aload_n (pc := 44) d_X12_weighAll_44 rfl ?_
  obtain ⟨ho3, h⟩ := h
  refine wp_getR (pc := 45) d_X12_weighAll_45 fl_X12_115 (fun _ _ _ => rfl) ho3 ?_
  refine wp_iload_n (pc := 48) d_X12_weighAll_48 rfl ?_
  obtain ⟨ho4, h⟩ := h
  obtain ⟨hi5, h⟩ := h
  refine wp_iald (pc := 49) d_X12_weighAll_49 ho4 hi5 ?_
  refine wp_putI (pc := 50) d_X12_weighAll_50 fl_X12_550 (fun _ _ _ => rfl) (Or.inl rfl) ho3 (okI_int _) ?_
  refine wp_nm (fun G6 eG6 => ?_)
  have h := h G6 eG6
  have ho7 := isO_sI eG6 ho3
  exact wp_vret (pc := 53) d_X12_weighAll_53 rfl h
theorem d_X12_takeFacts_0 : decode prog_14_method_87_code 0 = .ok (.iconst 0, 1) := by decide +kernel
theorem d_X12_takeFacts_1 : decode prog_14_method_87_code 1 = .ok (.istore_n 3, 1) := by decide +kernel
theorem d_X12_takeFacts_2 : decode prog_14_method_87_code 2 = .ok (.iload_n 3, 1) := by decide +kernel
theorem d_X12_takeFacts_3 : decode prog_14_method_87_code 3 = .ok (.aload_n 0, 1) := by decide +kernel
theorem d_X12_takeFacts_4 : decode prog_14_method_87_code 4 = .ok (.getfield 58, 3) := by decide +kernel
theorem d_X12_takeFacts_7 : decode prog_14_method_87_code 7 = .ok (.iconst 4, 1) := by decide +kernel
theorem d_X12_takeFacts_8 : decode prog_14_method_87_code 8 = .ok (.iload_n 1, 1) := by decide +kernel
theorem d_X12_takeFacts_9 : decode prog_14_method_87_code 9 = .ok (.imul, 1) := by decide +kernel
theorem d_X12_takeFacts_10 : decode prog_14_method_87_code 10 = .ok (.iaload, 1) := by decide +kernel
theorem d_X12_takeFacts_11 : decode prog_14_method_87_code 11 = .ok (.if_icmp .ge 63, 3) := by decide +kernel
theorem d_X12_takeFacts_14 : decode prog_14_method_87_code 14 = .ok (.bipush 16, 2) := by decide +kernel
theorem d_X12_takeFacts_16 : decode prog_14_method_87_code 16 = .ok (.bipush 6, 2) := by decide +kernel
theorem d_X12_takeFacts_18 : decode prog_14_method_87_code 18 = .ok (.iload_n 1, 1) := by decide +kernel
theorem d_X12_takeFacts_19 : decode prog_14_method_87_code 19 = .ok (.imul, 1) := by decide +kernel
theorem d_X12_takeFacts_20 : decode prog_14_method_87_code 20 = .ok (.iload_n 2, 1) := by decide +kernel
theorem d_X12_takeFacts_21 : decode prog_14_method_87_code 21 = .ok (.iadd, 1) := by decide +kernel
theorem d_X12_takeFacts_22 : decode prog_14_method_87_code 22 = .ok (.imul, 1) := by decide +kernel
theorem d_X12_takeFacts_23 : decode prog_14_method_87_code 23 = .ok (.iload_n 3, 1) := by decide +kernel
theorem d_X12_takeFacts_24 : decode prog_14_method_87_code 24 = .ok (.iadd, 1) := by decide +kernel
theorem d_X12_takeFacts_25 : decode prog_14_method_87_code 25 = .ok (.istore 4, 2) := by decide +kernel
theorem d_X12_takeFacts_27 : decode prog_14_method_87_code 27 = .ok (.aload_n 0, 1) := by decide +kernel
theorem d_X12_takeFacts_28 : decode prog_14_method_87_code 28 = .ok (.getfield 124, 3) := by decide +kernel
theorem d_X12_takeFacts_31 : decode prog_14_method_87_code 31 = .ok (.iload_n 3, 1) := by decide +kernel
theorem d_X12_takeFacts_32 : decode prog_14_method_87_code 32 = .ok (.iload_n 2, 1) := by decide +kernel
theorem d_X12_takeFacts_33 : decode prog_14_method_87_code 33 = .ok (.ifCond .lt 23, 3) := by decide +kernel
theorem d_X12_takeFacts_36 : decode prog_14_method_87_code 36 = .ok (.aload_n 0, 1) := by decide +kernel
theorem d_X12_takeFacts_37 : decode prog_14_method_87_code 37 = .ok (.getfield 109, 3) := by decide +kernel
theorem d_X12_takeFacts_40 : decode prog_14_method_87_code 40 = .ok (.iload 4, 2) := by decide +kernel
theorem d_X12_takeFacts_42 : decode prog_14_method_87_code 42 = .ok (.baload, 1) := by decide +kernel
theorem d_X12_takeFacts_43 : decode prog_14_method_87_code 43 = .ok (.ifCond .eq 13, 3) := by decide +kernel
theorem d_X12_takeFacts_46 : decode prog_14_method_87_code 46 = .ok (.aload_n 0, 1) := by decide +kernel
theorem d_X12_takeFacts_47 : decode prog_14_method_87_code 47 = .ok (.getfield 112, 3) := by decide +kernel
theorem d_X12_takeFacts_50 : decode prog_14_method_87_code 50 = .ok (.iload 4, 2) := by decide +kernel
theorem d_X12_takeFacts_52 : decode prog_14_method_87_code 52 = .ok (.iaload, 1) := by decide +kernel
theorem d_X12_takeFacts_53 : decode prog_14_method_87_code 53 = .ok (.goto 14, 3) := by decide +kernel
theorem d_X12_takeFacts_56 : decode prog_14_method_87_code 56 = .ok (.aload_n 0, 1) := by decide +kernel
theorem d_X12_takeFacts_57 : decode prog_14_method_87_code 57 = .ok (.getfield 61, 3) := by decide +kernel
theorem d_X12_takeFacts_60 : decode prog_14_method_87_code 60 = .ok (.bipush 16, 2) := by decide +kernel
theorem d_X12_takeFacts_62 : decode prog_14_method_87_code 62 = .ok (.iload_n 1, 1) := by decide +kernel
theorem d_X12_takeFacts_63 : decode prog_14_method_87_code 63 = .ok (.imul, 1) := by decide +kernel
theorem d_X12_takeFacts_64 : decode prog_14_method_87_code 64 = .ok (.iload_n 3, 1) := by decide +kernel
theorem d_X12_takeFacts_65 : decode prog_14_method_87_code 65 = .ok (.iadd, 1) := by decide +kernel
theorem d_X12_takeFacts_66 : decode prog_14_method_87_code 66 = .ok (.iaload, 1) := by decide +kernel
theorem d_X12_takeFacts_67 : decode prog_14_method_87_code 67 = .ok (.iastore, 1) := by decide +kernel
theorem d_X12_takeFacts_68 : decode prog_14_method_87_code 68 = .ok (.iinc 3 1, 3) := by decide +kernel
theorem d_X12_takeFacts_71 : decode prog_14_method_87_code 71 = .ok (.goto (-69), 3) := by decide +kernel
theorem d_X12_takeFacts_74 : decode prog_14_method_87_code 74 = .ok (.return_, 1) := by decide +kernel
theorem v_X12_takeFacts_0 {E : EE} {d : Nat} {Q : Option AV → AH → Prop} {x0 : Nat} {x1 : Int32} {x2 : Int32} {G : AH} (h : wp E d M_X12_takeFacts 2 [some (vr x0), some (vi x1), some (vi x2), some (vi 0), none] [] G Q) : wp E d M_X12_takeFacts 0 [some (vr x0), some (vi x1), some (vi x2), none, none] [] G Q := by
  refine wp_iconst (pc := 0) (v := 0) d_X12_takeFacts_0 rfl ?_
  refine wp_istore_n (pc := 1) (lv' := [some (vr _), some (vi _), some (vi _), some (vi _), none]) d_X12_takeFacts_1 (by decide) rfl ?_
  refine wp_sub ?_ h
  exact ⟨rfl, ⟨rfl, ⟨rfl, ⟨rfl, trivial⟩⟩⟩⟩
theorem v_X12_takeFacts_2 {E : EE} {d : Nat} {Q : Option AV → AH → Prop} {x0 : Nat} {x1 : Int32} {x2 : Int32} {x3 : Int32} {G : AH} (h : isO E G x0 12 ∧ (isO E G (gR G x0 17) 14 ∧ (vp_in (4 * x1) (gN G (gR G x0 17)) ∧ (((gI G (gR G x0 17) (Int32.toNatClampNeg (4 * x1))) ≤ x3 → Q none G) ∧ (¬ ((gI G (gR G x0 17) (Int32.toNatClampNeg (4 * x1))) ≤ x3) → (x2 < 0 → wp E d M_X12_takeFacts 56 [some (vr x0), some (vi x1), some (vi x2), some (vi x3), some (vi ((16 * ((6 * x1) + x2)) + x3))] [vi x3, vr (gR G x0 53)] G Q) ∧ (¬ (x2 < 0) → isO E G (gR G x0 34) 16 ∧ (vp_in ((16 * ((6 * x1) + x2)) + x3) (gN G (gR G x0 34)) ∧ (((gI G (gR G x0 34) (Int32.toNatClampNeg ((16 * ((6 * x1) + x2)) + x3))) = 0 → wp E d M_X12_takeFacts 56 [some (vr x0), some (vi x1), some (vi x2), some (vi x3), some (vi ((16 * ((6 * x1) + x2)) + x3))] [vi x3, vr (gR G x0 53)] G Q) ∧ (¬ ((gI G (gR G x0 34) (Int32.toNatClampNeg ((16 * ((6 * x1) + x2)) + x3))) = 0) → isO E G (gR G x0 35) 14 ∧ (vp_in ((16 * ((6 * x1) + x2)) + x3) (gN G (gR G x0 35)) ∧ (wp E d M_X12_takeFacts 67 [some (vr x0), some (vi x1), some (vi x2), some (vi x3), some (vi ((16 * ((6 * x1) + x2)) + x3))] [vi (gI G (gR G x0 35) (Int32.toNatClampNeg ((16 * ((6 * x1) + x2)) + x3))), vi x3, vr (gR G x0 53)] G Q))))))))))) : wp E d M_X12_takeFacts 2 [some (vr x0), some (vi x1), some (vi x2), some (vi x3), none] [] G Q := by
  refine wp_iload_n (pc := 2) d_X12_takeFacts_2 rfl ?_
  refine wp_aload_n (pc := 3) d_X12_takeFacts_3 rfl ?_
  obtain ⟨ho1, h⟩ := h
  refine wp_getR (pc := 4) d_X12_takeFacts_4 fl_X12_58 (fun _ _ _ => rfl) ho1 ?_
  refine wp_iconst (pc := 7) (v := 4) d_X12_takeFacts_7 rfl ?_
  refine wp_iload_n (pc := 8) d_X12_takeFacts_8 rfl ?_
  refine wp_imul (pc := 9) d_X12_takeFacts_9 ?_
  obtain ⟨ho2, h⟩ := h
  obtain ⟨hi3, h⟩ := h
  refine wp_iald (pc := 10) d_X12_takeFacts_10 ho2 hi3 ?_
  refine wp_icmp_ge (pc := 11) (tgt := 74) d_X12_takeFacts_11 (by decide) (fun hc => ?_) (fun hc => ?_)
  · have h := h.1 hc
    exact wp_vret (pc := 74) d_X12_takeFacts_74 rfl h
  · have h := h.2 hc
    refine wp_bipush (pc := 14) (v := 16) d_X12_takeFacts_14 rfl ?_
    refine wp_bipush (pc := 16) (v := 6) d_X12_takeFacts_16 rfl ?_
    refine wp_iload_n (pc := 18) d_X12_takeFacts_18 rfl ?_
    refine wp_imul (pc := 19) d_X12_takeFacts_19 ?_
    refine wp_iload_n (pc := 20) d_X12_takeFacts_20 rfl ?_
    refine wp_iadd (pc := 21) d_X12_takeFacts_21 ?_
    refine wp_imul (pc := 22) d_X12_takeFacts_22 ?_
    refine wp_iload_n (pc := 23) d_X12_takeFacts_23 rfl ?_
    refine wp_iadd (pc := 24) d_X12_takeFacts_24 ?_
    refine wp_istore (pc := 25) (lv' := [some (vr _), some (vi _), some (vi _), some (vi _), some (vi _)]) d_X12_takeFacts_25 (by decide) rfl ?_
    refine wp_aload_n (pc := 27) d_X12_takeFacts_27 rfl ?_
    refine wp_getR (pc := 28) d_X12_takeFacts_28 fl_X12_124 (fun _ _ _ => rfl) ho1 ?_
    refine wp_iload_n (pc := 31) d_X12_takeFacts_31 rfl ?_
    refine wp_iload_n (pc := 32) d_X12_takeFacts_32 rfl ?_
    refine wp_if_lt (pc := 33) (tgt := 56) d_X12_takeFacts_33 (by decide) (fun hc => ?_) (fun hc => ?_)
    · have h := h.1 hc
      refine wp_sub ?_ h
      exact ⟨rfl, ⟨rfl, ⟨rfl, ⟨rfl, ⟨rfl, trivial⟩⟩⟩⟩⟩
    · have h := h.2 hc
      refine wp_aload_n (pc := 36) d_X12_takeFacts_36 rfl ?_
      refine wp_getR (pc := 37) d_X12_takeFacts_37 fl_X12_109 (fun _ _ _ => rfl) ho1 ?_
      refine wp_iload (pc := 40) d_X12_takeFacts_40 rfl ?_
      obtain ⟨ho4, h⟩ := h
      obtain ⟨hi5, h⟩ := h
      refine wp_zald (pc := 42) d_X12_takeFacts_42 ho4 hi5 ?_
      refine wp_if_eq (pc := 43) (tgt := 56) d_X12_takeFacts_43 (by decide) (fun hc => ?_) (fun hc => ?_)
      · have h := h.1 hc
        refine wp_sub ?_ h
        exact ⟨rfl, ⟨rfl, ⟨rfl, ⟨rfl, ⟨rfl, trivial⟩⟩⟩⟩⟩
      · have h := h.2 hc
        refine wp_aload_n (pc := 46) d_X12_takeFacts_46 rfl ?_
        refine wp_getR (pc := 47) d_X12_takeFacts_47 fl_X12_112 (fun _ _ _ => rfl) ho1 ?_
        refine wp_iload (pc := 50) d_X12_takeFacts_50 rfl ?_
        obtain ⟨ho6, h⟩ := h
        obtain ⟨hi7, h⟩ := h
        refine wp_iald (pc := 52) d_X12_takeFacts_52 ho6 hi7 ?_
        refine wp_goto (pc := 53) (tgt := 67) d_X12_takeFacts_53 (by decide) ?_
        refine wp_sub ?_ h
        exact ⟨rfl, ⟨rfl, ⟨rfl, ⟨rfl, ⟨rfl, trivial⟩⟩⟩⟩⟩
theorem v_X12_takeFacts_56 {E : EE} {d : Nat} {Q : Option AV → AH → Prop} {x0 : Nat} {x1 : Int32} {x2 : Int32} {x3 : Int32} {x4 : Int32} {t0 : Nat} {t1 : Int32} {G : AH} (h : isO E G x0 12 ∧ (isO E G (gR G x0 18) 14 ∧ (vp_in ((16 * x1) + x3) (gN G (gR G x0 18)) ∧ (wp E d M_X12_takeFacts 67 [some (vr x0), some (vi x1), some (vi x2), some (vi x3), some (vi x4)] [vi (gI G (gR G x0 18) (Int32.toNatClampNeg ((16 * x1) + x3))), vi t1, vr t0] G Q)))) : wp E d M_X12_takeFacts 56 [some (vr x0), some (vi x1), some (vi x2), some (vi x3), some (vi x4)] [vi t1, vr t0] G Q := by
  refine wp_aload_n (pc := 56) d_X12_takeFacts_56 rfl ?_
  obtain ⟨ho1, h⟩ := h
  refine wp_getR (pc := 57) d_X12_takeFacts_57 fl_X12_61 (fun _ _ _ => rfl) ho1 ?_
  refine wp_bipush (pc := 60) (v := 16) d_X12_takeFacts_60 rfl ?_
  refine wp_iload_n (pc := 62) d_X12_takeFacts_62 rfl ?_
  refine wp_imul (pc := 63) d_X12_takeFacts_63 ?_
  refine wp_iload_n (pc := 64) d_X12_takeFacts_64 rfl ?_
  refine wp_iadd (pc := 65) d_X12_takeFacts_65 ?_
  obtain ⟨ho2, h⟩ := h
  obtain ⟨hi3, h⟩ := h
  refine wp_iald (pc := 66) d_X12_takeFacts_66 ho2 hi3 ?_
  refine wp_sub ?_ h
  exact ⟨rfl, ⟨rfl, ⟨rfl, ⟨rfl, ⟨rfl, trivial⟩⟩⟩⟩⟩
theorem v_X12_takeFacts_67 {E : EE} {d : Nat} {Q : Option AV → AH → Prop} {x0 : Nat} {x1 : Int32} {x2 : Int32} {x3 : Int32} {x4 : Int32} {t0 : Nat} {t1 : Int32} {t2 : Int32} {G : AH} (h : isO E G t0 14 ∧ (vp_in t1 (gN G t0) ∧ (wp E d M_X12_takeFacts 2 [some (vr x0), some (vi x1), some (vi x2), some (vi (x3 + 1)), none] [] (sI G t0 (Int32.toNatClampNeg t1) t2) Q))) : wp E d M_X12_takeFacts 67 [some (vr x0), some (vi x1), some (vi x2), some (vi x3), some (vi x4)] [vi t2, vi t1, vr t0] G Q := by
  obtain ⟨ho1, h⟩ := h
  obtain ⟨hi2, h⟩ := h
  refine wp_iast (pc := 67) d_X12_takeFacts_67 ho1 hi2 ?_
  refine wp_iinc (pc := 68) (v := 1) (lv' := [some (vr _), some (vi _), some (vi _), some (vi _), some (vi _)]) d_X12_takeFacts_68 (by decide) rfl rfl rfl ?_
  refine wp_goto (pc := 71) (tgt := 2) d_X12_takeFacts_71 (by decide) ?_
  refine wp_sub ?_ h
  exact ⟨rfl, ⟨rfl, ⟨rfl, ⟨rfl, trivial⟩⟩⟩⟩
