/-! decode rows and regions (by program): X12_findMasks X12_numberOf X12_fewest X12_bits X12_clashes X12_clash X12_near X12_isBest X12_frontPlan X12_findPair X12_nextPair X12_isPair X12_frontAt X12_front X12_mend X12_choices X12_has X12_feasibleAt X12_planAt X12_feasibles X12_bestAt X12_bests X12_best X12_solve X12_hopeless X12_isLeft X12_findLeft X12_isOfLeft X12_reach X12_feasible X12_score -/
theorem d_X12_findMasks_0 : decode prog_14_method_133_code 0 = .ok (.aload_n 0, 1) := by decide +kernel
theorem d_X12_findMasks_1 : decode prog_14_method_133_code 1 = .ok (.iload_n 1, 1) := by decide +kernel
theorem d_X12_findMasks_2 : decode prog_14_method_133_code 2 = .ok (.invokevirtual 571, 3) := by decide +kernel
theorem d_X12_findMasks_5 : decode prog_14_method_133_code 5 = .ok (.aload_n 0, 1) := by decide +kernel
theorem d_X12_findMasks_6 : decode prog_14_method_133_code 6 = .ok (.iconst 0, 1) := by decide +kernel
theorem d_X12_findMasks_7 : decode prog_14_method_133_code 7 = .ok (.putfield 628, 3) := by decide +kernel
theorem d_X12_findMasks_10 : decode prog_14_method_133_code 10 = .ok (.iconst 0, 1) := by decide +kernel
theorem d_X12_findMasks_11 : decode prog_14_method_133_code 11 = .ok (.istore_n 2, 1) := by decide +kernel
theorem d_X12_findMasks_12 : decode prog_14_method_133_code 12 = .ok (.iload_n 2, 1) := by decide +kernel
theorem d_X12_findMasks_13 : decode prog_14_method_133_code 13 = .ok (.aload_n 0, 1) := by decide +kernel
theorem d_X12_findMasks_14 : decode prog_14_method_133_code 14 = .ok (.iload_n 1, 1) := by decide +kernel
theorem d_X12_findMasks_15 : decode prog_14_method_133_code 15 = .ok (.invokevirtual 459, 3) := by decide +kernel
theorem d_X12_findMasks_18 : decode prog_14_method_133_code 18 = .ok (.if_icmp .ge 43, 3) := by decide +kernel
theorem d_X12_findMasks_21 : decode prog_14_method_133_code 21 = .ok (.aload_n 0, 1) := by decide +kernel
theorem d_X12_findMasks_22 : decode prog_14_method_133_code 22 = .ok (.getfield 88, 3) := by decide +kernel
theorem d_X12_findMasks_25 : decode prog_14_method_133_code 25 = .ok (.bipush 24, 2) := by decide +kernel
theorem d_X12_findMasks_27 : decode prog_14_method_133_code 27 = .ok (.iload_n 1, 1) := by decide +kernel
theorem d_X12_findMasks_28 : decode prog_14_method_133_code 28 = .ok (.imul, 1) := by decide +kernel
theorem d_X12_findMasks_29 : decode prog_14_method_133_code 29 = .ok (.iload_n 2, 1) := by decide +kernel
theorem d_X12_findMasks_30 : decode prog_14_method_133_code 30 = .ok (.iadd, 1) := by decide +kernel
theorem d_X12_findMasks_31 : decode prog_14_method_133_code 31 = .ok (.iaload, 1) := by decide +kernel
theorem d_X12_findMasks_32 : decode prog_14_method_133_code 32 = .ok (.ifCond .ne 23, 3) := by decide +kernel
theorem d_X12_findMasks_35 : decode prog_14_method_133_code 35 = .ok (.aload_n 0, 1) := by decide +kernel
theorem d_X12_findMasks_36 : decode prog_14_method_133_code 36 = .ok (.getfield 171, 3) := by decide +kernel
theorem d_X12_findMasks_39 : decode prog_14_method_133_code 39 = .ok (.aload_n 0, 1) := by decide +kernel
theorem d_X12_findMasks_40 : decode prog_14_method_133_code 40 = .ok (.getfield 628, 3) := by decide +kernel
theorem d_X12_findMasks_43 : decode prog_14_method_133_code 43 = .ok (.iload_n 2, 1) := by decide +kernel
theorem d_X12_findMasks_44 : decode prog_14_method_133_code 44 = .ok (.iastore, 1) := by decide +kernel
theorem d_X12_findMasks_45 : decode prog_14_method_133_code 45 = .ok (.aload_n 0, 1) := by decide +kernel
theorem d_X12_findMasks_46 : decode prog_14_method_133_code 46 = .ok (.dup, 1) := by decide +kernel
theorem d_X12_findMasks_47 : decode prog_14_method_133_code 47 = .ok (.getfield 628, 3) := by decide +kernel
theorem d_X12_findMasks_50 : decode prog_14_method_133_code 50 = .ok (.iconst 1, 1) := by decide +kernel
theorem d_X12_findMasks_51 : decode prog_14_method_133_code 51 = .ok (.iadd, 1) := by decide +kernel
theorem d_X12_findMasks_52 : decode prog_14_method_133_code 52 = .ok (.putfield 628, 3) := by decide +kernel
theorem d_X12_findMasks_55 : decode prog_14_method_133_code 55 = .ok (.iinc 2 1, 3) := by decide +kernel
theorem d_X12_findMasks_58 : decode prog_14_method_133_code 58 = .ok (.goto (-46), 3) := by decide +kernel
theorem d_X12_findMasks_61 : decode prog_14_method_133_code 61 = .ok (.iconst 0, 1) := by decide +kernel
theorem d_X12_findMasks_62 : decode prog_14_method_133_code 62 = .ok (.istore_n 2, 1) := by decide +kernel
theorem d_X12_findMasks_63 : decode prog_14_method_133_code 63 = .ok (.iload_n 2, 1) := by decide +kernel
theorem d_X12_findMasks_64 : decode prog_14_method_133_code 64 = .ok (.sipush 4096, 3) := by decide +kernel
theorem d_X12_findMasks_67 : decode prog_14_method_133_code 67 = .ok (.if_icmp .ge 16, 3) := by decide +kernel
theorem d_X12_findMasks_70 : decode prog_14_method_133_code 70 = .ok (.aload_n 0, 1) := by decide +kernel
theorem d_X12_findMasks_71 : decode prog_14_method_133_code 71 = .ok (.getfield 168, 3) := by decide +kernel
theorem d_X12_findMasks_74 : decode prog_14_method_133_code 74 = .ok (.iload_n 2, 1) := by decide +kernel
theorem d_X12_findMasks_75 : decode prog_14_method_133_code 75 = .ok (.iconst 0, 1) := by decide +kernel
theorem d_X12_findMasks_76 : decode prog_14_method_133_code 76 = .ok (.bastore, 1) := by decide +kernel
theorem d_X12_findMasks_77 : decode prog_14_method_133_code 77 = .ok (.iinc 2 1, 3) := by decide +kernel
theorem d_X12_findMasks_80 : decode prog_14_method_133_code 80 = .ok (.goto (-17), 3) := by decide +kernel
theorem d_X12_findMasks_83 : decode prog_14_method_133_code 83 = .ok (.iconst 0, 1) := by decide +kernel
theorem d_X12_findMasks_84 : decode prog_14_method_133_code 84 = .ok (.istore_n 2, 1) := by decide +kernel
theorem d_X12_findMasks_85 : decode prog_14_method_133_code 85 = .ok (.iload_n 2, 1) := by decide +kernel
theorem d_X12_findMasks_86 : decode prog_14_method_133_code 86 = .ok (.aload_n 0, 1) := by decide +kernel
theorem d_X12_findMasks_87 : decode prog_14_method_133_code 87 = .ok (.getfield 82, 3) := by decide +kernel
theorem d_X12_findMasks_90 : decode prog_14_method_133_code 90 = .ok (.iload_n 1, 1) := by decide +kernel
theorem d_X12_findMasks_91 : decode prog_14_method_133_code 91 = .ok (.iaload, 1) := by decide +kernel
theorem d_X12_findMasks_92 : decode prog_14_method_133_code 92 = .ok (.if_icmp .ge 77, 3) := by decide +kernel
theorem d_X12_findMasks_95 : decode prog_14_method_133_code 95 = .ok (.aload_n 0, 1) := by decide +kernel
theorem d_X12_findMasks_96 : decode prog_14_method_133_code 96 = .ok (.iload_n 1, 1) := by decide +kernel
theorem d_X12_findMasks_97 : decode prog_14_method_133_code 97 = .ok (.iload_n 2, 1) := by decide +kernel
theorem d_X12_findMasks_98 : decode prog_14_method_133_code 98 = .ok (.invokevirtual 559, 3) := by decide +kernel
theorem d_X12_findMasks_101 : decode prog_14_method_133_code 101 = .ok (.ifCond .eq 62, 3) := by decide +kernel
theorem d_X12_findMasks_104 : decode prog_14_method_133_code 104 = .ok (.iconst 0, 1) := by decide +kernel
theorem d_X12_findMasks_105 : decode prog_14_method_133_code 105 = .ok (.istore_n 3, 1) := by decide +kernel
theorem d_X12_findMasks_106 : decode prog_14_method_133_code 106 = .ok (.iconst 0, 1) := by decide +kernel
theorem d_X12_findMasks_107 : decode prog_14_method_133_code 107 = .ok (.istore 4, 2) := by decide +kernel
theorem d_X12_findMasks_109 : decode prog_14_method_133_code 109 = .ok (.iload 4, 2) := by decide +kernel
theorem d_X12_findMasks_111 : decode prog_14_method_133_code 111 = .ok (.aload_n 0, 1) := by decide +kernel
theorem d_X12_findMasks_112 : decode prog_14_method_133_code 112 = .ok (.getfield 628, 3) := by decide +kernel
theorem d_X12_findMasks_115 : decode prog_14_method_133_code 115 = .ok (.if_icmp .ge 41, 3) := by decide +kernel
theorem d_X12_findMasks_118 : decode prog_14_method_133_code 118 = .ok (.iload_n 3, 1) := by decide +kernel
theorem d_X12_findMasks_119 : decode prog_14_method_133_code 119 = .ok (.aload_n 0, 1) := by decide +kernel
theorem d_X12_findMasks_120 : decode prog_14_method_133_code 120 = .ok (.getfield 151, 3) := by decide +kernel
theorem d_X12_findMasks_123 : decode prog_14_method_133_code 123 = .ok (.sipush 20000, 3) := by decide +kernel
theorem d_X12_findMasks_126 : decode prog_14_method_133_code 126 = .ok (.aload_n 0, 1) := by decide +kernel
theorem d_X12_findMasks_127 : decode prog_14_method_133_code 127 = .ok (.getfield 171, 3) := by decide +kernel
theorem d_X12_findMasks_130 : decode prog_14_method_133_code 130 = .ok (.iload 4, 2) := by decide +kernel
theorem d_X12_findMasks_132 : decode prog_14_method_133_code 132 = .ok (.iaload, 1) := by decide +kernel
theorem d_X12_findMasks_133 : decode prog_14_method_133_code 133 = .ok (.imul, 1) := by decide +kernel
theorem d_X12_findMasks_134 : decode prog_14_method_133_code 134 = .ok (.iload_n 2, 1) := by decide +kernel
theorem d_X12_findMasks_135 : decode prog_14_method_133_code 135 = .ok (.iadd, 1) := by decide +kernel
theorem d_X12_findMasks_136 : decode prog_14_method_133_code 136 = .ok (.iaload, 1) := by decide +kernel
theorem d_X12_findMasks_137 : decode prog_14_method_133_code 137 = .ok (.ifCond .le 10, 3) := by decide +kernel
theorem d_X12_findMasks_140 : decode prog_14_method_133_code 140 = .ok (.iconst 1, 1) := by decide +kernel
theorem d_X12_findMasks_141 : decode prog_14_method_133_code 141 = .ok (.iload 4, 2) := by decide +kernel
theorem d_X12_findMasks_143 : decode prog_14_method_133_code 143 = .ok (.ishl, 1) := by decide +kernel
theorem d_X12_findMasks_144 : decode prog_14_method_133_code 144 = .ok (.goto 4, 3) := by decide +kernel
theorem d_X12_findMasks_147 : decode prog_14_method_133_code 147 = .ok (.iconst 0, 1) := by decide +kernel
theorem d_X12_findMasks_148 : decode prog_14_method_133_code 148 = .ok (.ior, 1) := by decide +kernel
theorem d_X12_findMasks_149 : decode prog_14_method_133_code 149 = .ok (.istore_n 3, 1) := by decide +kernel
theorem d_X12_findMasks_150 : decode prog_14_method_133_code 150 = .ok (.iinc 4 1, 3) := by decide +kernel
theorem d_X12_findMasks_153 : decode prog_14_method_133_code 153 = .ok (.goto (-44), 3) := by decide +kernel
theorem d_X12_findMasks_156 : decode prog_14_method_133_code 156 = .ok (.aload_n 0, 1) := by decide +kernel
theorem d_X12_findMasks_157 : decode prog_14_method_133_code 157 = .ok (.getfield 168, 3) := by decide +kernel
theorem d_X12_findMasks_160 : decode prog_14_method_133_code 160 = .ok (.iload_n 3, 1) := by decide +kernel
theorem d_X12_findMasks_161 : decode prog_14_method_133_code 161 = .ok (.iconst 1, 1) := by decide +kernel
theorem d_X12_findMasks_162 : decode prog_14_method_133_code 162 = .ok (.bastore, 1) := by decide +kernel
theorem d_X12_findMasks_163 : decode prog_14_method_133_code 163 = .ok (.iinc 2 1, 3) := by decide +kernel
theorem d_X12_findMasks_166 : decode prog_14_method_133_code 166 = .ok (.goto (-81), 3) := by decide +kernel
theorem d_X12_findMasks_169 : decode prog_14_method_133_code 169 = .ok (.return_, 1) := by decide +kernel
theorem v_X12_findMasks_0 {E : EE} {d : Nat} {Q : Option AV → AH → Prop} {x0 : Nat} {x1 : Int32} {G : AH} (h0 : 0 < d) (h : isO E G x0 12 ∧ (wpV E (d - 1) M_X12_know [vr x0, vi x1] G (fun G1 => isO E G1 x0 12 ∧ (wp E d M_X12_findMasks 12 [some (vr x0), some (vi x1), some (vi 0), none, none] [] (sI G1 x0 73 0) Q)))) : wp E d M_X12_findMasks 0 [some (vr x0), some (vi x1), none, none, none] [] G Q := by
  refine wp_aload_n (pc := 0) d_X12_findMasks_0 rfl ?_
  refine wp_iload_n (pc := 1) d_X12_findMasks_1 rfl ?_
  obtain ⟨ho3, h⟩ := h
  refine wp_invV (pc := 2) (N := M_X12_know) (As := [vi _]) (rest := []) (r := (cn_12, ct_12, 95)) d_X12_findMasks_2 ml_X12_571 mk_X12_know mv_X12_know h0 ho3 rfl rfl (Nat.le_of_ble_eq_true rfl) ?_
  refine wpM.mono h (fun rr G1 hr => ?_)
  obtain ⟨rfl, h⟩ := hr
  show wp E d M_X12_findMasks 5 [some (vr _), some (vi _), none, none, none] [] G1 Q
  refine wp_aload_n (pc := 5) d_X12_findMasks_5 rfl ?_
  refine wp_iconst (pc := 6) (v := 0) d_X12_findMasks_6 rfl ?_
  obtain ⟨ho2, h⟩ := h
  refine wp_putI (pc := 7) d_X12_findMasks_7 fl_X12_628 (fun _ _ _ => rfl) (Or.inl rfl) ho2 (okI_int _) ?_
  refine wp_iconst (pc := 10) (v := 0) d_X12_findMasks_10 rfl ?_
  refine wp_istore_n (pc := 11) (lv' := [some (vr _), some (vi _), some (vi _), none, none]) d_X12_findMasks_11 (by decide) rfl ?_
  refine wp_sub ?_ h
  exact ⟨rfl, ⟨rfl, ⟨rfl, trivial⟩⟩⟩
theorem v_X12_findMasks_12 {E : EE} {d : Nat} {Q : Option AV → AH → Prop} {x0 : Nat} {x1 : Int32} {x2 : Int32} {G : AH} (h0 : 0 < d) (h : isO E G x0 12 ∧ (wpI E (d - 1) M_X12_rulesOf [vr x0, vi x1] G (fun r1 G2 => (r1 ≤ x2 → wp E d M_X12_findMasks 63 [some (vr x0), some (vi x1), some (vi 0), none, none] [] G2 Q) ∧ (¬ (r1 ≤ x2) → isO E G2 x0 12 ∧ (isO E G2 (gR G2 x0 27) 14 ∧ (vp_in ((24 * x1) + x2) (gN G2 (gR G2 x0 27)) ∧ ((¬ (gI G2 (gR G2 x0 27) (Int32.toNatClampNeg ((24 * x1) + x2))) = 0 → wp E d M_X12_findMasks 55 [some (vr x0), some (vi x1), some (vi x2), none, none] [] G2 Q) ∧ ((gI G2 (gR G2 x0 27) (Int32.toNatClampNeg ((24 * x1) + x2))) = 0 → isO E G2 (gR G2 x0 72) 14 ∧ (vp_in (gI G2 x0 73) (gN G2 (gR G2 x0 72)) ∧ (∀ G8 : AH, G8 = sI G2 (gR G2 x0 72) (Int32.toNatClampNeg (gI G2 x0 73)) x2 → ∀ G10 : AH, G10 = sI G8 x0 73 ((gI G8 x0 73) + 1) → wp E d M_X12_findMasks 55 [some (vr x0), some (vi x1), some (vi x2), none, none] [] G10 Q)))))))))) : wp E d M_X12_findMasks 12 [some (vr x0), some (vi x1), some (vi x2), none, none] [] G Q := by
  refine wp_iload_n (pc := 12) d_X12_findMasks_12 rfl ?_
  refine wp_aload_n (pc := 13) d_X12_findMasks_13 rfl ?_
  refine wp_iload_n (pc := 14) d_X12_findMasks_14 rfl ?_
  obtain ⟨ho12, h⟩ := h
  refine wp_invV (pc := 15) (N := M_X12_rulesOf) (As := [vi _]) (rest := [vi _]) (r := (cn_12, ct_12, 95)) d_X12_findMasks_15 ml_X12_459 mk_X12_rulesOf mv_X12_rulesOf h0 ho12 rfl rfl (Nat.le_of_ble_eq_true rfl) ?_
  refine wpM.mono h (fun rr G2 hr => ?_)
  obtain ⟨r1, rfl, h⟩ := hr
  show wp E d M_X12_findMasks 18 [some (vr _), some (vi _), some (vi _), none, none] [vi _, vi _] G2 Q
  refine wp_icmp_ge (pc := 18) (tgt := 61) d_X12_findMasks_18 (by decide) (fun hc => ?_) (fun hc => ?_)
  · have h := h.1 hc
    refine wp_iconst (pc := 61) (v := 0) d_X12_findMasks_61 rfl ?_
    refine wp_istore_n (pc := 62) (lv' := [some (vr _), some (vi _), some (vi _), none, none]) d_X12_findMasks_62 (by decide) rfl ?_
    refine wp_sub ?_ h
    exact ⟨rfl, ⟨rfl, ⟨rfl, trivial⟩⟩⟩
  · have h := h.2 hc
    refine wp_aload_n (pc := 21) d_X12_findMasks_21 rfl ?_
    obtain ⟨ho3, h⟩ := h
    refine wp_getR (pc := 22) d_X12_findMasks_22 fl_X12_88 (fun _ _ _ => rfl) ho3 ?_
    refine wp_bipush (pc := 25) (v := 24) d_X12_findMasks_25 rfl ?_
    refine wp_iload_n (pc := 27) d_X12_findMasks_27 rfl ?_
    refine wp_imul (pc := 28) d_X12_findMasks_28 ?_
    refine wp_iload_n (pc := 29) d_X12_findMasks_29 rfl ?_
    refine wp_iadd (pc := 30) d_X12_findMasks_30 ?_
    obtain ⟨ho4, h⟩ := h
    obtain ⟨hi5, h⟩ := h
    refine wp_iald (pc := 31) d_X12_findMasks_31 ho4 hi5 ?_
    refine wp_if_ne (pc := 32) (tgt := 55) d_X12_findMasks_32 (by decide) (fun hc => ?_) (fun hc => ?_)
    · have h := h.1 hc
      refine wp_sub ?_ h
      exact ⟨rfl, ⟨rfl, ⟨rfl, trivial⟩⟩⟩
    · have h := h.2 hc
      refine wp_aload_n (pc := 35) d_X12_findMasks_35 rfl ?_
      refine wp_getR (pc := 36) d_X12_findMasks_36 fl_X12_171 (fun _ _ _ => rfl) ho3 ?_
      refine wp_aload_n (pc := 39) d_X12_findMasks_39 rfl ?_
      refine wp_getI (pc := 40) d_X12_findMasks_40 fl_X12_628 (fun _ _ _ => rfl) ho3 ?_
      refine wp_iload_n (pc := 43) d_X12_findMasks_43 rfl ?_
      obtain ⟨ho6, h⟩ := h
      obtain ⟨hi7, h⟩ := h
      refine wp_iast (pc := 44) d_X12_findMasks_44 ho6 hi7 ?_
      refine wp_nm (fun G8 eG8 => ?_)
      have h := h G8 eG8
      have ho9 := isO_sI eG8 ho3
      refine wp_aload_n (pc := 45) d_X12_findMasks_45 rfl ?_
      refine wp_dup (pc := 46) d_X12_findMasks_46 (c1_r _) ?_
      refine wp_getI (pc := 47) d_X12_findMasks_47 fl_X12_628 (fun _ _ _ => rfl) ho9 ?_
      refine wp_iconst (pc := 50) (v := 1) d_X12_findMasks_50 rfl ?_
      refine wp_iadd (pc := 51) d_X12_findMasks_51 ?_
      refine wp_putI (pc := 52) d_X12_findMasks_52 fl_X12_628 (fun _ _ _ => rfl) (Or.inl rfl) ho9 (okI_int _) ?_
      refine wp_nm (fun G10 eG10 => ?_)
      have h := h G10 eG10
      have ho11 := isO_sI eG10 ho9
      refine wp_sub ?_ h
      exact ⟨rfl, ⟨rfl, ⟨rfl, trivial⟩⟩⟩
theorem v_X12_findMasks_55 {E : EE} {d : Nat} {Q : Option AV → AH → Prop} {x0 : Nat} {x1 : Int32} {x2 : Int32} {G : AH} (h : wp E d M_X12_findMasks 12 [some (vr x0), some (vi x1), some (vi (x2 + 1)), none, none] [] G Q) : wp E d M_X12_findMasks 55 [some (vr x0), some (vi x1), some (vi x2), none, none] [] G Q := by
  refine wp_iinc (pc := 55) (v := 1) (lv' := [some (vr _), some (vi _), some (vi _), none, none]) d_X12_findMasks_55 (by decide) rfl rfl rfl ?_
  refine wp_goto (pc := 58) (tgt := 12) d_X12_findMasks_58 (by decide) ?_
  refine wp_sub ?_ h
  exact ⟨rfl, ⟨rfl, ⟨rfl, trivial⟩⟩⟩
theorem v_X12_findMasks_63 {E : EE} {d : Nat} {Q : Option AV → AH → Prop} {x0 : Nat} {x1 : Int32} {x2 : Int32} {G : AH} (h : (4096 ≤ x2 → wp E d M_X12_findMasks 85 [some (vr x0), some (vi x1), some (vi 0), none, none] [] G Q) ∧ (¬ (4096 ≤ x2) → isO E G x0 12 ∧ (isO E G (gR G x0 71) 16 ∧ (vp_in x2 (gN G (gR G x0 71)) ∧ (wp E d M_X12_findMasks 63 [some (vr x0), some (vi x1), some (vi (x2 + 1)), none, none] [] (sI G (gR G x0 71) (Int32.toNatClampNeg x2) (nz 0)) Q))))) : wp E d M_X12_findMasks 63 [some (vr x0), some (vi x1), some (vi x2), none, none] [] G Q := by
  refine wp_iload_n (pc := 63) d_X12_findMasks_63 rfl ?_
  refine wp_sipush (pc := 64) (v := 4096) d_X12_findMasks_64 rfl ?_
  refine wp_icmp_ge (pc := 67) (tgt := 83) d_X12_findMasks_67 (by decide) (fun hc => ?_) (fun hc => ?_)
  · have h := h.1 hc
    refine wp_iconst (pc := 83) (v := 0) d_X12_findMasks_83 rfl ?_
    refine wp_istore_n (pc := 84) (lv' := [some (vr _), some (vi _), some (vi _), none, none]) d_X12_findMasks_84 (by decide) rfl ?_
    refine wp_sub ?_ h
    exact ⟨rfl, ⟨rfl, ⟨rfl, trivial⟩⟩⟩
  · have h := h.2 hc
    refine wp_aload_n (pc := 70) d_X12_findMasks_70 rfl ?_
    obtain ⟨ho1, h⟩ := h
    refine wp_getR (pc := 71) d_X12_findMasks_71 fl_X12_168 (fun _ _ _ => rfl) ho1 ?_
    refine wp_iload_n (pc := 74) d_X12_findMasks_74 rfl ?_
    refine wp_iconst (pc := 75) (v := 0) d_X12_findMasks_75 rfl ?_
    obtain ⟨ho2, h⟩ := h
    obtain ⟨hi3, h⟩ := h
    refine wp_zast (pc := 76) d_X12_findMasks_76 ho2 hi3 ?_
    refine wp_iinc (pc := 77) (v := 1) (lv' := [some (vr _), some (vi _), some (vi _), none, none]) d_X12_findMasks_77 (by decide) rfl rfl rfl ?_
    refine wp_goto (pc := 80) (tgt := 63) d_X12_findMasks_80 (by decide) ?_
    refine wp_sub ?_ h
    exact ⟨rfl, ⟨rfl, ⟨rfl, trivial⟩⟩⟩
theorem v_X12_findMasks_85 {E : EE} {d : Nat} {Q : Option AV → AH → Prop} {x0 : Nat} {x1 : Int32} {x2 : Int32} {G : AH} (h0 : 0 < d) (h : isO E G x0 12 ∧ (isO E G (gR G x0 25) 14 ∧ (vp_in x1 (gN G (gR G x0 25)) ∧ (((gI G (gR G x0 25) (Int32.toNatClampNeg x1)) ≤ x2 → Q none G) ∧ (¬ ((gI G (gR G x0 25) (Int32.toNatClampNeg x1)) ≤ x2) → wpI E (d - 1) M_X12_isAllowed [vr x0, vi x1, vi x2] G (fun r4 G5 => (r4 = 0 → wp E d M_X12_findMasks 163 [some (vr x0), some (vi x1), some (vi x2), none, none] [] G5 Q) ∧ (¬ (r4 = 0) → wp E d M_X12_findMasks 109 [some (vr x0), some (vi x1), some (vi x2), some (vi 0), some (vi 0)] [] G5 Q))))))) : wp E d M_X12_findMasks 85 [some (vr x0), some (vi x1), some (vi x2), none, none] [] G Q := by
  refine wp_iload_n (pc := 85) d_X12_findMasks_85 rfl ?_
  refine wp_aload_n (pc := 86) d_X12_findMasks_86 rfl ?_
  obtain ⟨ho1, h⟩ := h
  refine wp_getR (pc := 87) d_X12_findMasks_87 fl_X12_82 (fun _ _ _ => rfl) ho1 ?_
  refine wp_iload_n (pc := 90) d_X12_findMasks_90 rfl ?_
  obtain ⟨ho2, h⟩ := h
  obtain ⟨hi3, h⟩ := h
  refine wp_iald (pc := 91) d_X12_findMasks_91 ho2 hi3 ?_
  refine wp_icmp_ge (pc := 92) (tgt := 169) d_X12_findMasks_92 (by decide) (fun hc => ?_) (fun hc => ?_)
  · have h := h.1 hc
    exact wp_vret (pc := 169) d_X12_findMasks_169 rfl h
  · have h := h.2 hc
    refine wp_aload_n (pc := 95) d_X12_findMasks_95 rfl ?_
    refine wp_iload_n (pc := 96) d_X12_findMasks_96 rfl ?_
    refine wp_iload_n (pc := 97) d_X12_findMasks_97 rfl ?_
    refine wp_invV (pc := 98) (N := M_X12_isAllowed) (As := [vi _, vi _]) (rest := []) (r := (cn_12, ct_12, 95)) d_X12_findMasks_98 ml_X12_559 mk_X12_isAllowed mv_X12_isAllowed h0 ho1 rfl rfl (Nat.le_of_ble_eq_true rfl) ?_
    refine wpM.mono h (fun rr G5 hr => ?_)
    obtain ⟨r4, rfl, h⟩ := hr
    show wp E d M_X12_findMasks 101 [some (vr _), some (vi _), some (vi _), none, none] [vi _] G5 Q
    refine wp_if_eq (pc := 101) (tgt := 163) d_X12_findMasks_101 (by decide) (fun hc => ?_) (fun hc => ?_)
    · have h := h.1 hc
      refine wp_sub ?_ h
      exact ⟨rfl, ⟨rfl, ⟨rfl, trivial⟩⟩⟩
    · have h := h.2 hc
      refine wp_iconst (pc := 104) (v := 0) d_X12_findMasks_104 rfl ?_
      refine wp_istore_n (pc := 105) (lv' := [some (vr _), some (vi _), some (vi _), some (vi _), none]) d_X12_findMasks_105 (by decide) rfl ?_
      refine wp_iconst (pc := 106) (v := 0) d_X12_findMasks_106 rfl ?_
      refine wp_istore (pc := 107) (lv' := [some (vr _), some (vi _), some (vi _), some (vi _), some (vi _)]) d_X12_findMasks_107 (by decide) rfl ?_
      refine wp_sub ?_ h
      exact ⟨rfl, ⟨rfl, ⟨rfl, ⟨rfl, ⟨rfl, trivial⟩⟩⟩⟩⟩
theorem v_X12_findMasks_109 {E : EE} {d : Nat} {Q : Option AV → AH → Prop} {x0 : Nat} {x1 : Int32} {x2 : Int32} {x3 : Int32} {x4 : Int32} {G : AH} (h : isO E G x0 12 ∧ (((gI G x0 73) ≤ x4 → isO E G (gR G x0 71) 16 ∧ (vp_in x3 (gN G (gR G x0 71)) ∧ (wp E d M_X12_findMasks 163 [some (vr x0), some (vi x1), some (vi x2), none, none] [] (sI G (gR G x0 71) (Int32.toNatClampNeg x3) (nz 1)) Q))) ∧ (¬ ((gI G x0 73) ≤ x4) → isO E G (gR G x0 72) 14 ∧ (vp_in x4 (gN G (gR G x0 72)) ∧ (isO E G (gR G x0 64) 14 ∧ (vp_in ((20000 * (gI G (gR G x0 72) (Int32.toNatClampNeg x4))) + x2) (gN G (gR G x0 64)) ∧ (((gI G (gR G x0 64) (Int32.toNatClampNeg ((20000 * (gI G (gR G x0 72) (Int32.toNatClampNeg x4))) + x2))) ≤ 0 → wp E d M_X12_findMasks 148 [some (vr x0), some (vi x1), some (vi x2), some (vi x3), some (vi x4)] [vi 0, vi x3] G Q) ∧ (¬ ((gI G (gR G x0 64) (Int32.toNatClampNeg ((20000 * (gI G (gR G x0 72) (Int32.toNatClampNeg x4))) + x2))) ≤ 0) → wp E d M_X12_findMasks 148 [some (vr x0), some (vi x1), some (vi x2), some (vi x3), some (vi x4)] [vi (1 <<< (x4 &&& 31)), vi x3] G Q)))))))) : wp E d M_X12_findMasks 109 [some (vr x0), some (vi x1), some (vi x2), some (vi x3), some (vi x4)] [] G Q := by
  refine wp_iload (pc := 109) d_X12_findMasks_109 rfl ?_
  refine wp_aload_n (pc := 111) d_X12_findMasks_111 rfl ?_
  obtain ⟨ho1, h⟩ := h
  refine wp_getI (pc := 112) d_X12_findMasks_112 fl_X12_628 (fun _ _ _ => rfl) ho1 ?_
  refine wp_icmp_ge (pc := 115) (tgt := 156) d_X12_findMasks_115 (by decide) (fun hc => ?_) (fun hc => ?_)
  · have h := h.1 hc
    refine wp_aload_n (pc := 156) d_X12_findMasks_156 rfl ?_
    refine wp_getR (pc := 157) d_X12_findMasks_157 fl_X12_168 (fun _ _ _ => rfl) ho1 ?_
    refine wp_iload_n (pc := 160) d_X12_findMasks_160 rfl ?_
    refine wp_iconst (pc := 161) (v := 1) d_X12_findMasks_161 rfl ?_
    obtain ⟨ho2, h⟩ := h
    obtain ⟨hi3, h⟩ := h
    refine wp_zast (pc := 162) d_X12_findMasks_162 ho2 hi3 ?_
    refine wp_sub ?_ h
    exact ⟨rfl, ⟨rfl, ⟨rfl, trivial⟩⟩⟩
  · have h := h.2 hc
    refine wp_iload_n (pc := 118) d_X12_findMasks_118 rfl ?_
    refine wp_aload_n (pc := 119) d_X12_findMasks_119 rfl ?_
    refine wp_getR (pc := 120) d_X12_findMasks_120 fl_X12_151 (fun _ _ _ => rfl) ho1 ?_
    refine wp_sipush (pc := 123) (v := 20000) d_X12_findMasks_123 rfl ?_
    refine wp_aload_n (pc := 126) d_X12_findMasks_126 rfl ?_
    refine wp_getR (pc := 127) d_X12_findMasks_127 fl_X12_171 (fun _ _ _ => rfl) ho1 ?_
    refine wp_iload (pc := 130) d_X12_findMasks_130 rfl ?_
    obtain ⟨ho4, h⟩ := h
    obtain ⟨hi5, h⟩ := h
    refine wp_iald (pc := 132) d_X12_findMasks_132 ho4 hi5 ?_
    refine wp_imul (pc := 133) d_X12_findMasks_133 ?_
    refine wp_iload_n (pc := 134) d_X12_findMasks_134 rfl ?_
    refine wp_iadd (pc := 135) d_X12_findMasks_135 ?_
    obtain ⟨ho6, h⟩ := h
    obtain ⟨hi7, h⟩ := h
    refine wp_iald (pc := 136) d_X12_findMasks_136 ho6 hi7 ?_
    refine wp_if_le (pc := 137) (tgt := 147) d_X12_findMasks_137 (by decide) (fun hc => ?_) (fun hc => ?_)
    · have h := h.1 hc
      refine wp_iconst (pc := 147) (v := 0) d_X12_findMasks_147 rfl ?_
      refine wp_sub ?_ h
      exact ⟨rfl, ⟨rfl, ⟨rfl, ⟨rfl, ⟨rfl, trivial⟩⟩⟩⟩⟩
    · have h := h.2 hc
      refine wp_iconst (pc := 140) (v := 1) d_X12_findMasks_140 rfl ?_
      refine wp_iload (pc := 141) d_X12_findMasks_141 rfl ?_
      refine wp_ishl (pc := 143) d_X12_findMasks_143 ?_
      refine wp_goto (pc := 144) (tgt := 148) d_X12_findMasks_144 (by decide) ?_
      refine wp_sub ?_ h
      exact ⟨rfl, ⟨rfl, ⟨rfl, ⟨rfl, ⟨rfl, trivial⟩⟩⟩⟩⟩
theorem v_X12_findMasks_148 {E : EE} {d : Nat} {Q : Option AV → AH → Prop} {x0 : Nat} {x1 : Int32} {x2 : Int32} {x3 : Int32} {x4 : Int32} {t0 : Int32} {t1 : Int32} {G : AH} (h : wp E d M_X12_findMasks 109 [some (vr x0), some (vi x1), some (vi x2), some (vi (t0 ||| t1)), some (vi (x4 + 1))] [] G Q) : wp E d M_X12_findMasks 148 [some (vr x0), some (vi x1), some (vi x2), some (vi x3), some (vi x4)] [vi t1, vi t0] G Q := by
  refine wp_ior (pc := 148) d_X12_findMasks_148 ?_
  refine wp_istore_n (pc := 149) (lv' := [some (vr _), some (vi _), some (vi _), some (vi _), some (vi _)]) d_X12_findMasks_149 (by decide) rfl ?_
  refine wp_iinc (pc := 150) (v := 1) (lv' := [some (vr _), some (vi _), some (vi _), some (vi _), some (vi _)]) d_X12_findMasks_150 (by decide) rfl rfl rfl ?_
  refine wp_goto (pc := 153) (tgt := 109) d_X12_findMasks_153 (by decide) ?_
  refine wp_sub ?_ h
  exact ⟨rfl, ⟨rfl, ⟨rfl, ⟨rfl, ⟨rfl, trivial⟩⟩⟩⟩⟩
theorem v_X12_findMasks_163 {E : EE} {d : Nat} {Q : Option AV → AH → Prop} {x0 : Nat} {x1 : Int32} {x2 : Int32} {G : AH} (h : wp E d M_X12_findMasks 85 [some (vr x0), some (vi x1), some (vi (x2 + 1)), none, none] [] G Q) : wp E d M_X12_findMasks 163 [some (vr x0), some (vi x1), some (vi x2), none, none] [] G Q := by
  refine wp_iinc (pc := 163) (v := 1) (lv' := [some (vr _), some (vi _), some (vi _), none, none]) d_X12_findMasks_163 (by decide) rfl rfl rfl ?_
  refine wp_goto (pc := 166) (tgt := 85) d_X12_findMasks_166 (by decide) ?_
  refine wp_sub ?_ h
  exact ⟨rfl, ⟨rfl, ⟨rfl, trivial⟩⟩⟩
theorem d_X12_numberOf_0 : decode prog_14_method_135_code 0 = .ok (.iconst 0, 1) := by decide +kernel
theorem d_X12_numberOf_1 : decode prog_14_method_135_code 1 = .ok (.istore_n 2, 1) := by decide +kernel
theorem d_X12_numberOf_2 : decode prog_14_method_135_code 2 = .ok (.iconst 0, 1) := by decide +kernel
theorem d_X12_numberOf_3 : decode prog_14_method_135_code 3 = .ok (.istore_n 3, 1) := by decide +kernel
theorem d_X12_numberOf_4 : decode prog_14_method_135_code 4 = .ok (.iload_n 3, 1) := by decide +kernel
theorem d_X12_numberOf_5 : decode prog_14_method_135_code 5 = .ok (.aload_n 0, 1) := by decide +kernel
theorem d_X12_numberOf_6 : decode prog_14_method_135_code 6 = .ok (.getfield 628, 3) := by decide +kernel
theorem d_X12_numberOf_9 : decode prog_14_method_135_code 9 = .ok (.if_icmp .ge 33, 3) := by decide +kernel
theorem d_X12_numberOf_12 : decode prog_14_method_135_code 12 = .ok (.iload_n 2, 1) := by decide +kernel
theorem d_X12_numberOf_13 : decode prog_14_method_135_code 13 = .ok (.iload_n 1, 1) := by decide +kernel
theorem d_X12_numberOf_14 : decode prog_14_method_135_code 14 = .ok (.iload_n 3, 1) := by decide +kernel
theorem d_X12_numberOf_15 : decode prog_14_method_135_code 15 = .ok (.ishr, 1) := by decide +kernel
theorem d_X12_numberOf_16 : decode prog_14_method_135_code 16 = .ok (.iconst 1, 1) := by decide +kernel
theorem d_X12_numberOf_17 : decode prog_14_method_135_code 17 = .ok (.iand, 1) := by decide +kernel
theorem d_X12_numberOf_18 : decode prog_14_method_135_code 18 = .ok (.iconst 1, 1) := by decide +kernel
theorem d_X12_numberOf_19 : decode prog_14_method_135_code 19 = .ok (.if_icmp .ne 14, 3) := by decide +kernel
theorem d_X12_numberOf_22 : decode prog_14_method_135_code 22 = .ok (.iconst 1, 1) := by decide +kernel
theorem d_X12_numberOf_23 : decode prog_14_method_135_code 23 = .ok (.aload_n 0, 1) := by decide +kernel
theorem d_X12_numberOf_24 : decode prog_14_method_135_code 24 = .ok (.getfield 171, 3) := by decide +kernel
theorem d_X12_numberOf_27 : decode prog_14_method_135_code 27 = .ok (.iload_n 3, 1) := by decide +kernel
theorem d_X12_numberOf_28 : decode prog_14_method_135_code 28 = .ok (.iaload, 1) := by decide +kernel
theorem d_X12_numberOf_29 : decode prog_14_method_135_code 29 = .ok (.ishl, 1) := by decide +kernel
theorem d_X12_numberOf_30 : decode prog_14_method_135_code 30 = .ok (.goto 4, 3) := by decide +kernel
theorem d_X12_numberOf_33 : decode prog_14_method_135_code 33 = .ok (.iconst 0, 1) := by decide +kernel
theorem d_X12_numberOf_34 : decode prog_14_method_135_code 34 = .ok (.ior, 1) := by decide +kernel
theorem d_X12_numberOf_35 : decode prog_14_method_135_code 35 = .ok (.istore_n 2, 1) := by decide +kernel
theorem d_X12_numberOf_36 : decode prog_14_method_135_code 36 = .ok (.iinc 3 1, 3) := by decide +kernel
theorem d_X12_numberOf_39 : decode prog_14_method_135_code 39 = .ok (.goto (-35), 3) := by decide +kernel
theorem d_X12_numberOf_42 : decode prog_14_method_135_code 42 = .ok (.iload_n 2, 1) := by decide +kernel
theorem d_X12_numberOf_43 : decode prog_14_method_135_code 43 = .ok (.ireturn, 1) := by decide +kernel
theorem v_X12_numberOf_0 {E : EE} {d : Nat} {Q : Option AV → AH → Prop} {x0 : Nat} {x1 : Int32} {G : AH} (h : wp E d M_X12_numberOf 4 [some (vr x0), some (vi x1), some (vi 0), some (vi 0)] [] G Q) : wp E d M_X12_numberOf 0 [some (vr x0), some (vi x1), none, none] [] G Q := by
  refine wp_iconst (pc := 0) (v := 0) d_X12_numberOf_0 rfl ?_
  refine wp_istore_n (pc := 1) (lv' := [some (vr _), some (vi _), some (vi _), none]) d_X12_numberOf_1 (by decide) rfl ?_
  refine wp_iconst (pc := 2) (v := 0) d_X12_numberOf_2 rfl ?_
  refine wp_istore_n (pc := 3) (lv' := [some (vr _), some (vi _), some (vi _), some (vi _)]) d_X12_numberOf_3 (by decide) rfl ?_
  refine wp_sub ?_ h
  exact ⟨rfl, ⟨rfl, ⟨rfl, ⟨rfl, trivial⟩⟩⟩⟩
theorem v_X12_numberOf_4 {E : EE} {d : Nat} {Q : Option AV → AH → Prop} {x0 : Nat} {x1 : Int32} {x2 : Int32} {x3 : Int32} {G : AH} (h : isO E G x0 12 ∧ (((gI G x0 73) ≤ x3 → Q (some (vi x2)) G) ∧ (¬ ((gI G x0 73) ≤ x3) → (¬ ((x1 >>> (x3 &&& 31)) &&& 1) = 1 → wp E d M_X12_numberOf 34 [some (vr x0), some (vi x1), some (vi x2), some (vi x3)] [vi 0, vi x2] G Q) ∧ (((x1 >>> (x3 &&& 31)) &&& 1) = 1 → isO E G (gR G x0 72) 14 ∧ (vp_in x3 (gN G (gR G x0 72)) ∧ (wp E d M_X12_numberOf 34 [some (vr x0), some (vi x1), some (vi x2), some (vi x3)] [vi (1 <<< ((gI G (gR G x0 72) (Int32.toNatClampNeg x3)) &&& 31)), vi x2] G Q)))))) : wp E d M_X12_numberOf 4 [some (vr x0), some (vi x1), some (vi x2), some (vi x3)] [] G Q := by
  refine wp_iload_n (pc := 4) d_X12_numberOf_4 rfl ?_
  refine wp_aload_n (pc := 5) d_X12_numberOf_5 rfl ?_
  obtain ⟨ho1, h⟩ := h
  refine wp_getI (pc := 6) d_X12_numberOf_6 fl_X12_628 (fun _ _ _ => rfl) ho1 ?_
  refine wp_icmp_ge (pc := 9) (tgt := 42) d_X12_numberOf_9 (by decide) (fun hc => ?_) (fun hc => ?_)
  · have h := h.1 hc
    refine wp_iload_n (pc := 42) d_X12_numberOf_42 rfl ?_
    exact wp_iret (pc := 43) d_X12_numberOf_43 rfl h
  · have h := h.2 hc
    refine wp_iload_n (pc := 12) d_X12_numberOf_12 rfl ?_
    refine wp_iload_n (pc := 13) d_X12_numberOf_13 rfl ?_
    refine wp_iload_n (pc := 14) d_X12_numberOf_14 rfl ?_
    refine wp_ishr (pc := 15) d_X12_numberOf_15 ?_
    refine wp_iconst (pc := 16) (v := 1) d_X12_numberOf_16 rfl ?_
    refine wp_iand (pc := 17) d_X12_numberOf_17 ?_
    refine wp_iconst (pc := 18) (v := 1) d_X12_numberOf_18 rfl ?_
    refine wp_icmp_ne (pc := 19) (tgt := 33) d_X12_numberOf_19 (by decide) (fun hc => ?_) (fun hc => ?_)
    · have h := h.1 hc
      refine wp_iconst (pc := 33) (v := 0) d_X12_numberOf_33 rfl ?_
      refine wp_sub ?_ h
      exact ⟨rfl, ⟨rfl, ⟨rfl, ⟨rfl, trivial⟩⟩⟩⟩
    · have h := h.2 hc
      refine wp_iconst (pc := 22) (v := 1) d_X12_numberOf_22 rfl ?_
      refine wp_aload_n (pc := 23) d_X12_numberOf_23 rfl ?_
      refine wp_getR (pc := 24) d_X12_numberOf_24 fl_X12_171 (fun _ _ _ => rfl) ho1 ?_
      refine wp_iload_n (pc := 27) d_X12_numberOf_27 rfl ?_
      obtain ⟨ho2, h⟩ := h
      obtain ⟨hi3, h⟩ := h
      refine wp_iald (pc := 28) d_X12_numberOf_28 ho2 hi3 ?_
      refine wp_ishl (pc := 29) d_X12_numberOf_29 ?_
      refine wp_goto (pc := 30) (tgt := 34) d_X12_numberOf_30 (by decide) ?_
      refine wp_sub ?_ h
      exact ⟨rfl, ⟨rfl, ⟨rfl, ⟨rfl, trivial⟩⟩⟩⟩
theorem v_X12_numberOf_34 {E : EE} {d : Nat} {Q : Option AV → AH → Prop} {x0 : Nat} {x1 : Int32} {x2 : Int32} {x3 : Int32} {t0 : Int32} {t1 : Int32} {G : AH} (h : wp E d M_X12_numberOf 4 [some (vr x0), some (vi x1), some (vi (t0 ||| t1)), some (vi (x3 + 1))] [] G Q) : wp E d M_X12_numberOf 34 [some (vr x0), some (vi x1), some (vi x2), some (vi x3)] [vi t1, vi t0] G Q := by
  refine wp_ior (pc := 34) d_X12_numberOf_34 ?_
  refine wp_istore_n (pc := 35) (lv' := [some (vr _), some (vi _), some (vi _), some (vi _)]) d_X12_numberOf_35 (by decide) rfl ?_
  refine wp_iinc (pc := 36) (v := 1) (lv' := [some (vr _), some (vi _), some (vi _), some (vi _)]) d_X12_numberOf_36 (by decide) rfl rfl rfl ?_
  refine wp_goto (pc := 39) (tgt := 4) d_X12_numberOf_39 (by decide) ?_
  refine wp_sub ?_ h
  exact ⟨rfl, ⟨rfl, ⟨rfl, ⟨rfl, trivial⟩⟩⟩⟩
theorem d_X12_fewest_0 : decode prog_14_method_138_code 0 = .ok (.aload_n 0, 1) := by decide +kernel
theorem d_X12_fewest_1 : decode prog_14_method_138_code 1 = .ok (.iload_n 1, 1) := by decide +kernel
theorem d_X12_fewest_2 : decode prog_14_method_138_code 2 = .ok (.invokevirtual 453, 3) := by decide +kernel
theorem d_X12_fewest_5 : decode prog_14_method_138_code 5 = .ok (.ifCond .ne 5, 3) := by decide +kernel
theorem d_X12_fewest_8 : decode prog_14_method_138_code 8 = .ok (.iconst (-1), 1) := by decide +kernel
theorem d_X12_fewest_9 : decode prog_14_method_138_code 9 = .ok (.ireturn, 1) := by decide +kernel
theorem d_X12_fewest_10 : decode prog_14_method_138_code 10 = .ok (.aload_n 0, 1) := by decide +kernel
theorem d_X12_fewest_11 : decode prog_14_method_138_code 11 = .ok (.iload_n 1, 1) := by decide +kernel
theorem d_X12_fewest_12 : decode prog_14_method_138_code 12 = .ok (.invokevirtual 631, 3) := by decide +kernel
theorem d_X12_fewest_15 : decode prog_14_method_138_code 15 = .ok (.iconst 0, 1) := by decide +kernel
theorem d_X12_fewest_16 : decode prog_14_method_138_code 16 = .ok (.istore_n 2, 1) := by decide +kernel
theorem d_X12_fewest_17 : decode prog_14_method_138_code 17 = .ok (.iconst 0, 1) := by decide +kernel
theorem d_X12_fewest_18 : decode prog_14_method_138_code 18 = .ok (.istore_n 3, 1) := by decide +kernel
theorem d_X12_fewest_19 : decode prog_14_method_138_code 19 = .ok (.iconst 0, 1) := by decide +kernel
theorem d_X12_fewest_20 : decode prog_14_method_138_code 20 = .ok (.istore 4, 2) := by decide +kernel
theorem d_X12_fewest_22 : decode prog_14_method_138_code 22 = .ok (.iload 4, 2) := by decide +kernel
theorem d_X12_fewest_24 : decode prog_14_method_138_code 24 = .ok (.iconst 1, 1) := by decide +kernel
theorem d_X12_fewest_25 : decode prog_14_method_138_code 25 = .ok (.aload_n 0, 1) := by decide +kernel
theorem d_X12_fewest_26 : decode prog_14_method_138_code 26 = .ok (.getfield 628, 3) := by decide +kernel
theorem d_X12_fewest_29 : decode prog_14_method_138_code 29 = .ok (.ishl, 1) := by decide +kernel
theorem d_X12_fewest_30 : decode prog_14_method_138_code 30 = .ok (.if_icmp .ge 39, 3) := by decide +kernel
theorem d_X12_fewest_33 : decode prog_14_method_138_code 33 = .ok (.iload_n 3, 1) := by decide +kernel
theorem d_X12_fewest_34 : decode prog_14_method_138_code 34 = .ok (.ifCond .eq 15, 3) := by decide +kernel
theorem d_X12_fewest_37 : decode prog_14_method_138_code 37 = .ok (.iload 4, 2) := by decide +kernel
theorem d_X12_fewest_39 : decode prog_14_method_138_code 39 = .ok (.invokestatic 640, 3) := by decide +kernel
theorem d_X12_fewest_42 : decode prog_14_method_138_code 42 = .ok (.iload_n 2, 1) := by decide +kernel
theorem d_X12_fewest_43 : decode prog_14_method_138_code 43 = .ok (.invokestatic 640, 3) := by decide +kernel
theorem d_X12_fewest_46 : decode prog_14_method_138_code 46 = .ok (.if_icmp .ge 17, 3) := by decide +kernel
theorem d_X12_fewest_49 : decode prog_14_method_138_code 49 = .ok (.aload_n 0, 1) := by decide +kernel
theorem d_X12_fewest_50 : decode prog_14_method_138_code 50 = .ok (.iload 4, 2) := by decide +kernel
theorem d_X12_fewest_52 : decode prog_14_method_138_code 52 = .ok (.invokevirtual 634, 3) := by decide +kernel
theorem d_X12_fewest_55 : decode prog_14_method_138_code 55 = .ok (.ifCond .eq 8, 3) := by decide +kernel
theorem d_X12_fewest_58 : decode prog_14_method_138_code 58 = .ok (.iload 4, 2) := by decide +kernel
theorem d_X12_fewest_60 : decode prog_14_method_138_code 60 = .ok (.istore_n 2, 1) := by decide +kernel
theorem d_X12_fewest_61 : decode prog_14_method_138_code 61 = .ok (.iconst 1, 1) := by decide +kernel
theorem d_X12_fewest_62 : decode prog_14_method_138_code 62 = .ok (.istore_n 3, 1) := by decide +kernel
theorem d_X12_fewest_63 : decode prog_14_method_138_code 63 = .ok (.iinc 4 1, 3) := by decide +kernel
theorem d_X12_fewest_66 : decode prog_14_method_138_code 66 = .ok (.goto (-44), 3) := by decide +kernel
theorem d_X12_fewest_69 : decode prog_14_method_138_code 69 = .ok (.iload_n 3, 1) := by decide +kernel
theorem d_X12_fewest_70 : decode prog_14_method_138_code 70 = .ok (.ifCond .eq 11, 3) := by decide +kernel
theorem d_X12_fewest_73 : decode prog_14_method_138_code 73 = .ok (.aload_n 0, 1) := by decide +kernel
theorem d_X12_fewest_74 : decode prog_14_method_138_code 74 = .ok (.iload_n 2, 1) := by decide +kernel
theorem d_X12_fewest_75 : decode prog_14_method_138_code 75 = .ok (.invokevirtual 637, 3) := by decide +kernel
theorem d_X12_fewest_78 : decode prog_14_method_138_code 78 = .ok (.goto 4, 3) := by decide +kernel
theorem d_X12_fewest_81 : decode prog_14_method_138_code 81 = .ok (.iconst 0, 1) := by decide +kernel
theorem d_X12_fewest_82 : decode prog_14_method_138_code 82 = .ok (.ireturn, 1) := by decide +kernel
theorem v_X12_fewest_0 {E : EE} {d : Nat} {Q : Option AV → AH → Prop} {x0 : Nat} {x1 : Int32} {G : AH} (h0 : 0 < d) (h : isO E G x0 12 ∧ (wpI E (d - 1) M_X12_isProblem [vr x0, vi x1] G (fun r1 G2 => (¬ r1 = 0 → isO E G2 x0 12 ∧ (wpV E (d - 1) M_X12_findMasks [vr x0, vi x1] G2 (fun G3 => wp E d M_X12_fewest 22 [some (vr x0), some (vi x1), some (vi 0), some (vi 0), some (vi 0)] [] G3 Q))) ∧ (r1 = 0 → Q (some (vi (-1))) G2)))) : wp E d M_X12_fewest 0 [some (vr x0), some (vi x1), none, none, none] [] G Q := by
  refine wp_aload_n (pc := 0) d_X12_fewest_0 rfl ?_
  refine wp_iload_n (pc := 1) d_X12_fewest_1 rfl ?_
  obtain ⟨ho5, h⟩ := h
  refine wp_invV (pc := 2) (N := M_X12_isProblem) (As := [vi _]) (rest := []) (r := (cn_12, ct_12, 95)) d_X12_fewest_2 ml_X12_453 mk_X12_isProblem mv_X12_isProblem h0 ho5 rfl rfl (Nat.le_of_ble_eq_true rfl) ?_
  refine wpM.mono h (fun rr G2 hr => ?_)
  obtain ⟨r1, rfl, h⟩ := hr
  show wp E d M_X12_fewest 5 [some (vr _), some (vi _), none, none, none] [vi _] G2 Q
  refine wp_if_ne (pc := 5) (tgt := 10) d_X12_fewest_5 (by decide) (fun hc => ?_) (fun hc => ?_)
  · have h := h.1 hc
    refine wp_aload_n (pc := 10) d_X12_fewest_10 rfl ?_
    refine wp_iload_n (pc := 11) d_X12_fewest_11 rfl ?_
    obtain ⟨ho4, h⟩ := h
    refine wp_invV (pc := 12) (N := M_X12_findMasks) (As := [vi _]) (rest := []) (r := (cn_12, ct_12, 95)) d_X12_fewest_12 ml_X12_631 mk_X12_findMasks mv_X12_findMasks h0 ho4 rfl rfl (Nat.le_of_ble_eq_true rfl) ?_
    refine wpM.mono h (fun rr G3 hr => ?_)
    obtain ⟨rfl, h⟩ := hr
    show wp E d M_X12_fewest 15 [some (vr _), some (vi _), none, none, none] [] G3 Q
    refine wp_iconst (pc := 15) (v := 0) d_X12_fewest_15 rfl ?_
    refine wp_istore_n (pc := 16) (lv' := [some (vr _), some (vi _), some (vi _), none, none]) d_X12_fewest_16 (by decide) rfl ?_
    refine wp_iconst (pc := 17) (v := 0) d_X12_fewest_17 rfl ?_
    refine wp_istore_n (pc := 18) (lv' := [some (vr _), some (vi _), some (vi _), some (vi _), none]) d_X12_fewest_18 (by decide) rfl ?_
    refine wp_iconst (pc := 19) (v := 0) d_X12_fewest_19 rfl ?_
    refine wp_istore (pc := 20) (lv' := [some (vr _), some (vi _), some (vi _), some (vi _), some (vi _)]) d_X12_fewest_20 (by decide) rfl ?_
    refine wp_sub ?_ h
    exact ⟨rfl, ⟨rfl, ⟨rfl, ⟨rfl, ⟨rfl, trivial⟩⟩⟩⟩⟩
  · have h := h.2 hc
    refine wp_iconst (pc := 8) (v := (-1)) d_X12_fewest_8 rfl ?_
    exact wp_iret (pc := 9) d_X12_fewest_9 rfl h
theorem v_X12_fewest_22 {E : EE} {d : Nat} {Q : Option AV → AH → Prop} {x0 : Nat} {x1 : Int32} {x2 : Int32} {x3 : Int32} {x4 : Int32} {G : AH} (h0 : 0 < d) (h : isO E G x0 12 ∧ (((1 <<< ((gI G x0 73) &&& 31)) ≤ x4 → (x3 = 0 → Q (some (vi 0)) G) ∧ (¬ (x3 = 0) → wpI E (d - 1) M_X12_numberOf [vr x0, vi x2] G (fun r2 G3 => Q (some (vi r2)) G3))) ∧ (¬ ((1 <<< ((gI G x0 73) &&& 31)) ≤ x4) → (x3 = 0 → wp E d M_X12_fewest 49 [some (vr x0), some (vi x1), some (vi x2), some (vi x3), some (vi x4)] [] G Q) ∧ (¬ (x3 = 0) → wpI E (d - 1) M_X12_bits [vi x4] G (fun r4 G5 => wpI E (d - 1) M_X12_bits [vi x2] G5 (fun r6 G7 => (r6 ≤ r4 → wp E d M_X12_fewest 63 [some (vr x0), some (vi x1), some (vi x2), some (vi x3), some (vi x4)] [] G7 Q) ∧ (¬ (r6 ≤ r4) → wp E d M_X12_fewest 49 [some (vr x0), some (vi x1), some (vi x2), some (vi x3), some (vi x4)] [] G7 Q))))))) : wp E d M_X12_fewest 22 [some (vr x0), some (vi x1), some (vi x2), some (vi x3), some (vi x4)] [] G Q := by
  refine wp_iload (pc := 22) d_X12_fewest_22 rfl ?_
  refine wp_iconst (pc := 24) (v := 1) d_X12_fewest_24 rfl ?_
  refine wp_aload_n (pc := 25) d_X12_fewest_25 rfl ?_
  obtain ⟨ho1, h⟩ := h
  refine wp_getI (pc := 26) d_X12_fewest_26 fl_X12_628 (fun _ _ _ => rfl) ho1 ?_
  refine wp_ishl (pc := 29) d_X12_fewest_29 ?_
  refine wp_icmp_ge (pc := 30) (tgt := 69) d_X12_fewest_30 (by decide) (fun hc => ?_) (fun hc => ?_)
  · have h := h.1 hc
    refine wp_iload_n (pc := 69) d_X12_fewest_69 rfl ?_
    refine wp_if_eq (pc := 70) (tgt := 81) d_X12_fewest_70 (by decide) (fun hc => ?_) (fun hc => ?_)
    · have h := h.1 hc
      refine wp_iconst (pc := 81) (v := 0) d_X12_fewest_81 rfl ?_
      exact wp_iret (pc := 82) d_X12_fewest_82 rfl h
    · have h := h.2 hc
      refine wp_aload_n (pc := 73) d_X12_fewest_73 rfl ?_
      refine wp_iload_n (pc := 74) d_X12_fewest_74 rfl ?_
      refine wp_invV (pc := 75) (N := M_X12_numberOf) (As := [vi _]) (rest := []) (r := (cn_12, ct_12, 95)) d_X12_fewest_75 ml_X12_637 mk_X12_numberOf mv_X12_numberOf h0 ho1 rfl rfl (Nat.le_of_ble_eq_true rfl) ?_
      refine wpM.mono h (fun rr G3 hr => ?_)
      obtain ⟨r2, rfl, h⟩ := hr
      show wp E d M_X12_fewest 78 [some (vr _), some (vi _), some (vi _), some (vi _), some (vi _)] [vi _] G3 Q
      refine wp_goto (pc := 78) (tgt := 82) d_X12_fewest_78 (by decide) ?_
      exact wp_iret (pc := 82) d_X12_fewest_82 rfl h
  · have h := h.2 hc
    refine wp_iload_n (pc := 33) d_X12_fewest_33 rfl ?_
    refine wp_if_eq (pc := 34) (tgt := 49) d_X12_fewest_34 (by decide) (fun hc => ?_) (fun hc => ?_)
    · have h := h.1 hc
      refine wp_sub ?_ h
      exact ⟨rfl, ⟨rfl, ⟨rfl, ⟨rfl, ⟨rfl, trivial⟩⟩⟩⟩⟩
    · have h := h.2 hc
      refine wp_iload (pc := 37) d_X12_fewest_37 rfl ?_
      refine wp_invS (pc := 39) (N := M_X12_bits) (As := [vi _]) (rest := []) d_X12_fewest_39 ml_X12_640 mk_X12_bits ms_X12_bits h0 (Nat.le_of_ble_eq_true rfl) ?_
      refine wpM.mono h (fun rr G5 hr => ?_)
      obtain ⟨r4, rfl, h⟩ := hr
      show wp E d M_X12_fewest 42 [some (vr _), some (vi _), some (vi _), some (vi _), some (vi _)] [vi _] G5 Q
      refine wp_iload_n (pc := 42) d_X12_fewest_42 rfl ?_
      refine wp_invS (pc := 43) (N := M_X12_bits) (As := [vi _]) (rest := [vi _]) d_X12_fewest_43 ml_X12_640 mk_X12_bits ms_X12_bits h0 (Nat.le_of_ble_eq_true rfl) ?_
      refine wpM.mono h (fun rr G7 hr => ?_)
      obtain ⟨r6, rfl, h⟩ := hr
      show wp E d M_X12_fewest 46 [some (vr _), some (vi _), some (vi _), some (vi _), some (vi _)] [vi _, vi _] G7 Q
      refine wp_icmp_ge (pc := 46) (tgt := 63) d_X12_fewest_46 (by decide) (fun hc => ?_) (fun hc => ?_)
      · have h := h.1 hc
        refine wp_sub ?_ h
        exact ⟨rfl, ⟨rfl, ⟨rfl, ⟨rfl, ⟨rfl, trivial⟩⟩⟩⟩⟩
      · have h := h.2 hc
        refine wp_sub ?_ h
        exact ⟨rfl, ⟨rfl, ⟨rfl, ⟨rfl, ⟨rfl, trivial⟩⟩⟩⟩⟩
theorem v_X12_fewest_49 {E : EE} {d : Nat} {Q : Option AV → AH → Prop} {x0 : Nat} {x1 : Int32} {x2 : Int32} {x3 : Int32} {x4 : Int32} {G : AH} (h0 : 0 < d) (h : isO E G x0 12 ∧ (wpI E (d - 1) M_X12_clashes [vr x0, vi x4] G (fun r1 G2 => (r1 = 0 → wp E d M_X12_fewest 63 [some (vr x0), some (vi x1), some (vi x2), some (vi x3), some (vi x4)] [] G2 Q) ∧ (¬ (r1 = 0) → wp E d M_X12_fewest 63 [some (vr x0), some (vi x1), some (vi x4), some (vi 1), some (vi x4)] [] G2 Q)))) : wp E d M_X12_fewest 49 [some (vr x0), some (vi x1), some (vi x2), some (vi x3), some (vi x4)] [] G Q := by
  refine wp_aload_n (pc := 49) d_X12_fewest_49 rfl ?_
  refine wp_iload (pc := 50) d_X12_fewest_50 rfl ?_
  obtain ⟨ho3, h⟩ := h
  refine wp_invV (pc := 52) (N := M_X12_clashes) (As := [vi _]) (rest := []) (r := (cn_12, ct_12, 95)) d_X12_fewest_52 ml_X12_634 mk_X12_clashes mv_X12_clashes h0 ho3 rfl rfl (Nat.le_of_ble_eq_true rfl) ?_
  refine wpM.mono h (fun rr G2 hr => ?_)
  obtain ⟨r1, rfl, h⟩ := hr
  show wp E d M_X12_fewest 55 [some (vr _), some (vi _), some (vi _), some (vi _), some (vi _)] [vi _] G2 Q
  refine wp_if_eq (pc := 55) (tgt := 63) d_X12_fewest_55 (by decide) (fun hc => ?_) (fun hc => ?_)
  · have h := h.1 hc
    refine wp_sub ?_ h
    exact ⟨rfl, ⟨rfl, ⟨rfl, ⟨rfl, ⟨rfl, trivial⟩⟩⟩⟩⟩
  · have h := h.2 hc
    refine wp_iload (pc := 58) d_X12_fewest_58 rfl ?_
    refine wp_istore_n (pc := 60) (lv' := [some (vr _), some (vi _), some (vi _), some (vi _), some (vi _)]) d_X12_fewest_60 (by decide) rfl ?_
    refine wp_iconst (pc := 61) (v := 1) d_X12_fewest_61 rfl ?_
    refine wp_istore_n (pc := 62) (lv' := [some (vr _), some (vi _), some (vi _), some (vi _), some (vi _)]) d_X12_fewest_62 (by decide) rfl ?_
    refine wp_sub ?_ h
    exact ⟨rfl, ⟨rfl, ⟨rfl, ⟨rfl, ⟨rfl, trivial⟩⟩⟩⟩⟩
theorem v_X12_fewest_63 {E : EE} {d : Nat} {Q : Option AV → AH → Prop} {x0 : Nat} {x1 : Int32} {x2 : Int32} {x3 : Int32} {x4 : Int32} {G : AH} (h : wp E d M_X12_fewest 22 [some (vr x0), some (vi x1), some (vi x2), some (vi x3), some (vi (x4 + 1))] [] G Q) : wp E d M_X12_fewest 63 [some (vr x0), some (vi x1), some (vi x2), some (vi x3), some (vi x4)] [] G Q := by
  refine wp_iinc (pc := 63) (v := 1) (lv' := [some (vr _), some (vi _), some (vi _), some (vi _), some (vi _)]) d_X12_fewest_63 (by decide) rfl rfl rfl ?_
  refine wp_goto (pc := 66) (tgt := 22) d_X12_fewest_66 (by decide) ?_
  refine wp_sub ?_ h
  exact ⟨rfl, ⟨rfl, ⟨rfl, ⟨rfl, ⟨rfl, trivial⟩⟩⟩⟩⟩
theorem d_X12_bits_0 : decode prog_14_method_137_code 0 = .ok (.iconst 0, 1) := by decide +kernel
theorem d_X12_bits_1 : decode prog_14_method_137_code 1 = .ok (.istore_n 1, 1) := by decide +kernel
theorem d_X12_bits_2 : decode prog_14_method_137_code 2 = .ok (.iload_n 0, 1) := by decide +kernel
theorem d_X12_bits_3 : decode prog_14_method_137_code 3 = .ok (.istore_n 2, 1) := by decide +kernel
theorem d_X12_bits_4 : decode prog_14_method_137_code 4 = .ok (.iload_n 2, 1) := by decide +kernel
theorem d_X12_bits_5 : decode prog_14_method_137_code 5 = .ok (.ifCond .eq 15, 3) := by decide +kernel
theorem d_X12_bits_8 : decode prog_14_method_137_code 8 = .ok (.iinc 1 1, 3) := by decide +kernel
theorem d_X12_bits_11 : decode prog_14_method_137_code 11 = .ok (.iload_n 2, 1) := by decide +kernel
theorem d_X12_bits_12 : decode prog_14_method_137_code 12 = .ok (.iload_n 2, 1) := by decide +kernel
theorem d_X12_bits_13 : decode prog_14_method_137_code 13 = .ok (.iconst 1, 1) := by decide +kernel
theorem d_X12_bits_14 : decode prog_14_method_137_code 14 = .ok (.isub, 1) := by decide +kernel
theorem d_X12_bits_15 : decode prog_14_method_137_code 15 = .ok (.iand, 1) := by decide +kernel
theorem d_X12_bits_16 : decode prog_14_method_137_code 16 = .ok (.istore_n 2, 1) := by decide +kernel
theorem d_X12_bits_17 : decode prog_14_method_137_code 17 = .ok (.goto (-13), 3) := by decide +kernel
theorem d_X12_bits_20 : decode prog_14_method_137_code 20 = .ok (.iload_n 1, 1) := by decide +kernel
theorem d_X12_bits_21 : decode prog_14_method_137_code 21 = .ok (.ireturn, 1) := by decide +kernel
theorem v_X12_bits_0 {E : EE} {d : Nat} {Q : Option AV → AH → Prop} {x0 : Int32} {G : AH} (h : wp E d M_X12_bits 4 [some (vi x0), some (vi 0), some (vi x0)] [] G Q) : wp E d M_X12_bits 0 [some (vi x0), none, none] [] G Q := by
  refine wp_iconst (pc := 0) (v := 0) d_X12_bits_0 rfl ?_
  refine wp_istore_n (pc := 1) (lv' := [some (vi _), some (vi _), none]) d_X12_bits_1 (by decide) rfl ?_
  refine wp_iload_n (pc := 2) d_X12_bits_2 rfl ?_
  refine wp_istore_n (pc := 3) (lv' := [some (vi _), some (vi _), some (vi _)]) d_X12_bits_3 (by decide) rfl ?_
  refine wp_sub ?_ h
  exact ⟨rfl, ⟨rfl, ⟨rfl, trivial⟩⟩⟩
theorem v_X12_bits_4 {E : EE} {d : Nat} {Q : Option AV → AH → Prop} {x0 : Int32} {x1 : Int32} {x2 : Int32} {G : AH} (h : (x2 = 0 → Q (some (vi x1)) G) ∧ (¬ (x2 = 0) → wp E d M_X12_bits 4 [some (vi x0), some (vi (x1 + 1)), some (vi (x2 &&& (x2 - 1)))] [] G Q)) : wp E d M_X12_bits 4 [some (vi x0), some (vi x1), some (vi x2)] [] G Q := by
  refine wp_iload_n (pc := 4) d_X12_bits_4 rfl ?_
  refine wp_if_eq (pc := 5) (tgt := 20) d_X12_bits_5 (by decide) (fun hc => ?_) (fun hc => ?_)
  · have h := h.1 hc
    refine wp_iload_n (pc := 20) d_X12_bits_20 rfl ?_
    exact wp_iret (pc := 21) d_X12_bits_21 rfl h
  · have h := h.2 hc
    refine wp_iinc (pc := 8) (v := 1) (lv' := [some (vi _), some (vi _), some (vi _)]) d_X12_bits_8 (by decide) rfl rfl rfl ?_
    refine wp_iload_n (pc := 11) d_X12_bits_11 rfl ?_
    refine wp_iload_n (pc := 12) d_X12_bits_12 rfl ?_
    refine wp_iconst (pc := 13) (v := 1) d_X12_bits_13 rfl ?_
    refine wp_isub (pc := 14) d_X12_bits_14 ?_
    refine wp_iand (pc := 15) d_X12_bits_15 ?_
    refine wp_istore_n (pc := 16) (lv' := [some (vi _), some (vi _), some (vi _)]) d_X12_bits_16 (by decide) rfl ?_
    refine wp_goto (pc := 17) (tgt := 4) d_X12_bits_17 (by decide) ?_
    refine wp_sub ?_ h
    exact ⟨rfl, ⟨rfl, ⟨rfl, trivial⟩⟩⟩
theorem d_X12_clashes_0 : decode prog_14_method_134_code 0 = .ok (.iconst 1, 1) := by decide +kernel
theorem d_X12_clashes_1 : decode prog_14_method_134_code 1 = .ok (.istore_n 2, 1) := by decide +kernel
theorem d_X12_clashes_2 : decode prog_14_method_134_code 2 = .ok (.iconst 0, 1) := by decide +kernel
theorem d_X12_clashes_3 : decode prog_14_method_134_code 3 = .ok (.istore_n 3, 1) := by decide +kernel
theorem d_X12_clashes_4 : decode prog_14_method_134_code 4 = .ok (.iload_n 2, 1) := by decide +kernel
theorem d_X12_clashes_5 : decode prog_14_method_134_code 5 = .ok (.ifCond .eq 40, 3) := by decide +kernel
theorem d_X12_clashes_8 : decode prog_14_method_134_code 8 = .ok (.iload_n 3, 1) := by decide +kernel
theorem d_X12_clashes_9 : decode prog_14_method_134_code 9 = .ok (.iconst 1, 1) := by decide +kernel
theorem d_X12_clashes_10 : decode prog_14_method_134_code 10 = .ok (.aload_n 0, 1) := by decide +kernel
theorem d_X12_clashes_11 : decode prog_14_method_134_code 11 = .ok (.getfield 628, 3) := by decide +kernel
theorem d_X12_clashes_14 : decode prog_14_method_134_code 14 = .ok (.ishl, 1) := by decide +kernel
theorem d_X12_clashes_15 : decode prog_14_method_134_code 15 = .ok (.if_icmp .ge 30, 3) := by decide +kernel
theorem d_X12_clashes_18 : decode prog_14_method_134_code 18 = .ok (.aload_n 0, 1) := by decide +kernel
theorem d_X12_clashes_19 : decode prog_14_method_134_code 19 = .ok (.getfield 168, 3) := by decide +kernel
theorem d_X12_clashes_22 : decode prog_14_method_134_code 22 = .ok (.iload_n 3, 1) := by decide +kernel
theorem d_X12_clashes_23 : decode prog_14_method_134_code 23 = .ok (.baload, 1) := by decide +kernel
theorem d_X12_clashes_24 : decode prog_14_method_134_code 24 = .ok (.ifCond .eq 9, 3) := by decide +kernel
theorem d_X12_clashes_27 : decode prog_14_method_134_code 27 = .ok (.iload_n 3, 1) := by decide +kernel
theorem d_X12_clashes_28 : decode prog_14_method_134_code 28 = .ok (.iload_n 1, 1) := by decide +kernel
theorem d_X12_clashes_29 : decode prog_14_method_134_code 29 = .ok (.iand, 1) := by decide +kernel
theorem d_X12_clashes_30 : decode prog_14_method_134_code 30 = .ok (.ifCond .eq 7, 3) := by decide +kernel
theorem d_X12_clashes_33 : decode prog_14_method_134_code 33 = .ok (.iconst 1, 1) := by decide +kernel
theorem d_X12_clashes_34 : decode prog_14_method_134_code 34 = .ok (.goto 4, 3) := by decide +kernel
theorem d_X12_clashes_37 : decode prog_14_method_134_code 37 = .ok (.iconst 0, 1) := by decide +kernel
theorem d_X12_clashes_38 : decode prog_14_method_134_code 38 = .ok (.istore_n 2, 1) := by decide +kernel
theorem d_X12_clashes_39 : decode prog_14_method_134_code 39 = .ok (.iinc 3 1, 3) := by decide +kernel
theorem d_X12_clashes_42 : decode prog_14_method_134_code 42 = .ok (.goto (-38), 3) := by decide +kernel
theorem d_X12_clashes_45 : decode prog_14_method_134_code 45 = .ok (.iload_n 2, 1) := by decide +kernel
theorem d_X12_clashes_46 : decode prog_14_method_134_code 46 = .ok (.ireturn, 1) := by decide +kernel
theorem v_X12_clashes_0 {E : EE} {d : Nat} {Q : Option AV → AH → Prop} {x0 : Nat} {x1 : Int32} {G : AH} (h : wp E d M_X12_clashes 4 [some (vr x0), some (vi x1), some (vi 1), some (vi 0)] [] G Q) : wp E d M_X12_clashes 0 [some (vr x0), some (vi x1), none, none] [] G Q := by
  refine wp_iconst (pc := 0) (v := 1) d_X12_clashes_0 rfl ?_
  refine wp_istore_n (pc := 1) (lv' := [some (vr _), some (vi _), some (vi _), none]) d_X12_clashes_1 (by decide) rfl ?_
  refine wp_iconst (pc := 2) (v := 0) d_X12_clashes_2 rfl ?_
  refine wp_istore_n (pc := 3) (lv' := [some (vr _), some (vi _), some (vi _), some (vi _)]) d_X12_clashes_3 (by decide) rfl ?_
  refine wp_sub ?_ h
  exact ⟨rfl, ⟨rfl, ⟨rfl, ⟨rfl, trivial⟩⟩⟩⟩
theorem v_X12_clashes_4 {E : EE} {d : Nat} {Q : Option AV → AH → Prop} {x0 : Nat} {x1 : Int32} {x2 : Int32} {x3 : Int32} {G : AH} (h : (x2 = 0 → okI .boolean x2 ∧ Q (some (vi x2)) G) ∧ (¬ (x2 = 0) → isO E G x0 12 ∧ (((1 <<< ((gI G x0 73) &&& 31)) ≤ x3 → okI .boolean x2 ∧ Q (some (vi x2)) G) ∧ (¬ ((1 <<< ((gI G x0 73) &&& 31)) ≤ x3) → isO E G (gR G x0 71) 16 ∧ (vp_in x3 (gN G (gR G x0 71)) ∧ (((gI G (gR G x0 71) (Int32.toNatClampNeg x3)) = 0 → wp E d M_X12_clashes 33 [some (vr x0), some (vi x1), some (vi x2), some (vi x3)] [] G Q) ∧ (¬ ((gI G (gR G x0 71) (Int32.toNatClampNeg x3)) = 0) → ((x3 &&& x1) = 0 → wp E d M_X12_clashes 38 [some (vr x0), some (vi x1), some (vi x2), some (vi x3)] [vi 0] G Q) ∧ (¬ ((x3 &&& x1) = 0) → wp E d M_X12_clashes 33 [some (vr x0), some (vi x1), some (vi x2), some (vi x3)] [] G Q)))))))) : wp E d M_X12_clashes 4 [some (vr x0), some (vi x1), some (vi x2), some (vi x3)] [] G Q := by
  refine wp_iload_n (pc := 4) d_X12_clashes_4 rfl ?_
  refine wp_if_eq (pc := 5) (tgt := 45) d_X12_clashes_5 (by decide) (fun hc => ?_) (fun hc => ?_)
  · have h := h.1 hc
    refine wp_iload_n (pc := 45) d_X12_clashes_45 rfl ?_
    exact wp_zret (pc := 46) d_X12_clashes_46 rfl h.1.1 h.2
  · have h := h.2 hc
    refine wp_iload_n (pc := 8) d_X12_clashes_8 rfl ?_
    refine wp_iconst (pc := 9) (v := 1) d_X12_clashes_9 rfl ?_
    refine wp_aload_n (pc := 10) d_X12_clashes_10 rfl ?_
    obtain ⟨ho1, h⟩ := h
    refine wp_getI (pc := 11) d_X12_clashes_11 fl_X12_628 (fun _ _ _ => rfl) ho1 ?_
    refine wp_ishl (pc := 14) d_X12_clashes_14 ?_
    refine wp_icmp_ge (pc := 15) (tgt := 45) d_X12_clashes_15 (by decide) (fun hc => ?_) (fun hc => ?_)
    · have h := h.1 hc
      refine wp_iload_n (pc := 45) d_X12_clashes_45 rfl ?_
      exact wp_zret (pc := 46) d_X12_clashes_46 rfl h.1.1 h.2
    · have h := h.2 hc
      refine wp_aload_n (pc := 18) d_X12_clashes_18 rfl ?_
      refine wp_getR (pc := 19) d_X12_clashes_19 fl_X12_168 (fun _ _ _ => rfl) ho1 ?_
      refine wp_iload_n (pc := 22) d_X12_clashes_22 rfl ?_
      obtain ⟨ho2, h⟩ := h
      obtain ⟨hi3, h⟩ := h
      refine wp_zald (pc := 23) d_X12_clashes_23 ho2 hi3 ?_
      refine wp_if_eq (pc := 24) (tgt := 33) d_X12_clashes_24 (by decide) (fun hc => ?_) (fun hc => ?_)
      · have h := h.1 hc
        refine wp_sub ?_ h
        exact ⟨rfl, ⟨rfl, ⟨rfl, ⟨rfl, trivial⟩⟩⟩⟩
      · have h := h.2 hc
        refine wp_iload_n (pc := 27) d_X12_clashes_27 rfl ?_
        refine wp_iload_n (pc := 28) d_X12_clashes_28 rfl ?_
        refine wp_iand (pc := 29) d_X12_clashes_29 ?_
        refine wp_if_eq (pc := 30) (tgt := 37) d_X12_clashes_30 (by decide) (fun hc => ?_) (fun hc => ?_)
        · have h := h.1 hc
          refine wp_iconst (pc := 37) (v := 0) d_X12_clashes_37 rfl ?_
          refine wp_sub ?_ h
          exact ⟨rfl, ⟨rfl, ⟨rfl, ⟨rfl, trivial⟩⟩⟩⟩
        · have h := h.2 hc
          refine wp_sub ?_ h
          exact ⟨rfl, ⟨rfl, ⟨rfl, ⟨rfl, trivial⟩⟩⟩⟩
theorem v_X12_clashes_33 {E : EE} {d : Nat} {Q : Option AV → AH → Prop} {x0 : Nat} {x1 : Int32} {x2 : Int32} {x3 : Int32} {G : AH} (h : wp E d M_X12_clashes 38 [some (vr x0), some (vi x1), some (vi x2), some (vi x3)] [vi 1] G Q) : wp E d M_X12_clashes 33 [some (vr x0), some (vi x1), some (vi x2), some (vi x3)] [] G Q := by
  refine wp_iconst (pc := 33) (v := 1) d_X12_clashes_33 rfl ?_
  refine wp_goto (pc := 34) (tgt := 38) d_X12_clashes_34 (by decide) ?_
  refine wp_sub ?_ h
  exact ⟨rfl, ⟨rfl, ⟨rfl, ⟨rfl, trivial⟩⟩⟩⟩
theorem v_X12_clashes_38 {E : EE} {d : Nat} {Q : Option AV → AH → Prop} {x0 : Nat} {x1 : Int32} {x2 : Int32} {x3 : Int32} {t0 : Int32} {G : AH} (h : wp E d M_X12_clashes 4 [some (vr x0), some (vi x1), some (vi t0), some (vi (x3 + 1))] [] G Q) : wp E d M_X12_clashes 38 [some (vr x0), some (vi x1), some (vi x2), some (vi x3)] [vi t0] G Q := by
  refine wp_istore_n (pc := 38) (lv' := [some (vr _), some (vi _), some (vi _), some (vi _)]) d_X12_clashes_38 (by decide) rfl ?_
  refine wp_iinc (pc := 39) (v := 1) (lv' := [some (vr _), some (vi _), some (vi _), some (vi _)]) d_X12_clashes_39 (by decide) rfl rfl rfl ?_
  refine wp_goto (pc := 42) (tgt := 4) d_X12_clashes_42 (by decide) ?_
  refine wp_sub ?_ h
  exact ⟨rfl, ⟨rfl, ⟨rfl, ⟨rfl, trivial⟩⟩⟩⟩
theorem d_X12_clash_0 : decode prog_14_method_136_code 0 = .ok (.aload_n 0, 1) := by decide +kernel
theorem d_X12_clash_1 : decode prog_14_method_136_code 1 = .ok (.iload_n 1, 1) := by decide +kernel
theorem d_X12_clash_2 : decode prog_14_method_136_code 2 = .ok (.invokevirtual 453, 3) := by decide +kernel
theorem d_X12_clash_5 : decode prog_14_method_136_code 5 = .ok (.ifCond .ne 5, 3) := by decide +kernel
theorem d_X12_clash_8 : decode prog_14_method_136_code 8 = .ok (.iconst (-1), 1) := by decide +kernel
theorem d_X12_clash_9 : decode prog_14_method_136_code 9 = .ok (.ireturn, 1) := by decide +kernel
theorem d_X12_clash_10 : decode prog_14_method_136_code 10 = .ok (.aload_n 0, 1) := by decide +kernel
theorem d_X12_clash_11 : decode prog_14_method_136_code 11 = .ok (.iload_n 1, 1) := by decide +kernel
theorem d_X12_clash_12 : decode prog_14_method_136_code 12 = .ok (.invokevirtual 631, 3) := by decide +kernel
theorem d_X12_clash_15 : decode prog_14_method_136_code 15 = .ok (.iconst 1, 1) := by decide +kernel
theorem d_X12_clash_16 : decode prog_14_method_136_code 16 = .ok (.aload_n 0, 1) := by decide +kernel
theorem d_X12_clash_17 : decode prog_14_method_136_code 17 = .ok (.getfield 628, 3) := by decide +kernel
theorem d_X12_clash_20 : decode prog_14_method_136_code 20 = .ok (.ishl, 1) := by decide +kernel
theorem d_X12_clash_21 : decode prog_14_method_136_code 21 = .ok (.iconst 1, 1) := by decide +kernel
theorem d_X12_clash_22 : decode prog_14_method_136_code 22 = .ok (.isub, 1) := by decide +kernel
theorem d_X12_clash_23 : decode prog_14_method_136_code 23 = .ok (.istore_n 2, 1) := by decide +kernel
theorem d_X12_clash_24 : decode prog_14_method_136_code 24 = .ok (.aload_n 0, 1) := by decide +kernel
theorem d_X12_clash_25 : decode prog_14_method_136_code 25 = .ok (.iload_n 2, 1) := by decide +kernel
theorem d_X12_clash_26 : decode prog_14_method_136_code 26 = .ok (.invokevirtual 634, 3) := by decide +kernel
theorem d_X12_clash_29 : decode prog_14_method_136_code 29 = .ok (.ifCond .ne 5, 3) := by decide +kernel
theorem d_X12_clash_32 : decode prog_14_method_136_code 32 = .ok (.iconst 0, 1) := by decide +kernel
theorem d_X12_clash_33 : decode prog_14_method_136_code 33 = .ok (.ireturn, 1) := by decide +kernel
theorem d_X12_clash_34 : decode prog_14_method_136_code 34 = .ok (.iconst 0, 1) := by decide +kernel
theorem d_X12_clash_35 : decode prog_14_method_136_code 35 = .ok (.istore_n 3, 1) := by decide +kernel
theorem d_X12_clash_36 : decode prog_14_method_136_code 36 = .ok (.iload_n 3, 1) := by decide +kernel
theorem d_X12_clash_37 : decode prog_14_method_136_code 37 = .ok (.aload_n 0, 1) := by decide +kernel
theorem d_X12_clash_38 : decode prog_14_method_136_code 38 = .ok (.getfield 628, 3) := by decide +kernel
theorem d_X12_clash_41 : decode prog_14_method_136_code 41 = .ok (.if_icmp .ge 34, 3) := by decide +kernel
theorem d_X12_clash_44 : decode prog_14_method_136_code 44 = .ok (.iload_n 2, 1) := by decide +kernel
theorem d_X12_clash_45 : decode prog_14_method_136_code 45 = .ok (.iconst 1, 1) := by decide +kernel
theorem d_X12_clash_46 : decode prog_14_method_136_code 46 = .ok (.iload_n 3, 1) := by decide +kernel
theorem d_X12_clash_47 : decode prog_14_method_136_code 47 = .ok (.ishl, 1) := by decide +kernel
theorem d_X12_clash_48 : decode prog_14_method_136_code 48 = .ok (.iconst (-1), 1) := by decide +kernel
theorem d_X12_clash_49 : decode prog_14_method_136_code 49 = .ok (.ixor, 1) := by decide +kernel
theorem d_X12_clash_50 : decode prog_14_method_136_code 50 = .ok (.iand, 1) := by decide +kernel
theorem d_X12_clash_51 : decode prog_14_method_136_code 51 = .ok (.istore 4, 2) := by decide +kernel
theorem d_X12_clash_53 : decode prog_14_method_136_code 53 = .ok (.aload_n 0, 1) := by decide +kernel
theorem d_X12_clash_54 : decode prog_14_method_136_code 54 = .ok (.iload 4, 2) := by decide +kernel
theorem d_X12_clash_56 : decode prog_14_method_136_code 56 = .ok (.invokevirtual 634, 3) := by decide +kernel
theorem d_X12_clash_59 : decode prog_14_method_136_code 59 = .ok (.ifCond .eq 8, 3) := by decide +kernel
theorem d_X12_clash_62 : decode prog_14_method_136_code 62 = .ok (.iload 4, 2) := by decide +kernel
theorem d_X12_clash_64 : decode prog_14_method_136_code 64 = .ok (.goto 4, 3) := by decide +kernel
theorem d_X12_clash_67 : decode prog_14_method_136_code 67 = .ok (.iload_n 2, 1) := by decide +kernel
theorem d_X12_clash_68 : decode prog_14_method_136_code 68 = .ok (.istore_n 2, 1) := by decide +kernel
theorem d_X12_clash_69 : decode prog_14_method_136_code 69 = .ok (.iinc 3 1, 3) := by decide +kernel
theorem d_X12_clash_72 : decode prog_14_method_136_code 72 = .ok (.goto (-36), 3) := by decide +kernel
theorem d_X12_clash_75 : decode prog_14_method_136_code 75 = .ok (.aload_n 0, 1) := by decide +kernel
theorem d_X12_clash_76 : decode prog_14_method_136_code 76 = .ok (.iload_n 2, 1) := by decide +kernel
theorem d_X12_clash_77 : decode prog_14_method_136_code 77 = .ok (.invokevirtual 637, 3) := by decide +kernel
theorem d_X12_clash_80 : decode prog_14_method_136_code 80 = .ok (.ireturn, 1) := by decide +kernel
theorem v_X12_clash_0 {E : EE} {d : Nat} {Q : Option AV → AH → Prop} {x0 : Nat} {x1 : Int32} {G : AH} (h0 : 0 < d) (h : isO E G x0 12 ∧ (wpI E (d - 1) M_X12_isProblem [vr x0, vi x1] G (fun r1 G2 => (¬ r1 = 0 → isO E G2 x0 12 ∧ (wpV E (d - 1) M_X12_findMasks [vr x0, vi x1] G2 (fun G3 => isO E G3 x0 12 ∧ (wpI E (d - 1) M_X12_clashes [vr x0, vi ((1 <<< ((gI G3 x0 73) &&& 31)) - 1)] G3 (fun r5 G6 => (¬ r5 = 0 → wp E d M_X12_clash 36 [some (vr x0), some (vi x1), some (vi ((1 <<< ((gI G3 x0 73) &&& 31)) - 1)), some (vi 0), none] [] G6 Q) ∧ (r5 = 0 → Q (some (vi 0)) G6)))))) ∧ (r1 = 0 → Q (some (vi (-1))) G2)))) : wp E d M_X12_clash 0 [some (vr x0), some (vi x1), none, none, none] [] G Q := by
  refine wp_aload_n (pc := 0) d_X12_clash_0 rfl ?_
  refine wp_iload_n (pc := 1) d_X12_clash_1 rfl ?_
  obtain ⟨ho8, h⟩ := h
  refine wp_invV (pc := 2) (N := M_X12_isProblem) (As := [vi _]) (rest := []) (r := (cn_12, ct_12, 95)) d_X12_clash_2 ml_X12_453 mk_X12_isProblem mv_X12_isProblem h0 ho8 rfl rfl (Nat.le_of_ble_eq_true rfl) ?_
  refine wpM.mono h (fun rr G2 hr => ?_)
  obtain ⟨r1, rfl, h⟩ := hr
  show wp E d M_X12_clash 5 [some (vr _), some (vi _), none, none, none] [vi _] G2 Q
  refine wp_if_ne (pc := 5) (tgt := 10) d_X12_clash_5 (by decide) (fun hc => ?_) (fun hc => ?_)
  · have h := h.1 hc
    refine wp_aload_n (pc := 10) d_X12_clash_10 rfl ?_
    refine wp_iload_n (pc := 11) d_X12_clash_11 rfl ?_
    obtain ⟨ho7, h⟩ := h
    refine wp_invV (pc := 12) (N := M_X12_findMasks) (As := [vi _]) (rest := []) (r := (cn_12, ct_12, 95)) d_X12_clash_12 ml_X12_631 mk_X12_findMasks mv_X12_findMasks h0 ho7 rfl rfl (Nat.le_of_ble_eq_true rfl) ?_
    refine wpM.mono h (fun rr G3 hr => ?_)
    obtain ⟨rfl, h⟩ := hr
    show wp E d M_X12_clash 15 [some (vr _), some (vi _), none, none, none] [] G3 Q
    refine wp_iconst (pc := 15) (v := 1) d_X12_clash_15 rfl ?_
    refine wp_aload_n (pc := 16) d_X12_clash_16 rfl ?_
    obtain ⟨ho4, h⟩ := h
    refine wp_getI (pc := 17) d_X12_clash_17 fl_X12_628 (fun _ _ _ => rfl) ho4 ?_
    refine wp_ishl (pc := 20) d_X12_clash_20 ?_
    refine wp_iconst (pc := 21) (v := 1) d_X12_clash_21 rfl ?_
    refine wp_isub (pc := 22) d_X12_clash_22 ?_
    refine wp_istore_n (pc := 23) (lv' := [some (vr _), some (vi _), some (vi _), none, none]) d_X12_clash_23 (by decide) rfl ?_
    refine wp_aload_n (pc := 24) d_X12_clash_24 rfl ?_
    refine wp_iload_n (pc := 25) d_X12_clash_25 rfl ?_
    refine wp_invV (pc := 26) (N := M_X12_clashes) (As := [vi _]) (rest := []) (r := (cn_12, ct_12, 95)) d_X12_clash_26 ml_X12_634 mk_X12_clashes mv_X12_clashes h0 ho4 rfl rfl (Nat.le_of_ble_eq_true rfl) ?_
    refine wpM.mono h (fun rr G6 hr => ?_)
    obtain ⟨r5, rfl, h⟩ := hr
    show wp E d M_X12_clash 29 [some (vr _), some (vi _), some (vi _), none, none] [vi _] G6 Q
    refine wp_if_ne (pc := 29) (tgt := 34) d_X12_clash_29 (by decide) (fun hc => ?_) (fun hc => ?_)
    · have h := h.1 hc
      refine wp_iconst (pc := 34) (v := 0) d_X12_clash_34 rfl ?_
      refine wp_istore_n (pc := 35) (lv' := [some (vr _), some (vi _), some (vi _), some (vi _), none]) d_X12_clash_35 (by decide) rfl ?_
      refine wp_sub ?_ h
      exact ⟨rfl, ⟨rfl, ⟨rfl, ⟨rfl, trivial⟩⟩⟩⟩
    · have h := h.2 hc
      refine wp_iconst (pc := 32) (v := 0) d_X12_clash_32 rfl ?_
      exact wp_iret (pc := 33) d_X12_clash_33 rfl h
  · have h := h.2 hc
    refine wp_iconst (pc := 8) (v := (-1)) d_X12_clash_8 rfl ?_
    exact wp_iret (pc := 9) d_X12_clash_9 rfl h
theorem v_X12_clash_36 {E : EE} {d : Nat} {Q : Option AV → AH → Prop} {x0 : Nat} {x1 : Int32} {x2 : Int32} {x3 : Int32} {G : AH} (h0 : 0 < d) (h : isO E G x0 12 ∧ (((gI G x0 73) ≤ x3 → wpI E (d - 1) M_X12_numberOf [vr x0, vi x2] G (fun r2 G3 => Q (some (vi r2)) G3)) ∧ (¬ ((gI G x0 73) ≤ x3) → wpI E (d - 1) M_X12_clashes [vr x0, vi (x2 &&& ((1 <<< (x3 &&& 31)) ^^^ (-1)))] G (fun r4 G5 => (r4 = 0 → wp E d M_X12_clash 68 [some (vr x0), some (vi x1), some (vi x2), some (vi x3), some (vi (x2 &&& ((1 <<< (x3 &&& 31)) ^^^ (-1))))] [vi x2] G5 Q) ∧ (¬ (r4 = 0) → wp E d M_X12_clash 68 [some (vr x0), some (vi x1), some (vi x2), some (vi x3), some (vi (x2 &&& ((1 <<< (x3 &&& 31)) ^^^ (-1))))] [vi (x2 &&& ((1 <<< (x3 &&& 31)) ^^^ (-1)))] G5 Q))))) : wp E d M_X12_clash 36 [some (vr x0), some (vi x1), some (vi x2), some (vi x3), none] [] G Q := by
  refine wp_iload_n (pc := 36) d_X12_clash_36 rfl ?_
  refine wp_aload_n (pc := 37) d_X12_clash_37 rfl ?_
  obtain ⟨ho1, h⟩ := h
  refine wp_getI (pc := 38) d_X12_clash_38 fl_X12_628 (fun _ _ _ => rfl) ho1 ?_
  refine wp_icmp_ge (pc := 41) (tgt := 75) d_X12_clash_41 (by decide) (fun hc => ?_) (fun hc => ?_)
  · have h := h.1 hc
    refine wp_aload_n (pc := 75) d_X12_clash_75 rfl ?_
    refine wp_iload_n (pc := 76) d_X12_clash_76 rfl ?_
    refine wp_invV (pc := 77) (N := M_X12_numberOf) (As := [vi _]) (rest := []) (r := (cn_12, ct_12, 95)) d_X12_clash_77 ml_X12_637 mk_X12_numberOf mv_X12_numberOf h0 ho1 rfl rfl (Nat.le_of_ble_eq_true rfl) ?_
    refine wpM.mono h (fun rr G3 hr => ?_)
    obtain ⟨r2, rfl, h⟩ := hr
    show wp E d M_X12_clash 80 [some (vr _), some (vi _), some (vi _), some (vi _), none] [vi _] G3 Q
    exact wp_iret (pc := 80) d_X12_clash_80 rfl h
  · have h := h.2 hc
    refine wp_iload_n (pc := 44) d_X12_clash_44 rfl ?_
    refine wp_iconst (pc := 45) (v := 1) d_X12_clash_45 rfl ?_
    refine wp_iload_n (pc := 46) d_X12_clash_46 rfl ?_
    refine wp_ishl (pc := 47) d_X12_clash_47 ?_
    refine wp_iconst (pc := 48) (v := (-1)) d_X12_clash_48 rfl ?_
    refine wp_ixor (pc := 49) d_X12_clash_49 ?_
    refine wp_iand (pc := 50) d_X12_clash_50 ?_
    refine wp_istore (pc := 51) (lv' := [some (vr _), some (vi _), some (vi _), some (vi _), some (vi _)]) d_X12_clash_51 (by decide) rfl ?_
    refine wp_aload_n (pc := 53) d_X12_clash_53 rfl ?_
    refine wp_iload (pc := 54) d_X12_clash_54 rfl ?_
    refine wp_invV (pc := 56) (N := M_X12_clashes) (As := [vi _]) (rest := []) (r := (cn_12, ct_12, 95)) d_X12_clash_56 ml_X12_634 mk_X12_clashes mv_X12_clashes h0 ho1 rfl rfl (Nat.le_of_ble_eq_true rfl) ?_
    refine wpM.mono h (fun rr G5 hr => ?_)
    obtain ⟨r4, rfl, h⟩ := hr
    show wp E d M_X12_clash 59 [some (vr _), some (vi _), some (vi _), some (vi _), some (vi _)] [vi _] G5 Q
    refine wp_if_eq (pc := 59) (tgt := 67) d_X12_clash_59 (by decide) (fun hc => ?_) (fun hc => ?_)
    · have h := h.1 hc
      refine wp_iload_n (pc := 67) d_X12_clash_67 rfl ?_
      refine wp_sub ?_ h
      exact ⟨rfl, ⟨rfl, ⟨rfl, ⟨rfl, ⟨rfl, trivial⟩⟩⟩⟩⟩
    · have h := h.2 hc
      refine wp_iload (pc := 62) d_X12_clash_62 rfl ?_
      refine wp_goto (pc := 64) (tgt := 68) d_X12_clash_64 (by decide) ?_
      refine wp_sub ?_ h
      exact ⟨rfl, ⟨rfl, ⟨rfl, ⟨rfl, ⟨rfl, trivial⟩⟩⟩⟩⟩
theorem v_X12_clash_68 {E : EE} {d : Nat} {Q : Option AV → AH → Prop} {x0 : Nat} {x1 : Int32} {x2 : Int32} {x3 : Int32} {x4 : Int32} {t0 : Int32} {G : AH} (h : wp E d M_X12_clash 36 [some (vr x0), some (vi x1), some (vi t0), some (vi (x3 + 1)), none] [] G Q) : wp E d M_X12_clash 68 [some (vr x0), some (vi x1), some (vi x2), some (vi x3), some (vi x4)] [vi t0] G Q := by
  refine wp_istore_n (pc := 68) (lv' := [some (vr _), some (vi _), some (vi _), some (vi _), some (vi _)]) d_X12_clash_68 (by decide) rfl ?_
  refine wp_iinc (pc := 69) (v := 1) (lv' := [some (vr _), some (vi _), some (vi _), some (vi _), some (vi _)]) d_X12_clash_69 (by decide) rfl rfl rfl ?_
  refine wp_goto (pc := 72) (tgt := 36) d_X12_clash_72 (by decide) ?_
  refine wp_sub ?_ h
  exact ⟨rfl, ⟨rfl, ⟨rfl, ⟨rfl, trivial⟩⟩⟩⟩
theorem d_X12_near_0 : decode prog_14_method_132_code 0 = .ok (.aload_n 0, 1) := by decide +kernel
theorem d_X12_near_1 : decode prog_14_method_132_code 1 = .ok (.iload_n 1, 1) := by decide +kernel
theorem d_X12_near_2 : decode prog_14_method_132_code 2 = .ok (.invokevirtual 453, 3) := by decide +kernel
theorem d_X12_near_5 : decode prog_14_method_132_code 5 = .ok (.ifCond .ne 5, 3) := by decide +kernel
theorem d_X12_near_8 : decode prog_14_method_132_code 8 = .ok (.iconst (-1), 1) := by decide +kernel
theorem d_X12_near_9 : decode prog_14_method_132_code 9 = .ok (.ireturn, 1) := by decide +kernel
theorem d_X12_near_10 : decode prog_14_method_132_code 10 = .ok (.aload_n 0, 1) := by decide +kernel
theorem d_X12_near_11 : decode prog_14_method_132_code 11 = .ok (.iload_n 1, 1) := by decide +kernel
theorem d_X12_near_12 : decode prog_14_method_132_code 12 = .ok (.invokevirtual 571, 3) := by decide +kernel
theorem d_X12_near_15 : decode prog_14_method_132_code 15 = .ok (.aload_n 0, 1) := by decide +kernel
theorem d_X12_near_16 : decode prog_14_method_132_code 16 = .ok (.iload_n 1, 1) := by decide +kernel
theorem d_X12_near_17 : decode prog_14_method_132_code 17 = .ok (.iconst (-1), 1) := by decide +kernel
theorem d_X12_near_18 : decode prog_14_method_132_code 18 = .ok (.iconst 0, 1) := by decide +kernel
theorem d_X12_near_19 : decode prog_14_method_132_code 19 = .ok (.invokevirtual 592, 3) := by decide +kernel
theorem d_X12_near_22 : decode prog_14_method_132_code 22 = .ok (.istore_n 3, 1) := by decide +kernel
theorem d_X12_near_23 : decode prog_14_method_132_code 23 = .ok (.iconst (-1), 1) := by decide +kernel
theorem d_X12_near_24 : decode prog_14_method_132_code 24 = .ok (.istore 4, 2) := by decide +kernel
theorem d_X12_near_26 : decode prog_14_method_132_code 26 = .ok (.iconst 0, 1) := by decide +kernel
theorem d_X12_near_27 : decode prog_14_method_132_code 27 = .ok (.istore 5, 2) := by decide +kernel
theorem d_X12_near_29 : decode prog_14_method_132_code 29 = .ok (.iconst 0, 1) := by decide +kernel
theorem d_X12_near_30 : decode prog_14_method_132_code 30 = .ok (.istore 6, 2) := by decide +kernel
theorem d_X12_near_32 : decode prog_14_method_132_code 32 = .ok (.iload 6, 2) := by decide +kernel
theorem d_X12_near_34 : decode prog_14_method_132_code 34 = .ok (.aload_n 0, 1) := by decide +kernel
theorem d_X12_near_35 : decode prog_14_method_132_code 35 = .ok (.getfield 82, 3) := by decide +kernel
theorem d_X12_near_38 : decode prog_14_method_132_code 38 = .ok (.iload_n 1, 1) := by decide +kernel
theorem d_X12_near_39 : decode prog_14_method_132_code 39 = .ok (.iaload, 1) := by decide +kernel
theorem d_X12_near_40 : decode prog_14_method_132_code 40 = .ok (.if_icmp .ge 124, 3) := by decide +kernel
theorem d_X12_near_43 : decode prog_14_method_132_code 43 = .ok (.iload_n 2, 1) := by decide +kernel
theorem d_X12_near_44 : decode prog_14_method_132_code 44 = .ok (.ifCond .eq 17, 3) := by decide +kernel
theorem d_X12_near_47 : decode prog_14_method_132_code 47 = .ok (.aload_n 0, 1) := by decide +kernel
theorem d_X12_near_48 : decode prog_14_method_132_code 48 = .ok (.iload_n 1, 1) := by decide +kernel
theorem d_X12_near_49 : decode prog_14_method_132_code 49 = .ok (.iload 6, 2) := by decide +kernel
theorem d_X12_near_51 : decode prog_14_method_132_code 51 = .ok (.iload_n 3, 1) := by decide +kernel
theorem d_X12_near_52 : decode prog_14_method_132_code 52 = .ok (.invokevirtual 598, 3) := by decide +kernel
theorem d_X12_near_55 : decode prog_14_method_132_code 55 = .ok (.ifCond .eq 103, 3) := by decide +kernel
theorem d_X12_near_58 : decode prog_14_method_132_code 58 = .ok (.goto 13, 3) := by decide +kernel
theorem d_X12_near_61 : decode prog_14_method_132_code 61 = .ok (.aload_n 0, 1) := by decide +kernel
theorem d_X12_near_62 : decode prog_14_method_132_code 62 = .ok (.iload_n 1, 1) := by decide +kernel
theorem d_X12_near_63 : decode prog_14_method_132_code 63 = .ok (.iload 6, 2) := by decide +kernel
theorem d_X12_near_65 : decode prog_14_method_132_code 65 = .ok (.invokevirtual 562, 3) := by decide +kernel
theorem d_X12_near_68 : decode prog_14_method_132_code 68 = .ok (.ifCond .eq 90, 3) := by decide +kernel
theorem d_X12_near_71 : decode prog_14_method_132_code 71 = .ok (.iconst 0, 1) := by decide +kernel
theorem d_X12_near_72 : decode prog_14_method_132_code 72 = .ok (.istore 7, 2) := by decide +kernel
theorem d_X12_near_74 : decode prog_14_method_132_code 74 = .ok (.iconst 0, 1) := by decide +kernel
theorem d_X12_near_75 : decode prog_14_method_132_code 75 = .ok (.istore 8, 2) := by decide +kernel
theorem d_X12_near_77 : decode prog_14_method_132_code 77 = .ok (.iload 8, 2) := by decide +kernel
theorem d_X12_near_79 : decode prog_14_method_132_code 79 = .ok (.aload_n 0, 1) := by decide +kernel
theorem d_X12_near_80 : decode prog_14_method_132_code 80 = .ok (.iload_n 1, 1) := by decide +kernel
theorem d_X12_near_81 : decode prog_14_method_132_code 81 = .ok (.invokevirtual 456, 3) := by decide +kernel
theorem d_X12_near_84 : decode prog_14_method_132_code 84 = .ok (.if_icmp .ge 54, 3) := by decide +kernel
theorem d_X12_near_87 : decode prog_14_method_132_code 87 = .ok (.iload 7, 2) := by decide +kernel
theorem d_X12_near_89 : decode prog_14_method_132_code 89 = .ok (.aload_n 0, 1) := by decide +kernel
theorem d_X12_near_90 : decode prog_14_method_132_code 90 = .ok (.iload_n 1, 1) := by decide +kernel
theorem d_X12_near_91 : decode prog_14_method_132_code 91 = .ok (.iload 6, 2) := by decide +kernel
theorem d_X12_near_93 : decode prog_14_method_132_code 93 = .ok (.iload 8, 2) := by decide +kernel
theorem d_X12_near_95 : decode prog_14_method_132_code 95 = .ok (.invokevirtual 537, 3) := by decide +kernel
theorem d_X12_near_98 : decode prog_14_method_132_code 98 = .ok (.aload_n 0, 1) := by decide +kernel
theorem d_X12_near_99 : decode prog_14_method_132_code 99 = .ok (.getfield 73, 3) := by decide +kernel
theorem d_X12_near_102 : decode prog_14_method_132_code 102 = .ok (.bipush 12, 2) := by decide +kernel
theorem d_X12_near_104 : decode prog_14_method_132_code 104 = .ok (.iload_n 1, 1) := by decide +kernel
theorem d_X12_near_105 : decode prog_14_method_132_code 105 = .ok (.imul, 1) := by decide +kernel
theorem d_X12_near_106 : decode prog_14_method_132_code 106 = .ok (.iload 8, 2) := by decide +kernel
theorem d_X12_near_108 : decode prog_14_method_132_code 108 = .ok (.iadd, 1) := by decide +kernel
theorem d_X12_near_109 : decode prog_14_method_132_code 109 = .ok (.iaload, 1) := by decide +kernel
theorem d_X12_near_110 : decode prog_14_method_132_code 110 = .ok (.if_icmp .ne 7, 3) := by decide +kernel
theorem d_X12_near_113 : decode prog_14_method_132_code 113 = .ok (.iconst 0, 1) := by decide +kernel
theorem d_X12_near_114 : decode prog_14_method_132_code 114 = .ok (.goto 15, 3) := by decide +kernel
theorem d_X12_near_117 : decode prog_14_method_132_code 117 = .ok (.aload_n 0, 1) := by decide +kernel
theorem d_X12_near_118 : decode prog_14_method_132_code 118 = .ok (.getfield 76, 3) := by decide +kernel
theorem d_X12_near_121 : decode prog_14_method_132_code 121 = .ok (.bipush 12, 2) := by decide +kernel
theorem d_X12_near_123 : decode prog_14_method_132_code 123 = .ok (.iload_n 1, 1) := by decide +kernel
theorem d_X12_near_124 : decode prog_14_method_132_code 124 = .ok (.imul, 1) := by decide +kernel
theorem d_X12_near_125 : decode prog_14_method_132_code 125 = .ok (.iload 8, 2) := by decide +kernel
theorem d_X12_near_127 : decode prog_14_method_132_code 127 = .ok (.iadd, 1) := by decide +kernel
theorem d_X12_near_128 : decode prog_14_method_132_code 128 = .ok (.iaload, 1) := by decide +kernel
theorem d_X12_near_129 : decode prog_14_method_132_code 129 = .ok (.iadd, 1) := by decide +kernel
theorem d_X12_near_130 : decode prog_14_method_132_code 130 = .ok (.istore 7, 2) := by decide +kernel
theorem d_X12_near_132 : decode prog_14_method_132_code 132 = .ok (.iinc 8 1, 3) := by decide +kernel
theorem d_X12_near_135 : decode prog_14_method_132_code 135 = .ok (.goto (-58), 3) := by decide +kernel
theorem d_X12_near_138 : decode prog_14_method_132_code 138 = .ok (.iload 4, 2) := by decide +kernel
theorem d_X12_near_140 : decode prog_14_method_132_code 140 = .ok (.ifCond .lt 10, 3) := by decide +kernel
theorem d_X12_near_143 : decode prog_14_method_132_code 143 = .ok (.iload 7, 2) := by decide +kernel
theorem d_X12_near_145 : decode prog_14_method_132_code 145 = .ok (.iload 5, 2) := by decide +kernel
theorem d_X12_near_147 : decode prog_14_method_132_code 147 = .ok (.if_icmp .ge 11, 3) := by decide +kernel
theorem d_X12_near_150 : decode prog_14_method_132_code 150 = .ok (.iload 6, 2) := by decide +kernel
theorem d_X12_near_152 : decode prog_14_method_132_code 152 = .ok (.istore 4, 2) := by decide +kernel
theorem d_X12_near_154 : decode prog_14_method_132_code 154 = .ok (.iload 7, 2) := by decide +kernel
theorem d_X12_near_156 : decode prog_14_method_132_code 156 = .ok (.istore 5, 2) := by decide +kernel
theorem d_X12_near_158 : decode prog_14_method_132_code 158 = .ok (.iinc 6 1, 3) := by decide +kernel
theorem d_X12_near_161 : decode prog_14_method_132_code 161 = .ok (.goto (-129), 3) := by decide +kernel
theorem d_X12_near_164 : decode prog_14_method_132_code 164 = .ok (.iload 4, 2) := by decide +kernel
theorem d_X12_near_166 : decode prog_14_method_132_code 166 = .ok (.ifCond .ge 5, 3) := by decide +kernel
theorem d_X12_near_169 : decode prog_14_method_132_code 169 = .ok (.iconst (-1), 1) := by decide +kernel
theorem d_X12_near_170 : decode prog_14_method_132_code 170 = .ok (.ireturn, 1) := by decide +kernel
theorem d_X12_near_171 : decode prog_14_method_132_code 171 = .ok (.aload_n 0, 1) := by decide +kernel
theorem d_X12_near_172 : decode prog_14_method_132_code 172 = .ok (.iload_n 1, 1) := by decide +kernel
theorem d_X12_near_173 : decode prog_14_method_132_code 173 = .ok (.iload 4, 2) := by decide +kernel
theorem d_X12_near_175 : decode prog_14_method_132_code 175 = .ok (.invokevirtual 595, 3) := by decide +kernel
theorem d_X12_near_178 : decode prog_14_method_132_code 178 = .ok (.iload 5, 2) := by decide +kernel
theorem d_X12_near_180 : decode prog_14_method_132_code 180 = .ok (.ireturn, 1) := by decide +kernel
theorem v_X12_near_0 {E : EE} {d : Nat} {Q : Option AV → AH → Prop} {x0 : Nat} {x1 : Int32} {x2 : Int32} {G : AH} (h0 : 0 < d) (h : isO E G x0 12 ∧ (wpI E (d - 1) M_X12_isProblem [vr x0, vi x1] G (fun r1 G2 => (¬ r1 = 0 → isO E G2 x0 12 ∧ (wpV E (d - 1) M_X12_know [vr x0, vi x1] G2 (fun G3 => isO E G3 x0 12 ∧ (wpI E (d - 1) M_X12_firstBest [vr x0, vi x1, vi (-1), vi 0] G3 (fun r4 G5 => wp E d M_X12_near 32 [some (vr x0), some (vi x1), some (vi x2), some (vi r4), some (vi (-1)), some (vi 0), some (vi 0), none, none] [] G5 Q))))) ∧ (r1 = 0 → Q (some (vi (-1))) G2)))) : wp E d M_X12_near 0 [some (vr x0), some (vi x1), some (vi x2), none, none, none, none, none, none] [] G Q := by
  refine wp_aload_n (pc := 0) d_X12_near_0 rfl ?_
  refine wp_iload_n (pc := 1) d_X12_near_1 rfl ?_
  obtain ⟨ho8, h⟩ := h
  refine wp_invV (pc := 2) (N := M_X12_isProblem) (As := [vi _]) (rest := []) (r := (cn_12, ct_12, 95)) d_X12_near_2 ml_X12_453 mk_X12_isProblem mv_X12_isProblem h0 ho8 rfl rfl (Nat.le_of_ble_eq_true rfl) ?_
  refine wpM.mono h (fun rr G2 hr => ?_)
  obtain ⟨r1, rfl, h⟩ := hr
  show wp E d M_X12_near 5 [some (vr _), some (vi _), some (vi _), none, none, none, none, none, none] [vi _] G2 Q
  refine wp_if_ne (pc := 5) (tgt := 10) d_X12_near_5 (by decide) (fun hc => ?_) (fun hc => ?_)
  · have h := h.1 hc
    refine wp_aload_n (pc := 10) d_X12_near_10 rfl ?_
    refine wp_iload_n (pc := 11) d_X12_near_11 rfl ?_
    obtain ⟨ho7, h⟩ := h
    refine wp_invV (pc := 12) (N := M_X12_know) (As := [vi _]) (rest := []) (r := (cn_12, ct_12, 95)) d_X12_near_12 ml_X12_571 mk_X12_know mv_X12_know h0 ho7 rfl rfl (Nat.le_of_ble_eq_true rfl) ?_
    refine wpM.mono h (fun rr G3 hr => ?_)
    obtain ⟨rfl, h⟩ := hr
    show wp E d M_X12_near 15 [some (vr _), some (vi _), some (vi _), none, none, none, none, none, none] [] G3 Q
    refine wp_aload_n (pc := 15) d_X12_near_15 rfl ?_
    refine wp_iload_n (pc := 16) d_X12_near_16 rfl ?_
    refine wp_iconst (pc := 17) (v := (-1)) d_X12_near_17 rfl ?_
    refine wp_iconst (pc := 18) (v := 0) d_X12_near_18 rfl ?_
    obtain ⟨ho6, h⟩ := h
    refine wp_invV (pc := 19) (N := M_X12_firstBest) (As := [vi _, vi _, vi _]) (rest := []) (r := (cn_12, ct_12, 95)) d_X12_near_19 ml_X12_592 mk_X12_firstBest mv_X12_firstBest h0 ho6 rfl rfl (Nat.le_of_ble_eq_true rfl) ?_
    refine wpM.mono h (fun rr G5 hr => ?_)
    obtain ⟨r4, rfl, h⟩ := hr
    show wp E d M_X12_near 22 [some (vr _), some (vi _), some (vi _), none, none, none, none, none, none] [vi _] G5 Q
    refine wp_istore_n (pc := 22) (lv' := [some (vr _), some (vi _), some (vi _), some (vi _), none, none, none, none, none]) d_X12_near_22 (by decide) rfl ?_
    refine wp_iconst (pc := 23) (v := (-1)) d_X12_near_23 rfl ?_
    refine wp_istore (pc := 24) (lv' := [some (vr _), some (vi _), some (vi _), some (vi _), some (vi _), none, none, none, none]) d_X12_near_24 (by decide) rfl ?_
    refine wp_iconst (pc := 26) (v := 0) d_X12_near_26 rfl ?_
    refine wp_istore (pc := 27) (lv' := [some (vr _), some (vi _), some (vi _), some (vi _), some (vi _), some (vi _), none, none, none]) d_X12_near_27 (by decide) rfl ?_
    refine wp_iconst (pc := 29) (v := 0) d_X12_near_29 rfl ?_
    refine wp_istore (pc := 30) (lv' := [some (vr _), some (vi _), some (vi _), some (vi _), some (vi _), some (vi _), some (vi _), none, none]) d_X12_near_30 (by decide) rfl ?_
    refine wp_sub ?_ h
    exact ⟨rfl, ⟨rfl, ⟨rfl, ⟨rfl, ⟨rfl, ⟨rfl, ⟨rfl, trivial⟩⟩⟩⟩⟩⟩⟩
  · have h := h.2 hc
    refine wp_iconst (pc := 8) (v := (-1)) d_X12_near_8 rfl ?_
    exact wp_iret (pc := 9) d_X12_near_9 rfl h
theorem v_X12_near_32 {E : EE} {d : Nat} {Q : Option AV → AH → Prop} {x0 : Nat} {x1 : Int32} {x2 : Int32} {x3 : Int32} {x4 : Int32} {x5 : Int32} {x6 : Int32} {G : AH} (h0 : 0 < d) (h : isO E G x0 12 ∧ (isO E G (gR G x0 25) 14 ∧ (vp_in x1 (gN G (gR G x0 25)) ∧ (((gI G (gR G x0 25) (Int32.toNatClampNeg x1)) ≤ x6 → (0 ≤ x4 → wpV E (d - 1) M_X12_putAtHand [vr x0, vi x1, vi x4] G (fun G4 => Q (some (vi x5)) G4)) ∧ (¬ (0 ≤ x4) → Q (some (vi (-1))) G)) ∧ (¬ ((gI G (gR G x0 25) (Int32.toNatClampNeg x1)) ≤ x6) → (x2 = 0 → wpI E (d - 1) M_X12_isGood [vr x0, vi x1, vi x6] G (fun r5 G6 => (r5 = 0 → wp E d M_X12_near 158 [some (vr x0), some (vi x1), some (vi x2), some (vi x3), some (vi x4), some (vi x5), some (vi x6), none, none] [] G6 Q) ∧ (¬ (r5 = 0) → wp E d M_X12_near 71 [some (vr x0), some (vi x1), some (vi x2), some (vi x3), some (vi x4), some (vi x5), some (vi x6), none, none] [] G6 Q))) ∧ (¬ (x2 = 0) → wpI E (d - 1) M_X12_isBest [vr x0, vi x1, vi x6, vi x3] G (fun r7 G8 => (r7 = 0 → wp E d M_X12_near 158 [some (vr x0), some (vi x1), some (vi x2), some (vi x3), some (vi x4), some (vi x5), some (vi x6), none, none] [] G8 Q) ∧ (¬ (r7 = 0) → wp E d M_X12_near 71 [some (vr x0), some (vi x1), some (vi x2), some (vi x3), some (vi x4), some (vi x5), some (vi x6), none, none] [] G8 Q)))))))) : wp E d M_X12_near 32 [some (vr x0), some (vi x1), some (vi x2), some (vi x3), some (vi x4), some (vi x5), some (vi x6), none, none] [] G Q := by
  refine wp_iload (pc := 32) d_X12_near_32 rfl ?_
  refine wp_aload_n (pc := 34) d_X12_near_34 rfl ?_
  obtain ⟨ho1, h⟩ := h
  refine wp_getR (pc := 35) d_X12_near_35 fl_X12_82 (fun _ _ _ => rfl) ho1 ?_
  refine wp_iload_n (pc := 38) d_X12_near_38 rfl ?_
  obtain ⟨ho2, h⟩ := h
  obtain ⟨hi3, h⟩ := h
  refine wp_iald (pc := 39) d_X12_near_39 ho2 hi3 ?_
  refine wp_icmp_ge (pc := 40) (tgt := 164) d_X12_near_40 (by decide) (fun hc => ?_) (fun hc => ?_)
  · have h := h.1 hc
    refine wp_iload (pc := 164) d_X12_near_164 rfl ?_
    refine wp_if_ge (pc := 166) (tgt := 171) d_X12_near_166 (by decide) (fun hc => ?_) (fun hc => ?_)
    · have h := h.1 hc
      refine wp_aload_n (pc := 171) d_X12_near_171 rfl ?_
      refine wp_iload_n (pc := 172) d_X12_near_172 rfl ?_
      refine wp_iload (pc := 173) d_X12_near_173 rfl ?_
      refine wp_invV (pc := 175) (N := M_X12_putAtHand) (As := [vi _, vi _]) (rest := []) (r := (cn_12, ct_12, 95)) d_X12_near_175 ml_X12_595 mk_X12_putAtHand mv_X12_putAtHand h0 ho1 rfl rfl (Nat.le_of_ble_eq_true rfl) ?_
      refine wpM.mono h (fun rr G4 hr => ?_)
      obtain ⟨rfl, h⟩ := hr
      show wp E d M_X12_near 178 [some (vr _), some (vi _), some (vi _), some (vi _), some (vi _), some (vi _), some (vi _), none, none] [] G4 Q
      refine wp_iload (pc := 178) d_X12_near_178 rfl ?_
      exact wp_iret (pc := 180) d_X12_near_180 rfl h
    · have h := h.2 hc
      refine wp_iconst (pc := 169) (v := (-1)) d_X12_near_169 rfl ?_
      exact wp_iret (pc := 170) d_X12_near_170 rfl h
  · have h := h.2 hc
    refine wp_iload_n (pc := 43) d_X12_near_43 rfl ?_
    refine wp_if_eq (pc := 44) (tgt := 61) d_X12_near_44 (by decide) (fun hc => ?_) (fun hc => ?_)
    · have h := h.1 hc
      refine wp_aload_n (pc := 61) d_X12_near_61 rfl ?_
      refine wp_iload_n (pc := 62) d_X12_near_62 rfl ?_
      refine wp_iload (pc := 63) d_X12_near_63 rfl ?_
      refine wp_invV (pc := 65) (N := M_X12_isGood) (As := [vi _, vi _]) (rest := []) (r := (cn_12, ct_12, 95)) d_X12_near_65 ml_X12_562 mk_X12_isGood mv_X12_isGood h0 ho1 rfl rfl (Nat.le_of_ble_eq_true rfl) ?_
      refine wpM.mono h (fun rr G6 hr => ?_)
      obtain ⟨r5, rfl, h⟩ := hr
      show wp E d M_X12_near 68 [some (vr _), some (vi _), some (vi _), some (vi _), some (vi _), some (vi _), some (vi _), none, none] [vi _] G6 Q
      refine wp_if_eq (pc := 68) (tgt := 158) d_X12_near_68 (by decide) (fun hc => ?_) (fun hc => ?_)
      · have h := h.1 hc
        refine wp_sub ?_ h
        exact ⟨rfl, ⟨rfl, ⟨rfl, ⟨rfl, ⟨rfl, ⟨rfl, ⟨rfl, trivial⟩⟩⟩⟩⟩⟩⟩
      · have h := h.2 hc
        refine wp_sub ?_ h
        exact ⟨rfl, ⟨rfl, ⟨rfl, ⟨rfl, ⟨rfl, ⟨rfl, ⟨rfl, trivial⟩⟩⟩⟩⟩⟩⟩
    · have h := h.2 hc
      refine wp_aload_n (pc := 47) d_X12_near_47 rfl ?_
      refine wp_iload_n (pc := 48) d_X12_near_48 rfl ?_
      refine wp_iload (pc := 49) d_X12_near_49 rfl ?_
      refine wp_iload_n (pc := 51) d_X12_near_51 rfl ?_
      refine wp_invV (pc := 52) (N := M_X12_isBest) (As := [vi _, vi _, vi _]) (rest := []) (r := (cn_12, ct_12, 95)) d_X12_near_52 ml_X12_598 mk_X12_isBest mv_X12_isBest h0 ho1 rfl rfl (Nat.le_of_ble_eq_true rfl) ?_
      refine wpM.mono h (fun rr G8 hr => ?_)
      obtain ⟨r7, rfl, h⟩ := hr
      show wp E d M_X12_near 55 [some (vr _), some (vi _), some (vi _), some (vi _), some (vi _), some (vi _), some (vi _), none, none] [vi _] G8 Q
      refine wp_if_eq (pc := 55) (tgt := 158) d_X12_near_55 (by decide) (fun hc => ?_) (fun hc => ?_)
      · have h := h.1 hc
        refine wp_sub ?_ h
        exact ⟨rfl, ⟨rfl, ⟨rfl, ⟨rfl, ⟨rfl, ⟨rfl, ⟨rfl, trivial⟩⟩⟩⟩⟩⟩⟩
      · have h := h.2 hc
        refine wp_goto (pc := 58) (tgt := 71) d_X12_near_58 (by decide) ?_
        refine wp_sub ?_ h
        exact ⟨rfl, ⟨rfl, ⟨rfl, ⟨rfl, ⟨rfl, ⟨rfl, ⟨rfl, trivial⟩⟩⟩⟩⟩⟩⟩
theorem v_X12_near_71 {E : EE} {d : Nat} {Q : Option AV → AH → Prop} {x0 : Nat} {x1 : Int32} {x2 : Int32} {x3 : Int32} {x4 : Int32} {x5 : Int32} {x6 : Int32} {G : AH} (h : wp E d M_X12_near 77 [some (vr x0), some (vi x1), some (vi x2), some (vi x3), some (vi x4), some (vi x5), some (vi x6), some (vi 0), some (vi 0)] [] G Q) : wp E d M_X12_near 71 [some (vr x0), some (vi x1), some (vi x2), some (vi x3), some (vi x4), some (vi x5), some (vi x6), none, none] [] G Q := by
  refine wp_iconst (pc := 71) (v := 0) d_X12_near_71 rfl ?_
  refine wp_istore (pc := 72) (lv' := [some (vr _), some (vi _), some (vi _), some (vi _), some (vi _), some (vi _), some (vi _), some (vi _), none]) d_X12_near_72 (by decide) rfl ?_
  refine wp_iconst (pc := 74) (v := 0) d_X12_near_74 rfl ?_
  refine wp_istore (pc := 75) (lv' := [some (vr _), some (vi _), some (vi _), some (vi _), some (vi _), some (vi _), some (vi _), some (vi _), some (vi _)]) d_X12_near_75 (by decide) rfl ?_
  refine wp_sub ?_ h
  exact ⟨rfl, ⟨rfl, ⟨rfl, ⟨rfl, ⟨rfl, ⟨rfl, ⟨rfl, ⟨rfl, ⟨rfl, trivial⟩⟩⟩⟩⟩⟩⟩⟩⟩
theorem v_X12_near_77 {E : EE} {d : Nat} {Q : Option AV → AH → Prop} {x0 : Nat} {x1 : Int32} {x2 : Int32} {x3 : Int32} {x4 : Int32} {x5 : Int32} {x6 : Int32} {x7 : Int32} {x8 : Int32} {G : AH} (h0 : 0 < d) (h : isO E G x0 12 ∧ (wpI E (d - 1) M_X12_vars [vr x0, vi x1] G (fun r1 G2 => (r1 ≤ x8 → (x4 < 0 → wp E d M_X12_near 150 [some (vr x0), some (vi x1), some (vi x2), some (vi x3), some (vi x4), some (vi x5), some (vi x6), some (vi x7), some (vi x8)] [] G2 Q) ∧ (¬ (x4 < 0) → (x5 ≤ x7 → wp E d M_X12_near 158 [some (vr x0), some (vi x1), some (vi x2), some (vi x3), some (vi x4), some (vi x5), some (vi x6), none, none] [] G2 Q) ∧ (¬ (x5 ≤ x7) → wp E d M_X12_near 150 [some (vr x0), some (vi x1), some (vi x2), some (vi x3), some (vi x4), some (vi x5), some (vi x6), some (vi x7), some (vi x8)] [] G2 Q))) ∧ (¬ (r1 ≤ x8) → isO E G2 x0 12 ∧ (wpI E (d - 1) M_X12_place [vr x0, vi x1, vi x6, vi x8] G2 (fun r3 G4 => isO E G4 x0 12 ∧ (isO E G4 (gR G4 x0 22) 14 ∧ (vp_in ((12 * x1) + x8) (gN G4 (gR G4 x0 22)) ∧ ((¬ r3 = (gI G4 (gR G4 x0 22) (Int32.toNatClampNeg ((12 * x1) + x8))) → isO E G4 (gR G4 x0 23) 14 ∧ (vp_in ((12 * x1) + x8) (gN G4 (gR G4 x0 23)) ∧ (wp E d M_X12_near 129 [some (vr x0), some (vi x1), some (vi x2), some (vi x3), some (vi x4), some (vi x5), some (vi x6), some (vi x7), some (vi x8)] [vi (gI G4 (gR G4 x0 23) (Int32.toNatClampNeg ((12 * x1) + x8))), vi x7] G4 Q))) ∧ (r3 = (gI G4 (gR G4 x0 22) (Int32.toNatClampNeg ((12 * x1) + x8))) → wp E d M_X12_near 129 [some (vr x0), some (vi x1), some (vi x2), some (vi x3), some (vi x4), some (vi x5), some (vi x6), some (vi x7), some (vi x8)] [vi 0, vi x7] G4 Q)))))))))) : wp E d M_X12_near 77 [some (vr x0), some (vi x1), some (vi x2), some (vi x3), some (vi x4), some (vi x5), some (vi x6), some (vi x7), some (vi x8)] [] G Q := by
  refine wp_iload (pc := 77) d_X12_near_77 rfl ?_
  refine wp_aload_n (pc := 79) d_X12_near_79 rfl ?_
  refine wp_iload_n (pc := 80) d_X12_near_80 rfl ?_
  obtain ⟨ho11, h⟩ := h
  refine wp_invV (pc := 81) (N := M_X12_vars) (As := [vi _]) (rest := [vi _]) (r := (cn_12, ct_12, 95)) d_X12_near_81 ml_X12_456 mk_X12_vars mv_X12_vars h0 ho11 rfl rfl (Nat.le_of_ble_eq_true rfl) ?_
  refine wpM.mono h (fun rr G2 hr => ?_)
  obtain ⟨r1, rfl, h⟩ := hr
  show wp E d M_X12_near 84 [some (vr _), some (vi _), some (vi _), some (vi _), some (vi _), some (vi _), some (vi _), some (vi _), some (vi _)] [vi _, vi _] G2 Q
  refine wp_icmp_ge (pc := 84) (tgt := 138) d_X12_near_84 (by decide) (fun hc => ?_) (fun hc => ?_)
  · have h := h.1 hc
    refine wp_iload (pc := 138) d_X12_near_138 rfl ?_
    refine wp_if_lt (pc := 140) (tgt := 150) d_X12_near_140 (by decide) (fun hc => ?_) (fun hc => ?_)
    · have h := h.1 hc
      refine wp_sub ?_ h
      exact ⟨rfl, ⟨rfl, ⟨rfl, ⟨rfl, ⟨rfl, ⟨rfl, ⟨rfl, ⟨rfl, ⟨rfl, trivial⟩⟩⟩⟩⟩⟩⟩⟩⟩
    · have h := h.2 hc
      refine wp_iload (pc := 143) d_X12_near_143 rfl ?_
      refine wp_iload (pc := 145) d_X12_near_145 rfl ?_
      refine wp_icmp_ge (pc := 147) (tgt := 158) d_X12_near_147 (by decide) (fun hc => ?_) (fun hc => ?_)
      · have h := h.1 hc
        refine wp_sub ?_ h
        exact ⟨rfl, ⟨rfl, ⟨rfl, ⟨rfl, ⟨rfl, ⟨rfl, ⟨rfl, trivial⟩⟩⟩⟩⟩⟩⟩
      · have h := h.2 hc
        refine wp_sub ?_ h
        exact ⟨rfl, ⟨rfl, ⟨rfl, ⟨rfl, ⟨rfl, ⟨rfl, ⟨rfl, ⟨rfl, ⟨rfl, trivial⟩⟩⟩⟩⟩⟩⟩⟩⟩
  · have h := h.2 hc
    refine wp_iload (pc := 87) d_X12_near_87 rfl ?_
    refine wp_aload_n (pc := 89) d_X12_near_89 rfl ?_
    refine wp_iload_n (pc := 90) d_X12_near_90 rfl ?_
    refine wp_iload (pc := 91) d_X12_near_91 rfl ?_
    refine wp_iload (pc := 93) d_X12_near_93 rfl ?_
    obtain ⟨ho10, h⟩ := h
    refine wp_invV (pc := 95) (N := M_X12_place) (As := [vi _, vi _, vi _]) (rest := [vi _]) (r := (cn_12, ct_12, 95)) d_X12_near_95 ml_X12_537 mk_X12_place mv_X12_place h0 ho10 rfl rfl (Nat.le_of_ble_eq_true rfl) ?_
    refine wpM.mono h (fun rr G4 hr => ?_)
    obtain ⟨r3, rfl, h⟩ := hr
    show wp E d M_X12_near 98 [some (vr _), some (vi _), some (vi _), some (vi _), some (vi _), some (vi _), some (vi _), some (vi _), some (vi _)] [vi _, vi _] G4 Q
    refine wp_aload_n (pc := 98) d_X12_near_98 rfl ?_
    obtain ⟨ho5, h⟩ := h
    refine wp_getR (pc := 99) d_X12_near_99 fl_X12_73 (fun _ _ _ => rfl) ho5 ?_
    refine wp_bipush (pc := 102) (v := 12) d_X12_near_102 rfl ?_
    refine wp_iload_n (pc := 104) d_X12_near_104 rfl ?_
    refine wp_imul (pc := 105) d_X12_near_105 ?_
    refine wp_iload (pc := 106) d_X12_near_106 rfl ?_
    refine wp_iadd (pc := 108) d_X12_near_108 ?_
    obtain ⟨ho6, h⟩ := h
    obtain ⟨hi7, h⟩ := h
    refine wp_iald (pc := 109) d_X12_near_109 ho6 hi7 ?_
    refine wp_icmp_ne (pc := 110) (tgt := 117) d_X12_near_110 (by decide) (fun hc => ?_) (fun hc => ?_)
    · have h := h.1 hc
      refine wp_aload_n (pc := 117) d_X12_near_117 rfl ?_
      refine wp_getR (pc := 118) d_X12_near_118 fl_X12_76 (fun _ _ _ => rfl) ho5 ?_
      refine wp_bipush (pc := 121) (v := 12) d_X12_near_121 rfl ?_
      refine wp_iload_n (pc := 123) d_X12_near_123 rfl ?_
      refine wp_imul (pc := 124) d_X12_near_124 ?_
      refine wp_iload (pc := 125) d_X12_near_125 rfl ?_
      refine wp_iadd (pc := 127) d_X12_near_127 ?_
      obtain ⟨ho8, h⟩ := h
      obtain ⟨hi9, h⟩ := h
      refine wp_iald (pc := 128) d_X12_near_128 ho8 hi9 ?_
      refine wp_sub ?_ h
      exact ⟨rfl, ⟨rfl, ⟨rfl, ⟨rfl, ⟨rfl, ⟨rfl, ⟨rfl, ⟨rfl, ⟨rfl, trivial⟩⟩⟩⟩⟩⟩⟩⟩⟩
    · have h := h.2 hc
      refine wp_iconst (pc := 113) (v := 0) d_X12_near_113 rfl ?_
      refine wp_goto (pc := 114) (tgt := 129) d_X12_near_114 (by decide) ?_
      refine wp_sub ?_ h
      exact ⟨rfl, ⟨rfl, ⟨rfl, ⟨rfl, ⟨rfl, ⟨rfl, ⟨rfl, ⟨rfl, ⟨rfl, trivial⟩⟩⟩⟩⟩⟩⟩⟩⟩
theorem v_X12_near_129 {E : EE} {d : Nat} {Q : Option AV → AH → Prop} {x0 : Nat} {x1 : Int32} {x2 : Int32} {x3 : Int32} {x4 : Int32} {x5 : Int32} {x6 : Int32} {x7 : Int32} {x8 : Int32} {t0 : Int32} {t1 : Int32} {G : AH} (h : wp E d M_X12_near 77 [some (vr x0), some (vi x1), some (vi x2), some (vi x3), some (vi x4), some (vi x5), some (vi x6), some (vi (t0 + t1)), some (vi (x8 + 1))] [] G Q) : wp E d M_X12_near 129 [some (vr x0), some (vi x1), some (vi x2), some (vi x3), some (vi x4), some (vi x5), some (vi x6), some (vi x7), some (vi x8)] [vi t1, vi t0] G Q := by
  refine wp_iadd (pc := 129) d_X12_near_129 ?_
  refine wp_istore (pc := 130) (lv' := [some (vr _), some (vi _), some (vi _), some (vi _), some (vi _), some (vi _), some (vi _), some (vi _), some (vi _)]) d_X12_near_130 (by decide) rfl ?_
  refine wp_iinc (pc := 132) (v := 1) (lv' := [some (vr _), some (vi _), some (vi _), some (vi _), some (vi _), some (vi _), some (vi _), some (vi _), some (vi _)]) d_X12_near_132 (by decide) rfl rfl rfl ?_
  refine wp_goto (pc := 135) (tgt := 77) d_X12_near_135 (by decide) ?_
  refine wp_sub ?_ h
  exact ⟨rfl, ⟨rfl, ⟨rfl, ⟨rfl, ⟨rfl, ⟨rfl, ⟨rfl, ⟨rfl, ⟨rfl, trivial⟩⟩⟩⟩⟩⟩⟩⟩⟩
theorem v_X12_near_150 {E : EE} {d : Nat} {Q : Option AV → AH → Prop} {x0 : Nat} {x1 : Int32} {x2 : Int32} {x3 : Int32} {x4 : Int32} {x5 : Int32} {x6 : Int32} {x7 : Int32} {x8 : Int32} {G : AH} (h : wp E d M_X12_near 158 [some (vr x0), some (vi x1), some (vi x2), some (vi x3), some (vi x6), some (vi x7), some (vi x6), none, none] [] G Q) : wp E d M_X12_near 150 [some (vr x0), some (vi x1), some (vi x2), some (vi x3), some (vi x4), some (vi x5), some (vi x6), some (vi x7), some (vi x8)] [] G Q := by
  refine wp_iload (pc := 150) d_X12_near_150 rfl ?_
  refine wp_istore (pc := 152) (lv' := [some (vr _), some (vi _), some (vi _), some (vi _), some (vi _), some (vi _), some (vi _), some (vi _), some (vi _)]) d_X12_near_152 (by decide) rfl ?_
  refine wp_iload (pc := 154) d_X12_near_154 rfl ?_
  refine wp_istore (pc := 156) (lv' := [some (vr _), some (vi _), some (vi _), some (vi _), some (vi _), some (vi _), some (vi _), some (vi _), some (vi _)]) d_X12_near_156 (by decide) rfl ?_
  refine wp_sub ?_ h
  exact ⟨rfl, ⟨rfl, ⟨rfl, ⟨rfl, ⟨rfl, ⟨rfl, ⟨rfl, trivial⟩⟩⟩⟩⟩⟩⟩
theorem v_X12_near_158 {E : EE} {d : Nat} {Q : Option AV → AH → Prop} {x0 : Nat} {x1 : Int32} {x2 : Int32} {x3 : Int32} {x4 : Int32} {x5 : Int32} {x6 : Int32} {G : AH} (h : wp E d M_X12_near 32 [some (vr x0), some (vi x1), some (vi x2), some (vi x3), some (vi x4), some (vi x5), some (vi (x6 + 1)), none, none] [] G Q) : wp E d M_X12_near 158 [some (vr x0), some (vi x1), some (vi x2), some (vi x3), some (vi x4), some (vi x5), some (vi x6), none, none] [] G Q := by
  refine wp_iinc (pc := 158) (v := 1) (lv' := [some (vr _), some (vi _), some (vi _), some (vi _), some (vi _), some (vi _), some (vi _), none, none]) d_X12_near_158 (by decide) rfl rfl rfl ?_
  refine wp_goto (pc := 161) (tgt := 32) d_X12_near_161 (by decide) ?_
  refine wp_sub ?_ h
  exact ⟨rfl, ⟨rfl, ⟨rfl, ⟨rfl, ⟨rfl, ⟨rfl, ⟨rfl, trivial⟩⟩⟩⟩⟩⟩⟩
theorem d_X12_isBest_0 : decode prog_14_method_96_code 0 = .ok (.iload_n 3, 1) := by decide +kernel
theorem d_X12_isBest_1 : decode prog_14_method_96_code 1 = .ok (.ifCond .lt 25, 3) := by decide +kernel
theorem d_X12_isBest_4 : decode prog_14_method_96_code 4 = .ok (.aload_n 0, 1) := by decide +kernel
theorem d_X12_isBest_5 : decode prog_14_method_96_code 5 = .ok (.iload_n 1, 1) := by decide +kernel
theorem d_X12_isBest_6 : decode prog_14_method_96_code 6 = .ok (.iload_n 2, 1) := by decide +kernel
theorem d_X12_isBest_7 : decode prog_14_method_96_code 7 = .ok (.invokevirtual 562, 3) := by decide +kernel
theorem d_X12_isBest_10 : decode prog_14_method_96_code 10 = .ok (.ifCond .eq 16, 3) := by decide +kernel
theorem d_X12_isBest_13 : decode prog_14_method_96_code 13 = .ok (.aload_n 0, 1) := by decide +kernel
theorem d_X12_isBest_14 : decode prog_14_method_96_code 14 = .ok (.iload_n 3, 1) := by decide +kernel
theorem d_X12_isBest_15 : decode prog_14_method_96_code 15 = .ok (.iload_n 2, 1) := by decide +kernel
theorem d_X12_isBest_16 : decode prog_14_method_96_code 16 = .ok (.invokevirtual 565, 3) := by decide +kernel
theorem d_X12_isBest_19 : decode prog_14_method_96_code 19 = .ok (.ifCond .ne 7, 3) := by decide +kernel
theorem d_X12_isBest_22 : decode prog_14_method_96_code 22 = .ok (.iconst 1, 1) := by decide +kernel
theorem d_X12_isBest_23 : decode prog_14_method_96_code 23 = .ok (.goto 4, 3) := by decide +kernel
theorem d_X12_isBest_26 : decode prog_14_method_96_code 26 = .ok (.iconst 0, 1) := by decide +kernel
theorem d_X12_isBest_27 : decode prog_14_method_96_code 27 = .ok (.ireturn, 1) := by decide +kernel
theorem v_X12_isBest_0 {E : EE} {d : Nat} {Q : Option AV → AH → Prop} {x0 : Nat} {x1 : Int32} {x2 : Int32} {x3 : Int32} {G : AH} (h0 : 0 < d) (h : (x3 < 0 → Q (some (vi 0)) G) ∧ (¬ (x3 < 0) → isO E G x0 12 ∧ (wpI E (d - 1) M_X12_isGood [vr x0, vi x1, vi x2] G (fun r1 G2 => (r1 = 0 → Q (some (vi 0)) G2) ∧ (¬ (r1 = 0) → isO E G2 x0 12 ∧ (wpI E (d - 1) M_X12_isBetter [vr x0, vi x3, vi x2] G2 (fun r3 G4 => (¬ r3 = 0 → Q (some (vi 0)) G4) ∧ (r3 = 0 → Q (some (vi 1)) G4)))))))) : wp E d M_X12_isBest 0 [some (vr x0), some (vi x1), some (vi x2), some (vi x3)] [] G Q := by
  refine wp_iload_n (pc := 0) d_X12_isBest_0 rfl ?_
  refine wp_if_lt (pc := 1) (tgt := 26) d_X12_isBest_1 (by decide) (fun hc => ?_) (fun hc => ?_)
  · have h := h.1 hc
    refine wp_iconst (pc := 26) (v := 0) d_X12_isBest_26 rfl ?_
    exact wp_zret (pc := 27) d_X12_isBest_27 rfl rfl h
  · have h := h.2 hc
    refine wp_aload_n (pc := 4) d_X12_isBest_4 rfl ?_
    refine wp_iload_n (pc := 5) d_X12_isBest_5 rfl ?_
    refine wp_iload_n (pc := 6) d_X12_isBest_6 rfl ?_
    obtain ⟨ho6, h⟩ := h
    refine wp_invV (pc := 7) (N := M_X12_isGood) (As := [vi _, vi _]) (rest := []) (r := (cn_12, ct_12, 95)) d_X12_isBest_7 ml_X12_562 mk_X12_isGood mv_X12_isGood h0 ho6 rfl rfl (Nat.le_of_ble_eq_true rfl) ?_
    refine wpM.mono h (fun rr G2 hr => ?_)
    obtain ⟨r1, rfl, h⟩ := hr
    show wp E d M_X12_isBest 10 [some (vr _), some (vi _), some (vi _), some (vi _)] [vi _] G2 Q
    refine wp_if_eq (pc := 10) (tgt := 26) d_X12_isBest_10 (by decide) (fun hc => ?_) (fun hc => ?_)
    · have h := h.1 hc
      refine wp_iconst (pc := 26) (v := 0) d_X12_isBest_26 rfl ?_
      exact wp_zret (pc := 27) d_X12_isBest_27 rfl rfl h
    · have h := h.2 hc
      refine wp_aload_n (pc := 13) d_X12_isBest_13 rfl ?_
      refine wp_iload_n (pc := 14) d_X12_isBest_14 rfl ?_
      refine wp_iload_n (pc := 15) d_X12_isBest_15 rfl ?_
      obtain ⟨ho5, h⟩ := h
      refine wp_invV (pc := 16) (N := M_X12_isBetter) (As := [vi _, vi _]) (rest := []) (r := (cn_12, ct_12, 95)) d_X12_isBest_16 ml_X12_565 mk_X12_isBetter mv_X12_isBetter h0 ho5 rfl rfl (Nat.le_of_ble_eq_true rfl) ?_
      refine wpM.mono h (fun rr G4 hr => ?_)
      obtain ⟨r3, rfl, h⟩ := hr
      show wp E d M_X12_isBest 19 [some (vr _), some (vi _), some (vi _), some (vi _)] [vi _] G4 Q
      refine wp_if_ne (pc := 19) (tgt := 26) d_X12_isBest_19 (by decide) (fun hc => ?_) (fun hc => ?_)
      · have h := h.1 hc
        refine wp_iconst (pc := 26) (v := 0) d_X12_isBest_26 rfl ?_
        exact wp_zret (pc := 27) d_X12_isBest_27 rfl rfl h
      · have h := h.2 hc
        refine wp_iconst (pc := 22) (v := 1) d_X12_isBest_22 rfl ?_
        refine wp_goto (pc := 23) (tgt := 27) d_X12_isBest_23 (by decide) ?_
        exact wp_zret (pc := 27) d_X12_isBest_27 rfl rfl h
theorem d_X12_frontPlan_0 : decode prog_14_method_131_code 0 = .ok (.aload_n 0, 1) := by decide +kernel
theorem d_X12_frontPlan_1 : decode prog_14_method_131_code 1 = .ok (.iload_n 1, 1) := by decide +kernel
theorem d_X12_frontPlan_2 : decode prog_14_method_131_code 2 = .ok (.invokevirtual 453, 3) := by decide +kernel
theorem d_X12_frontPlan_5 : decode prog_14_method_131_code 5 = .ok (.ifCond .ne 5, 3) := by decide +kernel
theorem d_X12_frontPlan_8 : decode prog_14_method_131_code 8 = .ok (.iconst 0, 1) := by decide +kernel
theorem d_X12_frontPlan_9 : decode prog_14_method_131_code 9 = .ok (.ireturn, 1) := by decide +kernel
theorem d_X12_frontPlan_10 : decode prog_14_method_131_code 10 = .ok (.aload_n 0, 1) := by decide +kernel
theorem d_X12_frontPlan_11 : decode prog_14_method_131_code 11 = .ok (.iload_n 1, 1) := by decide +kernel
theorem d_X12_frontPlan_12 : decode prog_14_method_131_code 12 = .ok (.invokevirtual 571, 3) := by decide +kernel
theorem d_X12_frontPlan_15 : decode prog_14_method_131_code 15 = .ok (.aload_n 0, 1) := by decide +kernel
theorem d_X12_frontPlan_16 : decode prog_14_method_131_code 16 = .ok (.iload_n 1, 1) := by decide +kernel
theorem d_X12_frontPlan_17 : decode prog_14_method_131_code 17 = .ok (.iload_n 2, 1) := by decide +kernel
theorem d_X12_frontPlan_18 : decode prog_14_method_131_code 18 = .ok (.invokevirtual 622, 3) := by decide +kernel
theorem d_X12_frontPlan_21 : decode prog_14_method_131_code 21 = .ok (.ifCond .ne 5, 3) := by decide +kernel
theorem d_X12_frontPlan_24 : decode prog_14_method_131_code 24 = .ok (.iconst 0, 1) := by decide +kernel
theorem d_X12_frontPlan_25 : decode prog_14_method_131_code 25 = .ok (.ireturn, 1) := by decide +kernel
theorem d_X12_frontPlan_26 : decode prog_14_method_131_code 26 = .ok (.iconst 0, 1) := by decide +kernel
theorem d_X12_frontPlan_27 : decode prog_14_method_131_code 27 = .ok (.istore_n 3, 1) := by decide +kernel
theorem d_X12_frontPlan_28 : decode prog_14_method_131_code 28 = .ok (.aload_n 0, 1) := by decide +kernel
theorem d_X12_frontPlan_29 : decode prog_14_method_131_code 29 = .ok (.iload_n 1, 1) := by decide +kernel
theorem d_X12_frontPlan_30 : decode prog_14_method_131_code 30 = .ok (.iload_n 3, 1) := by decide +kernel
theorem d_X12_frontPlan_31 : decode prog_14_method_131_code 31 = .ok (.invokevirtual 625, 3) := by decide +kernel
theorem d_X12_frontPlan_34 : decode prog_14_method_131_code 34 = .ok (.ifCond .ne 9, 3) := by decide +kernel
theorem d_X12_frontPlan_37 : decode prog_14_method_131_code 37 = .ok (.iinc 3 1, 3) := by decide +kernel
theorem d_X12_frontPlan_40 : decode prog_14_method_131_code 40 = .ok (.goto (-12), 3) := by decide +kernel
theorem d_X12_frontPlan_43 : decode prog_14_method_131_code 43 = .ok (.aload_n 0, 1) := by decide +kernel
theorem d_X12_frontPlan_44 : decode prog_14_method_131_code 44 = .ok (.iload_n 1, 1) := by decide +kernel
theorem d_X12_frontPlan_45 : decode prog_14_method_131_code 45 = .ok (.iload_n 3, 1) := by decide +kernel
theorem d_X12_frontPlan_46 : decode prog_14_method_131_code 46 = .ok (.invokevirtual 595, 3) := by decide +kernel
theorem d_X12_frontPlan_49 : decode prog_14_method_131_code 49 = .ok (.iconst 1, 1) := by decide +kernel
theorem d_X12_frontPlan_50 : decode prog_14_method_131_code 50 = .ok (.ireturn, 1) := by decide +kernel
theorem v_X12_frontPlan_0 {E : EE} {d : Nat} {Q : Option AV → AH → Prop} {x0 : Nat} {x1 : Int32} {x2 : Int32} {G : AH} (h0 : 0 < d) (h : isO E G x0 12 ∧ (wpI E (d - 1) M_X12_isProblem [vr x0, vi x1] G (fun r1 G2 => (¬ r1 = 0 → isO E G2 x0 12 ∧ (wpV E (d - 1) M_X12_know [vr x0, vi x1] G2 (fun G3 => isO E G3 x0 12 ∧ (wpI E (d - 1) M_X12_findPair [vr x0, vi x1, vi x2] G3 (fun r4 G5 => (¬ r4 = 0 → wp E d M_X12_frontPlan 28 [some (vr x0), some (vi x1), some (vi x2), some (vi 0)] [] G5 Q) ∧ (r4 = 0 → Q (some (vi 0)) G5)))))) ∧ (r1 = 0 → Q (some (vi 0)) G2)))) : wp E d M_X12_frontPlan 0 [some (vr x0), some (vi x1), some (vi x2), none] [] G Q := by
  refine wp_aload_n (pc := 0) d_X12_frontPlan_0 rfl ?_
  refine wp_iload_n (pc := 1) d_X12_frontPlan_1 rfl ?_
  obtain ⟨ho8, h⟩ := h
  refine wp_invV (pc := 2) (N := M_X12_isProblem) (As := [vi _]) (rest := []) (r := (cn_12, ct_12, 95)) d_X12_frontPlan_2 ml_X12_453 mk_X12_isProblem mv_X12_isProblem h0 ho8 rfl rfl (Nat.le_of_ble_eq_true rfl) ?_
  refine wpM.mono h (fun rr G2 hr => ?_)
  obtain ⟨r1, rfl, h⟩ := hr
  show wp E d M_X12_frontPlan 5 [some (vr _), some (vi _), some (vi _), none] [vi _] G2 Q
  refine wp_if_ne (pc := 5) (tgt := 10) d_X12_frontPlan_5 (by decide) (fun hc => ?_) (fun hc => ?_)
  · have h := h.1 hc
    refine wp_aload_n (pc := 10) d_X12_frontPlan_10 rfl ?_
    refine wp_iload_n (pc := 11) d_X12_frontPlan_11 rfl ?_
    obtain ⟨ho7, h⟩ := h
    refine wp_invV (pc := 12) (N := M_X12_know) (As := [vi _]) (rest := []) (r := (cn_12, ct_12, 95)) d_X12_frontPlan_12 ml_X12_571 mk_X12_know mv_X12_know h0 ho7 rfl rfl (Nat.le_of_ble_eq_true rfl) ?_
    refine wpM.mono h (fun rr G3 hr => ?_)
    obtain ⟨rfl, h⟩ := hr
    show wp E d M_X12_frontPlan 15 [some (vr _), some (vi _), some (vi _), none] [] G3 Q
    refine wp_aload_n (pc := 15) d_X12_frontPlan_15 rfl ?_
    refine wp_iload_n (pc := 16) d_X12_frontPlan_16 rfl ?_
    refine wp_iload_n (pc := 17) d_X12_frontPlan_17 rfl ?_
    obtain ⟨ho6, h⟩ := h
    refine wp_invV (pc := 18) (N := M_X12_findPair) (As := [vi _, vi _]) (rest := []) (r := (cn_12, ct_12, 95)) d_X12_frontPlan_18 ml_X12_622 mk_X12_findPair mv_X12_findPair h0 ho6 rfl rfl (Nat.le_of_ble_eq_true rfl) ?_
    refine wpM.mono h (fun rr G5 hr => ?_)
    obtain ⟨r4, rfl, h⟩ := hr
    show wp E d M_X12_frontPlan 21 [some (vr _), some (vi _), some (vi _), none] [vi _] G5 Q
    refine wp_if_ne (pc := 21) (tgt := 26) d_X12_frontPlan_21 (by decide) (fun hc => ?_) (fun hc => ?_)
    · have h := h.1 hc
      refine wp_iconst (pc := 26) (v := 0) d_X12_frontPlan_26 rfl ?_
      refine wp_istore_n (pc := 27) (lv' := [some (vr _), some (vi _), some (vi _), some (vi _)]) d_X12_frontPlan_27 (by decide) rfl ?_
      refine wp_sub ?_ h
      exact ⟨rfl, ⟨rfl, ⟨rfl, ⟨rfl, trivial⟩⟩⟩⟩
    · have h := h.2 hc
      refine wp_iconst (pc := 24) (v := 0) d_X12_frontPlan_24 rfl ?_
      exact wp_zret (pc := 25) d_X12_frontPlan_25 rfl rfl h
  · have h := h.2 hc
    refine wp_iconst (pc := 8) (v := 0) d_X12_frontPlan_8 rfl ?_
    exact wp_zret (pc := 9) d_X12_frontPlan_9 rfl rfl h
theorem v_X12_frontPlan_28 {E : EE} {d : Nat} {Q : Option AV → AH → Prop} {x0 : Nat} {x1 : Int32} {x2 : Int32} {x3 : Int32} {G : AH} (h0 : 0 < d) (h : isO E G x0 12 ∧ (wpI E (d - 1) M_X12_isPair [vr x0, vi x1, vi x3] G (fun r1 G2 => (¬ r1 = 0 → isO E G2 x0 12 ∧ (wpV E (d - 1) M_X12_putAtHand [vr x0, vi x1, vi x3] G2 (fun G3 => Q (some (vi 1)) G3))) ∧ (r1 = 0 → wp E d M_X12_frontPlan 28 [some (vr x0), some (vi x1), some (vi x2), some (vi (x3 + 1))] [] G2 Q)))) : wp E d M_X12_frontPlan 28 [some (vr x0), some (vi x1), some (vi x2), some (vi x3)] [] G Q := by
  refine wp_aload_n (pc := 28) d_X12_frontPlan_28 rfl ?_
  refine wp_iload_n (pc := 29) d_X12_frontPlan_29 rfl ?_
  refine wp_iload_n (pc := 30) d_X12_frontPlan_30 rfl ?_
  obtain ⟨ho5, h⟩ := h
  refine wp_invV (pc := 31) (N := M_X12_isPair) (As := [vi _, vi _]) (rest := []) (r := (cn_12, ct_12, 95)) d_X12_frontPlan_31 ml_X12_625 mk_X12_isPair mv_X12_isPair h0 ho5 rfl rfl (Nat.le_of_ble_eq_true rfl) ?_
  refine wpM.mono h (fun rr G2 hr => ?_)
  obtain ⟨r1, rfl, h⟩ := hr
  show wp E d M_X12_frontPlan 34 [some (vr _), some (vi _), some (vi _), some (vi _)] [vi _] G2 Q
  refine wp_if_ne (pc := 34) (tgt := 43) d_X12_frontPlan_34 (by decide) (fun hc => ?_) (fun hc => ?_)
  · have h := h.1 hc
    refine wp_aload_n (pc := 43) d_X12_frontPlan_43 rfl ?_
    refine wp_iload_n (pc := 44) d_X12_frontPlan_44 rfl ?_
    refine wp_iload_n (pc := 45) d_X12_frontPlan_45 rfl ?_
    obtain ⟨ho4, h⟩ := h
    refine wp_invV (pc := 46) (N := M_X12_putAtHand) (As := [vi _, vi _]) (rest := []) (r := (cn_12, ct_12, 95)) d_X12_frontPlan_46 ml_X12_595 mk_X12_putAtHand mv_X12_putAtHand h0 ho4 rfl rfl (Nat.le_of_ble_eq_true rfl) ?_
    refine wpM.mono h (fun rr G3 hr => ?_)
    obtain ⟨rfl, h⟩ := hr
    show wp E d M_X12_frontPlan 49 [some (vr _), some (vi _), some (vi _), some (vi _)] [] G3 Q
    refine wp_iconst (pc := 49) (v := 1) d_X12_frontPlan_49 rfl ?_
    exact wp_zret (pc := 50) d_X12_frontPlan_50 rfl rfl h
  · have h := h.2 hc
    refine wp_iinc (pc := 37) (v := 1) (lv' := [some (vr _), some (vi _), some (vi _), some (vi _)]) d_X12_frontPlan_37 (by decide) rfl rfl rfl ?_
    refine wp_goto (pc := 40) (tgt := 28) d_X12_frontPlan_40 (by decide) ?_
    refine wp_sub ?_ h
    exact ⟨rfl, ⟨rfl, ⟨rfl, ⟨rfl, trivial⟩⟩⟩⟩
theorem d_X12_findPair_0 : decode prog_14_method_127_code 0 = .ok (.iload_n 2, 1) := by decide +kernel
theorem d_X12_findPair_1 : decode prog_14_method_127_code 1 = .ok (.ifCond .lt 17, 3) := by decide +kernel
theorem d_X12_findPair_4 : decode prog_14_method_127_code 4 = .ok (.aload_n 0, 1) := by decide +kernel
theorem d_X12_findPair_5 : decode prog_14_method_127_code 5 = .ok (.iload_n 1, 1) := by decide +kernel
theorem d_X12_findPair_6 : decode prog_14_method_127_code 6 = .ok (.iconst 0, 1) := by decide +kernel
theorem d_X12_findPair_7 : decode prog_14_method_127_code 7 = .ok (.lconst 0, 1) := by decide +kernel
theorem d_X12_findPair_8 : decode prog_14_method_127_code 8 = .ok (.invokevirtual 618, 3) := by decide +kernel
theorem d_X12_findPair_11 : decode prog_14_method_127_code 11 = .ok (.ifCond .eq 7, 3) := by decide +kernel
theorem d_X12_findPair_14 : decode prog_14_method_127_code 14 = .ok (.iconst 1, 1) := by decide +kernel
theorem d_X12_findPair_15 : decode prog_14_method_127_code 15 = .ok (.goto 4, 3) := by decide +kernel
theorem d_X12_findPair_18 : decode prog_14_method_127_code 18 = .ok (.iconst 0, 1) := by decide +kernel
theorem d_X12_findPair_19 : decode prog_14_method_127_code 19 = .ok (.istore_n 3, 1) := by decide +kernel
theorem d_X12_findPair_20 : decode prog_14_method_127_code 20 = .ok (.iconst 0, 1) := by decide +kernel
theorem d_X12_findPair_21 : decode prog_14_method_127_code 21 = .ok (.istore 4, 2) := by decide +kernel
theorem d_X12_findPair_23 : decode prog_14_method_127_code 23 = .ok (.iload_n 3, 1) := by decide +kernel
theorem d_X12_findPair_24 : decode prog_14_method_127_code 24 = .ok (.ifCond .eq 26, 3) := by decide +kernel
theorem d_X12_findPair_27 : decode prog_14_method_127_code 27 = .ok (.iload 4, 2) := by decide +kernel
theorem d_X12_findPair_29 : decode prog_14_method_127_code 29 = .ok (.iload_n 2, 1) := by decide +kernel
theorem d_X12_findPair_30 : decode prog_14_method_127_code 30 = .ok (.if_icmp .ge 20, 3) := by decide +kernel
theorem d_X12_findPair_33 : decode prog_14_method_127_code 33 = .ok (.aload_n 0, 1) := by decide +kernel
theorem d_X12_findPair_34 : decode prog_14_method_127_code 34 = .ok (.iload_n 1, 1) := by decide +kernel
theorem d_X12_findPair_35 : decode prog_14_method_127_code 35 = .ok (.iconst 1, 1) := by decide +kernel
theorem d_X12_findPair_36 : decode prog_14_method_127_code 36 = .ok (.aload_n 0, 1) := by decide +kernel
theorem d_X12_findPair_37 : decode prog_14_method_127_code 37 = .ok (.getfield 615, 3) := by decide +kernel
theorem d_X12_findPair_40 : decode prog_14_method_127_code 40 = .ok (.invokevirtual 618, 3) := by decide +kernel
theorem d_X12_findPair_43 : decode prog_14_method_127_code 43 = .ok (.istore_n 3, 1) := by decide +kernel
theorem d_X12_findPair_44 : decode prog_14_method_127_code 44 = .ok (.iinc 4 1, 3) := by decide +kernel
theorem d_X12_findPair_47 : decode prog_14_method_127_code 47 = .ok (.goto (-24), 3) := by decide +kernel
theorem d_X12_findPair_50 : decode prog_14_method_127_code 50 = .ok (.iload_n 3, 1) := by decide +kernel
theorem d_X12_findPair_51 : decode prog_14_method_127_code 51 = .ok (.ireturn, 1) := by decide +kernel
theorem v_X12_findPair_0 {E : EE} {d : Nat} {Q : Option AV → AH → Prop} {x0 : Nat} {x1 : Int32} {x2 : Int32} {G : AH} (h0 : 0 < d) (h : (x2 < 0 → wp E d M_X12_findPair 18 [some (vr x0), some (vi x1), some (vi x2), none, none] [] G Q) ∧ (¬ (x2 < 0) → isO E G x0 12 ∧ (wpI E (d - 1) M_X12_nextPair [vr x0, vi x1, vi 0, vj 0] G (fun r1 G2 => (r1 = 0 → wp E d M_X12_findPair 18 [some (vr x0), some (vi x1), some (vi x2), none, none] [] G2 Q) ∧ (¬ (r1 = 0) → wp E d M_X12_findPair 19 [some (vr x0), some (vi x1), some (vi x2), none, none] [vi 1] G2 Q))))) : wp E d M_X12_findPair 0 [some (vr x0), some (vi x1), some (vi x2), none, none] [] G Q := by
  refine wp_iload_n (pc := 0) d_X12_findPair_0 rfl ?_
  refine wp_if_lt (pc := 1) (tgt := 18) d_X12_findPair_1 (by decide) (fun hc => ?_) (fun hc => ?_)
  · have h := h.1 hc
    refine wp_sub ?_ h
    exact ⟨rfl, ⟨rfl, ⟨rfl, trivial⟩⟩⟩
  · have h := h.2 hc
    refine wp_aload_n (pc := 4) d_X12_findPair_4 rfl ?_
    refine wp_iload_n (pc := 5) d_X12_findPair_5 rfl ?_
    refine wp_iconst (pc := 6) (v := 0) d_X12_findPair_6 rfl ?_
    refine wp_lconst (pc := 7) (v := 0) d_X12_findPair_7 rfl ?_
    obtain ⟨ho3, h⟩ := h
    refine wp_invV (pc := 8) (N := M_X12_nextPair) (As := [vi _, vi _, vj _]) (rest := []) (r := (cn_12, ct_12, 95)) d_X12_findPair_8 ml_X12_618 mk_X12_nextPair mv_X12_nextPair h0 ho3 rfl rfl (Nat.le_of_ble_eq_true rfl) ?_
    refine wpM.mono h (fun rr G2 hr => ?_)
    obtain ⟨r1, rfl, h⟩ := hr
    show wp E d M_X12_findPair 11 [some (vr _), some (vi _), some (vi _), none, none] [vi _] G2 Q
    refine wp_if_eq (pc := 11) (tgt := 18) d_X12_findPair_11 (by decide) (fun hc => ?_) (fun hc => ?_)
    · have h := h.1 hc
      refine wp_sub ?_ h
      exact ⟨rfl, ⟨rfl, ⟨rfl, trivial⟩⟩⟩
    · have h := h.2 hc
      refine wp_iconst (pc := 14) (v := 1) d_X12_findPair_14 rfl ?_
      refine wp_goto (pc := 15) (tgt := 19) d_X12_findPair_15 (by decide) ?_
      refine wp_sub ?_ h
      exact ⟨rfl, ⟨rfl, ⟨rfl, trivial⟩⟩⟩
theorem v_X12_findPair_18 {E : EE} {d : Nat} {Q : Option AV → AH → Prop} {x0 : Nat} {x1 : Int32} {x2 : Int32} {G : AH} (h : wp E d M_X12_findPair 19 [some (vr x0), some (vi x1), some (vi x2), none, none] [vi 0] G Q) : wp E d M_X12_findPair 18 [some (vr x0), some (vi x1), some (vi x2), none, none] [] G Q := by
  refine wp_iconst (pc := 18) (v := 0) d_X12_findPair_18 rfl ?_
  refine wp_sub ?_ h
  exact ⟨rfl, ⟨rfl, ⟨rfl, trivial⟩⟩⟩
theorem v_X12_findPair_19 {E : EE} {d : Nat} {Q : Option AV → AH → Prop} {x0 : Nat} {x1 : Int32} {x2 : Int32} {t0 : Int32} {G : AH} (h : wp E d M_X12_findPair 23 [some (vr x0), some (vi x1), some (vi x2), some (vi t0), some (vi 0)] [] G Q) : wp E d M_X12_findPair 19 [some (vr x0), some (vi x1), some (vi x2), none, none] [vi t0] G Q := by
  refine wp_istore_n (pc := 19) (lv' := [some (vr _), some (vi _), some (vi _), some (vi _), none]) d_X12_findPair_19 (by decide) rfl ?_
  refine wp_iconst (pc := 20) (v := 0) d_X12_findPair_20 rfl ?_
  refine wp_istore (pc := 21) (lv' := [some (vr _), some (vi _), some (vi _), some (vi _), some (vi _)]) d_X12_findPair_21 (by decide) rfl ?_
  refine wp_sub ?_ h
  exact ⟨rfl, ⟨rfl, ⟨rfl, ⟨rfl, ⟨rfl, trivial⟩⟩⟩⟩⟩
theorem v_X12_findPair_23 {E : EE} {d : Nat} {Q : Option AV → AH → Prop} {x0 : Nat} {x1 : Int32} {x2 : Int32} {x3 : Int32} {x4 : Int32} {G : AH} (h0 : 0 < d) (h : (x3 = 0 → okI .boolean x3 ∧ Q (some (vi x3)) G) ∧ (¬ (x3 = 0) → (x2 ≤ x4 → okI .boolean x3 ∧ Q (some (vi x3)) G) ∧ (¬ (x2 ≤ x4) → isO E G x0 12 ∧ (wpI E (d - 1) M_X12_nextPair [vr x0, vi x1, vi 1, vj (gJ G x0 70)] G (fun r2 G3 => wp E d M_X12_findPair 23 [some (vr x0), some (vi x1), some (vi x2), some (vi r2), some (vi (x4 + 1))] [] G3 Q))))) : wp E d M_X12_findPair 23 [some (vr x0), some (vi x1), some (vi x2), some (vi x3), some (vi x4)] [] G Q := by
  refine wp_iload_n (pc := 23) d_X12_findPair_23 rfl ?_
  refine wp_if_eq (pc := 24) (tgt := 50) d_X12_findPair_24 (by decide) (fun hc => ?_) (fun hc => ?_)
  · have h := h.1 hc
    refine wp_iload_n (pc := 50) d_X12_findPair_50 rfl ?_
    exact wp_zret (pc := 51) d_X12_findPair_51 rfl h.1.1 h.2
  · have h := h.2 hc
    refine wp_iload (pc := 27) d_X12_findPair_27 rfl ?_
    refine wp_iload_n (pc := 29) d_X12_findPair_29 rfl ?_
    refine wp_icmp_ge (pc := 30) (tgt := 50) d_X12_findPair_30 (by decide) (fun hc => ?_) (fun hc => ?_)
    · have h := h.1 hc
      refine wp_iload_n (pc := 50) d_X12_findPair_50 rfl ?_
      exact wp_zret (pc := 51) d_X12_findPair_51 rfl h.1.1 h.2
    · have h := h.2 hc
      refine wp_aload_n (pc := 33) d_X12_findPair_33 rfl ?_
      refine wp_iload_n (pc := 34) d_X12_findPair_34 rfl ?_
      refine wp_iconst (pc := 35) (v := 1) d_X12_findPair_35 rfl ?_
      refine wp_aload_n (pc := 36) d_X12_findPair_36 rfl ?_
      obtain ⟨ho1, h⟩ := h
      refine wp_getJ (pc := 37) d_X12_findPair_37 fl_X12_615 (fun _ _ _ => rfl) ho1 ?_
      refine wp_invV (pc := 40) (N := M_X12_nextPair) (As := [vi _, vi _, vj _]) (rest := []) (r := (cn_12, ct_12, 95)) d_X12_findPair_40 ml_X12_618 mk_X12_nextPair mv_X12_nextPair h0 ho1 rfl rfl (Nat.le_of_ble_eq_true rfl) ?_
      refine wpM.mono h (fun rr G3 hr => ?_)
      obtain ⟨r2, rfl, h⟩ := hr
      show wp E d M_X12_findPair 43 [some (vr _), some (vi _), some (vi _), some (vi _), some (vi _)] [vi _] G3 Q
      refine wp_istore_n (pc := 43) (lv' := [some (vr _), some (vi _), some (vi _), some (vi _), some (vi _)]) d_X12_findPair_43 (by decide) rfl ?_
      refine wp_iinc (pc := 44) (v := 1) (lv' := [some (vr _), some (vi _), some (vi _), some (vi _), some (vi _)]) d_X12_findPair_44 (by decide) rfl rfl rfl ?_
      refine wp_goto (pc := 47) (tgt := 23) d_X12_findPair_47 (by decide) ?_
      refine wp_sub ?_ h
      exact ⟨rfl, ⟨rfl, ⟨rfl, ⟨rfl, ⟨rfl, trivial⟩⟩⟩⟩⟩
theorem d_X12_nextPair_0 : decode prog_14_method_126_code 0 = .ok (.iconst 0, 1) := by decide +kernel
theorem d_X12_nextPair_1 : decode prog_14_method_126_code 1 = .ok (.istore 5, 2) := by decide +kernel
theorem d_X12_nextPair_3 : decode prog_14_method_126_code 3 = .ok (.iconst 0, 1) := by decide +kernel
theorem d_X12_nextPair_4 : decode prog_14_method_126_code 4 = .ok (.istore 6, 2) := by decide +kernel
theorem d_X12_nextPair_6 : decode prog_14_method_126_code 6 = .ok (.iload 6, 2) := by decide +kernel
theorem d_X12_nextPair_8 : decode prog_14_method_126_code 8 = .ok (.aload_n 0, 1) := by decide +kernel
theorem d_X12_nextPair_9 : decode prog_14_method_126_code 9 = .ok (.getfield 82, 3) := by decide +kernel
theorem d_X12_nextPair_12 : decode prog_14_method_126_code 12 = .ok (.iload_n 1, 1) := by decide +kernel
theorem d_X12_nextPair_13 : decode prog_14_method_126_code 13 = .ok (.iaload, 1) := by decide +kernel
theorem d_X12_nextPair_14 : decode prog_14_method_126_code 14 = .ok (.if_icmp .ge 105, 3) := by decide +kernel
theorem d_X12_nextPair_17 : decode prog_14_method_126_code 17 = .ok (.aload_n 0, 1) := by decide +kernel
theorem d_X12_nextPair_18 : decode prog_14_method_126_code 18 = .ok (.getfield 159, 3) := by decide +kernel
theorem d_X12_nextPair_21 : decode prog_14_method_126_code 21 = .ok (.sipush 20000, 3) := by decide +kernel
theorem d_X12_nextPair_24 : decode prog_14_method_126_code 24 = .ok (.iload 6, 2) := by decide +kernel
theorem d_X12_nextPair_26 : decode prog_14_method_126_code 26 = .ok (.iadd, 1) := by decide +kernel
theorem d_X12_nextPair_27 : decode prog_14_method_126_code 27 = .ok (.laload, 1) := by decide +kernel
theorem d_X12_nextPair_28 : decode prog_14_method_126_code 28 = .ok (.lstore 7, 2) := by decide +kernel
theorem d_X12_nextPair_30 : decode prog_14_method_126_code 30 = .ok (.aload_n 0, 1) := by decide +kernel
theorem d_X12_nextPair_31 : decode prog_14_method_126_code 31 = .ok (.getfield 159, 3) := by decide +kernel
theorem d_X12_nextPair_34 : decode prog_14_method_126_code 34 = .ok (.ldc 174, 2) := by decide +kernel
theorem d_X12_nextPair_36 : decode prog_14_method_126_code 36 = .ok (.iload 6, 2) := by decide +kernel
theorem d_X12_nextPair_38 : decode prog_14_method_126_code 38 = .ok (.iadd, 1) := by decide +kernel
theorem d_X12_nextPair_39 : decode prog_14_method_126_code 39 = .ok (.laload, 1) := by decide +kernel
theorem d_X12_nextPair_40 : decode prog_14_method_126_code 40 = .ok (.lstore 9, 2) := by decide +kernel
theorem d_X12_nextPair_42 : decode prog_14_method_126_code 42 = .ok (.aload_n 0, 1) := by decide +kernel
theorem d_X12_nextPair_43 : decode prog_14_method_126_code 43 = .ok (.iload_n 1, 1) := by decide +kernel
theorem d_X12_nextPair_44 : decode prog_14_method_126_code 44 = .ok (.iload 6, 2) := by decide +kernel
theorem d_X12_nextPair_46 : decode prog_14_method_126_code 46 = .ok (.invokevirtual 562, 3) := by decide +kernel
theorem d_X12_nextPair_49 : decode prog_14_method_126_code 49 = .ok (.ifCond .eq 64, 3) := by decide +kernel
theorem d_X12_nextPair_52 : decode prog_14_method_126_code 52 = .ok (.iload_n 2, 1) := by decide +kernel
theorem d_X12_nextPair_53 : decode prog_14_method_126_code 53 = .ok (.ifCond .eq 10, 3) := by decide +kernel
theorem d_X12_nextPair_56 : decode prog_14_method_126_code 56 = .ok (.lload 9, 2) := by decide +kernel
theorem d_X12_nextPair_58 : decode prog_14_method_126_code 58 = .ok (.lload_n 3, 1) := by decide +kernel
theorem d_X12_nextPair_59 : decode prog_14_method_126_code 59 = .ok (.lcmp, 1) := by decide +kernel
theorem d_X12_nextPair_60 : decode prog_14_method_126_code 60 = .ok (.ifCond .ge 53, 3) := by decide +kernel
theorem d_X12_nextPair_63 : decode prog_14_method_126_code 63 = .ok (.iload 5, 2) := by decide +kernel
theorem d_X12_nextPair_65 : decode prog_14_method_126_code 65 = .ok (.ifCond .eq 33, 3) := by decide +kernel
theorem d_X12_nextPair_68 : decode prog_14_method_126_code 68 = .ok (.lload 7, 2) := by decide +kernel
theorem d_X12_nextPair_70 : decode prog_14_method_126_code 70 = .ok (.aload_n 0, 1) := by decide +kernel
theorem d_X12_nextPair_71 : decode prog_14_method_126_code 71 = .ok (.getfield 612, 3) := by decide +kernel
theorem d_X12_nextPair_74 : decode prog_14_method_126_code 74 = .ok (.lcmp, 1) := by decide +kernel
theorem d_X12_nextPair_75 : decode prog_14_method_126_code 75 = .ok (.ifCond .lt 23, 3) := by decide +kernel
theorem d_X12_nextPair_78 : decode prog_14_method_126_code 78 = .ok (.lload 7, 2) := by decide +kernel
theorem d_X12_nextPair_80 : decode prog_14_method_126_code 80 = .ok (.aload_n 0, 1) := by decide +kernel
theorem d_X12_nextPair_81 : decode prog_14_method_126_code 81 = .ok (.getfield 612, 3) := by decide +kernel
theorem d_X12_nextPair_84 : decode prog_14_method_126_code 84 = .ok (.lcmp, 1) := by decide +kernel
theorem d_X12_nextPair_85 : decode prog_14_method_126_code 85 = .ok (.ifCond .ne 28, 3) := by decide +kernel
theorem d_X12_nextPair_88 : decode prog_14_method_126_code 88 = .ok (.lload 9, 2) := by decide +kernel
theorem d_X12_nextPair_90 : decode prog_14_method_126_code 90 = .ok (.aload_n 0, 1) := by decide +kernel
theorem d_X12_nextPair_91 : decode prog_14_method_126_code 91 = .ok (.getfield 615, 3) := by decide +kernel
theorem d_X12_nextPair_94 : decode prog_14_method_126_code 94 = .ok (.lcmp, 1) := by decide +kernel
theorem d_X12_nextPair_95 : decode prog_14_method_126_code 95 = .ok (.ifCond .ge 18, 3) := by decide +kernel
theorem d_X12_nextPair_98 : decode prog_14_method_126_code 98 = .ok (.iconst 1, 1) := by decide +kernel
theorem d_X12_nextPair_99 : decode prog_14_method_126_code 99 = .ok (.istore 5, 2) := by decide +kernel
theorem d_X12_nextPair_101 : decode prog_14_method_126_code 101 = .ok (.aload_n 0, 1) := by decide +kernel
theorem d_X12_nextPair_102 : decode prog_14_method_126_code 102 = .ok (.lload 7, 2) := by decide +kernel
theorem d_X12_nextPair_104 : decode prog_14_method_126_code 104 = .ok (.putfield 612, 3) := by decide +kernel
theorem d_X12_nextPair_107 : decode prog_14_method_126_code 107 = .ok (.aload_n 0, 1) := by decide +kernel
theorem d_X12_nextPair_108 : decode prog_14_method_126_code 108 = .ok (.lload 9, 2) := by decide +kernel
theorem d_X12_nextPair_110 : decode prog_14_method_126_code 110 = .ok (.putfield 615, 3) := by decide +kernel
theorem d_X12_nextPair_113 : decode prog_14_method_126_code 113 = .ok (.iinc 6 1, 3) := by decide +kernel
theorem d_X12_nextPair_116 : decode prog_14_method_126_code 116 = .ok (.goto (-110), 3) := by decide +kernel
theorem d_X12_nextPair_119 : decode prog_14_method_126_code 119 = .ok (.iload 5, 2) := by decide +kernel
theorem d_X12_nextPair_121 : decode prog_14_method_126_code 121 = .ok (.ireturn, 1) := by decide +kernel
theorem v_X12_nextPair_0 {E : EE} {d : Nat} {Q : Option AV → AH → Prop} {x0 : Nat} {x1 : Int32} {x2 : Int32} {x3 : Int64} {G : AH} (h : wp E d M_X12_nextPair 6 [some (vr x0), some (vi x1), some (vi x2), some (vj x3), none, some (vi 0), some (vi 0), none, none, none, none] [] G Q) : wp E d M_X12_nextPair 0 [some (vr x0), some (vi x1), some (vi x2), some (vj x3), none, none, none, none, none, none, none] [] G Q := by
  refine wp_iconst (pc := 0) (v := 0) d_X12_nextPair_0 rfl ?_
  refine wp_istore (pc := 1) (lv' := [some (vr _), some (vi _), some (vi _), some (vj _), none, some (vi _), none, none, none, none, none]) d_X12_nextPair_1 (by decide) rfl ?_
  refine wp_iconst (pc := 3) (v := 0) d_X12_nextPair_3 rfl ?_
  refine wp_istore (pc := 4) (lv' := [some (vr _), some (vi _), some (vi _), some (vj _), none, some (vi _), some (vi _), none, none, none, none]) d_X12_nextPair_4 (by decide) rfl ?_
  refine wp_sub ?_ h
  exact ⟨rfl, ⟨rfl, ⟨rfl, ⟨rfl, ⟨rfl, ⟨rfl, trivial⟩⟩⟩⟩⟩⟩
theorem v_X12_nextPair_6 {E : EE} {d : Nat} {Q : Option AV → AH → Prop} {x0 : Nat} {x1 : Int32} {x2 : Int32} {x3 : Int64} {x5 : Int32} {x6 : Int32} {G : AH} (h0 : 0 < d) (h : isO E G x0 12 ∧ (isO E G (gR G x0 25) 14 ∧ (vp_in x1 (gN G (gR G x0 25)) ∧ (((gI G (gR G x0 25) (Int32.toNatClampNeg x1)) ≤ x6 → okI .boolean x5 ∧ Q (some (vi x5)) G) ∧ (¬ ((gI G (gR G x0 25) (Int32.toNatClampNeg x1)) ≤ x6) → isO E G (gR G x0 66) 15 ∧ (vp_in (20000 + x6) (gN G (gR G x0 66)) ∧ (vp_in (40000 + x6) (gN G (gR G x0 66)) ∧ (wpI E (d - 1) M_X12_isGood [vr x0, vi x1, vi x6] G (fun r7 G8 => (r7 = 0 → wp E d M_X12_nextPair 113 [some (vr x0), some (vi x1), some (vi x2), some (vj x3), none, some (vi x5), some (vi x6), some (vj (gJ G (gR G x0 66) (Int32.toNatClampNeg (20000 + x6)))), none, some (vj (gJ G (gR G x0 66) (Int32.toNatClampNeg (40000 + x6)))), none] [] G8 Q) ∧ (¬ (r7 = 0) → (x2 = 0 → wp E d M_X12_nextPair 63 [some (vr x0), some (vi x1), some (vi x2), some (vj x3), none, some (vi x5), some (vi x6), some (vj (gJ G (gR G x0 66) (Int32.toNatClampNeg (20000 + x6)))), none, some (vj (gJ G (gR G x0 66) (Int32.toNatClampNeg (40000 + x6)))), none] [] G8 Q) ∧ (¬ (x2 = 0) → (x3 ≤ (gJ G (gR G x0 66) (Int32.toNatClampNeg (40000 + x6))) → wp E d M_X12_nextPair 113 [some (vr x0), some (vi x1), some (vi x2), some (vj x3), none, some (vi x5), some (vi x6), some (vj (gJ G (gR G x0 66) (Int32.toNatClampNeg (20000 + x6)))), none, some (vj (gJ G (gR G x0 66) (Int32.toNatClampNeg (40000 + x6)))), none] [] G8 Q) ∧ (¬ (x3 ≤ (gJ G (gR G x0 66) (Int32.toNatClampNeg (40000 + x6)))) → wp E d M_X12_nextPair 63 [some (vr x0), some (vi x1), some (vi x2), some (vj x3), none, some (vi x5), some (vi x6), some (vj (gJ G (gR G x0 66) (Int32.toNatClampNeg (20000 + x6)))), none, some (vj (gJ G (gR G x0 66) (Int32.toNatClampNeg (40000 + x6)))), none] [] G8 Q)))))))))))) : wp E d M_X12_nextPair 6 [some (vr x0), some (vi x1), some (vi x2), some (vj x3), none, some (vi x5), some (vi x6), none, none, none, none] [] G Q := by
  refine wp_iload (pc := 6) d_X12_nextPair_6 rfl ?_
  refine wp_aload_n (pc := 8) d_X12_nextPair_8 rfl ?_
  obtain ⟨ho1, h⟩ := h
  refine wp_getR (pc := 9) d_X12_nextPair_9 fl_X12_82 (fun _ _ _ => rfl) ho1 ?_
  refine wp_iload_n (pc := 12) d_X12_nextPair_12 rfl ?_
  obtain ⟨ho2, h⟩ := h
  obtain ⟨hi3, h⟩ := h
  refine wp_iald (pc := 13) d_X12_nextPair_13 ho2 hi3 ?_
  refine wp_icmp_ge (pc := 14) (tgt := 119) d_X12_nextPair_14 (by decide) (fun hc => ?_) (fun hc => ?_)
  · have h := h.1 hc
    refine wp_iload (pc := 119) d_X12_nextPair_119 rfl ?_
    exact wp_zret (pc := 121) d_X12_nextPair_121 rfl h.1.1 h.2
  · have h := h.2 hc
    refine wp_aload_n (pc := 17) d_X12_nextPair_17 rfl ?_
    refine wp_getR (pc := 18) d_X12_nextPair_18 fl_X12_159 (fun _ _ _ => rfl) ho1 ?_
    refine wp_sipush (pc := 21) (v := 20000) d_X12_nextPair_21 rfl ?_
    refine wp_iload (pc := 24) d_X12_nextPair_24 rfl ?_
    refine wp_iadd (pc := 26) d_X12_nextPair_26 ?_
    obtain ⟨ho4, h⟩ := h
    obtain ⟨hi5, h⟩ := h
    refine wp_lald (pc := 27) d_X12_nextPair_27 ho4 hi5 ?_
    refine wp_lstore (pc := 28) (lv' := [some (vr _), some (vi _), some (vi _), some (vj _), none, some (vi _), some (vi _), some (vj _), none, none, none]) d_X12_nextPair_28 (by decide) rfl ?_
    refine wp_aload_n (pc := 30) d_X12_nextPair_30 rfl ?_
    refine wp_getR (pc := 31) d_X12_nextPair_31 fl_X12_159 (fun _ _ _ => rfl) ho1 ?_
    refine wp_ldc (pc := 34) (v := 40000) d_X12_nextPair_34 ci_X12_174 ?_
    refine wp_iload (pc := 36) d_X12_nextPair_36 rfl ?_
    refine wp_iadd (pc := 38) d_X12_nextPair_38 ?_
    obtain ⟨hi6, h⟩ := h
    refine wp_lald (pc := 39) d_X12_nextPair_39 ho4 hi6 ?_
    refine wp_lstore (pc := 40) (lv' := [some (vr _), some (vi _), some (vi _), some (vj _), none, some (vi _), some (vi _), some (vj _), none, some (vj _), none]) d_X12_nextPair_40 (by decide) rfl ?_
    refine wp_aload_n (pc := 42) d_X12_nextPair_42 rfl ?_
    refine wp_iload_n (pc := 43) d_X12_nextPair_43 rfl ?_
    refine wp_iload (pc := 44) d_X12_nextPair_44 rfl ?_
    refine wp_invV (pc := 46) (N := M_X12_isGood) (As := [vi _, vi _]) (rest := []) (r := (cn_12, ct_12, 95)) d_X12_nextPair_46 ml_X12_562 mk_X12_isGood mv_X12_isGood h0 ho1 rfl rfl (Nat.le_of_ble_eq_true rfl) ?_
    refine wpM.mono h (fun rr G8 hr => ?_)
    obtain ⟨r7, rfl, h⟩ := hr
    show wp E d M_X12_nextPair 49 [some (vr _), some (vi _), some (vi _), some (vj _), none, some (vi _), some (vi _), some (vj _), none, some (vj _), none] [vi _] G8 Q
    refine wp_if_eq (pc := 49) (tgt := 113) d_X12_nextPair_49 (by decide) (fun hc => ?_) (fun hc => ?_)
    · have h := h.1 hc
      refine wp_sub ?_ h
      exact ⟨rfl, ⟨rfl, ⟨rfl, ⟨rfl, ⟨rfl, ⟨rfl, ⟨rfl, ⟨rfl, trivial⟩⟩⟩⟩⟩⟩⟩⟩
    · have h := h.2 hc
      refine wp_iload_n (pc := 52) d_X12_nextPair_52 rfl ?_
      refine wp_if_eq (pc := 53) (tgt := 63) d_X12_nextPair_53 (by decide) (fun hc => ?_) (fun hc => ?_)
      · have h := h.1 hc
        refine wp_sub ?_ h
        exact ⟨rfl, ⟨rfl, ⟨rfl, ⟨rfl, ⟨rfl, ⟨rfl, ⟨rfl, ⟨rfl, trivial⟩⟩⟩⟩⟩⟩⟩⟩
      · have h := h.2 hc
        refine wp_lload (pc := 56) d_X12_nextPair_56 rfl ?_
        refine wp_lload_n (pc := 58) d_X12_nextPair_58 rfl ?_
        refine wp_lcmp_ge (pc := 59) (tgt := 113) d_X12_nextPair_59 d_X12_nextPair_60 (by decide) (fun hc => ?_) (fun hc => ?_)
        · have h := h.1 hc
          refine wp_sub ?_ h
          exact ⟨rfl, ⟨rfl, ⟨rfl, ⟨rfl, ⟨rfl, ⟨rfl, ⟨rfl, ⟨rfl, trivial⟩⟩⟩⟩⟩⟩⟩⟩
        · have h := h.2 hc
          refine wp_sub ?_ h
          exact ⟨rfl, ⟨rfl, ⟨rfl, ⟨rfl, ⟨rfl, ⟨rfl, ⟨rfl, ⟨rfl, trivial⟩⟩⟩⟩⟩⟩⟩⟩
theorem v_X12_nextPair_63 {E : EE} {d : Nat} {Q : Option AV → AH → Prop} {x0 : Nat} {x1 : Int32} {x2 : Int32} {x3 : Int64} {x5 : Int32} {x6 : Int32} {x7 : Int64} {x9 : Int64} {G : AH} (h : (x5 = 0 → wp E d M_X12_nextPair 98 [some (vr x0), some (vi x1), some (vi x2), some (vj x3), none, some (vi x5), some (vi x6), some (vj x7), none, some (vj x9), none] [] G Q) ∧ (¬ (x5 = 0) → isO E G x0 12 ∧ ((x7 < (gJ G x0 69) → wp E d M_X12_nextPair 98 [some (vr x0), some (vi x1), some (vi x2), some (vj x3), none, some (vi x5), some (vi x6), some (vj x7), none, some (vj x9), none] [] G Q) ∧ (¬ (x7 < (gJ G x0 69)) → (¬ x7 = (gJ G x0 69) → wp E d M_X12_nextPair 113 [some (vr x0), some (vi x1), some (vi x2), some (vj x3), none, some (vi x5), some (vi x6), some (vj x7), none, some (vj x9), none] [] G Q) ∧ (x7 = (gJ G x0 69) → ((gJ G x0 70) ≤ x9 → wp E d M_X12_nextPair 113 [some (vr x0), some (vi x1), some (vi x2), some (vj x3), none, some (vi x5), some (vi x6), some (vj x7), none, some (vj x9), none] [] G Q) ∧ (¬ ((gJ G x0 70) ≤ x9) → wp E d M_X12_nextPair 98 [some (vr x0), some (vi x1), some (vi x2), some (vj x3), none, some (vi x5), some (vi x6), some (vj x7), none, some (vj x9), none] [] G Q)))))) : wp E d M_X12_nextPair 63 [some (vr x0), some (vi x1), some (vi x2), some (vj x3), none, some (vi x5), some (vi x6), some (vj x7), none, some (vj x9), none] [] G Q := by
  refine wp_iload (pc := 63) d_X12_nextPair_63 rfl ?_
  refine wp_if_eq (pc := 65) (tgt := 98) d_X12_nextPair_65 (by decide) (fun hc => ?_) (fun hc => ?_)
  · have h := h.1 hc
    refine wp_sub ?_ h
    exact ⟨rfl, ⟨rfl, ⟨rfl, ⟨rfl, ⟨rfl, ⟨rfl, ⟨rfl, ⟨rfl, trivial⟩⟩⟩⟩⟩⟩⟩⟩
  · have h := h.2 hc
    refine wp_lload (pc := 68) d_X12_nextPair_68 rfl ?_
    refine wp_aload_n (pc := 70) d_X12_nextPair_70 rfl ?_
    obtain ⟨ho1, h⟩ := h
    refine wp_getJ (pc := 71) d_X12_nextPair_71 fl_X12_612 (fun _ _ _ => rfl) ho1 ?_
    refine wp_lcmp_lt (pc := 74) (tgt := 98) d_X12_nextPair_74 d_X12_nextPair_75 (by decide) (fun hc => ?_) (fun hc => ?_)
    · have h := h.1 hc
      refine wp_sub ?_ h
      exact ⟨rfl, ⟨rfl, ⟨rfl, ⟨rfl, ⟨rfl, ⟨rfl, ⟨rfl, ⟨rfl, trivial⟩⟩⟩⟩⟩⟩⟩⟩
    · have h := h.2 hc
      refine wp_lload (pc := 78) d_X12_nextPair_78 rfl ?_
      refine wp_aload_n (pc := 80) d_X12_nextPair_80 rfl ?_
      refine wp_getJ (pc := 81) d_X12_nextPair_81 fl_X12_612 (fun _ _ _ => rfl) ho1 ?_
      refine wp_lcmp_ne (pc := 84) (tgt := 113) d_X12_nextPair_84 d_X12_nextPair_85 (by decide) (fun hc => ?_) (fun hc => ?_)
      · have h := h.1 hc
        refine wp_sub ?_ h
        exact ⟨rfl, ⟨rfl, ⟨rfl, ⟨rfl, ⟨rfl, ⟨rfl, ⟨rfl, ⟨rfl, trivial⟩⟩⟩⟩⟩⟩⟩⟩
      · have h := h.2 hc
        refine wp_lload (pc := 88) d_X12_nextPair_88 rfl ?_
        refine wp_aload_n (pc := 90) d_X12_nextPair_90 rfl ?_
        refine wp_getJ (pc := 91) d_X12_nextPair_91 fl_X12_615 (fun _ _ _ => rfl) ho1 ?_
        refine wp_lcmp_ge (pc := 94) (tgt := 113) d_X12_nextPair_94 d_X12_nextPair_95 (by decide) (fun hc => ?_) (fun hc => ?_)
        · have h := h.1 hc
          refine wp_sub ?_ h
          exact ⟨rfl, ⟨rfl, ⟨rfl, ⟨rfl, ⟨rfl, ⟨rfl, ⟨rfl, ⟨rfl, trivial⟩⟩⟩⟩⟩⟩⟩⟩
        · have h := h.2 hc
          refine wp_sub ?_ h
          exact ⟨rfl, ⟨rfl, ⟨rfl, ⟨rfl, ⟨rfl, ⟨rfl, ⟨rfl, ⟨rfl, trivial⟩⟩⟩⟩⟩⟩⟩⟩
theorem v_X12_nextPair_98 {E : EE} {d : Nat} {Q : Option AV → AH → Prop} {x0 : Nat} {x1 : Int32} {x2 : Int32} {x3 : Int64} {x5 : Int32} {x6 : Int32} {x7 : Int64} {x9 : Int64} {G : AH} (h : isO E G x0 12 ∧ (∀ G2 : AH, G2 = sJ G x0 69 x7 → ∀ G4 : AH, G4 = sJ G2 x0 70 x9 → wp E d M_X12_nextPair 113 [some (vr x0), some (vi x1), some (vi x2), some (vj x3), none, some (vi 1), some (vi x6), some (vj x7), none, some (vj x9), none] [] G4 Q)) : wp E d M_X12_nextPair 98 [some (vr x0), some (vi x1), some (vi x2), some (vj x3), none, some (vi x5), some (vi x6), some (vj x7), none, some (vj x9), none] [] G Q := by
  refine wp_iconst (pc := 98) (v := 1) d_X12_nextPair_98 rfl ?_
  refine wp_istore (pc := 99) (lv' := [some (vr _), some (vi _), some (vi _), some (vj _), none, some (vi _), some (vi _), some (vj _), none, some (vj _), none]) d_X12_nextPair_99 (by decide) rfl ?_
  refine wp_aload_n (pc := 101) d_X12_nextPair_101 rfl ?_
  refine wp_lload (pc := 102) d_X12_nextPair_102 rfl ?_
  obtain ⟨ho1, h⟩ := h
  refine wp_putJ (pc := 104) d_X12_nextPair_104 fl_X12_612 (fun _ _ _ => rfl) rfl (Or.inl rfl) ho1 ?_
  refine wp_nm (fun G2 eG2 => ?_)
  have h := h G2 eG2
  have ho3 := isO_sJ eG2 ho1
  refine wp_aload_n (pc := 107) d_X12_nextPair_107 rfl ?_
  refine wp_lload (pc := 108) d_X12_nextPair_108 rfl ?_
  refine wp_putJ (pc := 110) d_X12_nextPair_110 fl_X12_615 (fun _ _ _ => rfl) rfl (Or.inl rfl) ho3 ?_
  refine wp_nm (fun G4 eG4 => ?_)
  have h := h G4 eG4
  have ho5 := isO_sJ eG4 ho3
  refine wp_sub ?_ h
  exact ⟨rfl, ⟨rfl, ⟨rfl, ⟨rfl, ⟨rfl, ⟨rfl, ⟨rfl, ⟨rfl, trivial⟩⟩⟩⟩⟩⟩⟩⟩
theorem v_X12_nextPair_113 {E : EE} {d : Nat} {Q : Option AV → AH → Prop} {x0 : Nat} {x1 : Int32} {x2 : Int32} {x3 : Int64} {x5 : Int32} {x6 : Int32} {x7 : Int64} {x9 : Int64} {G : AH} (h : wp E d M_X12_nextPair 6 [some (vr x0), some (vi x1), some (vi x2), some (vj x3), none, some (vi x5), some (vi (x6 + 1)), none, none, none, none] [] G Q) : wp E d M_X12_nextPair 113 [some (vr x0), some (vi x1), some (vi x2), some (vj x3), none, some (vi x5), some (vi x6), some (vj x7), none, some (vj x9), none] [] G Q := by
  refine wp_iinc (pc := 113) (v := 1) (lv' := [some (vr _), some (vi _), some (vi _), some (vj _), none, some (vi _), some (vi _), some (vj _), none, some (vj _), none]) d_X12_nextPair_113 (by decide) rfl rfl rfl ?_
  refine wp_goto (pc := 116) (tgt := 6) d_X12_nextPair_116 (by decide) ?_
  refine wp_sub ?_ h
  exact ⟨rfl, ⟨rfl, ⟨rfl, ⟨rfl, ⟨rfl, ⟨rfl, trivial⟩⟩⟩⟩⟩⟩
theorem d_X12_isPair_0 : decode prog_14_method_129_code 0 = .ok (.aload_n 0, 1) := by decide +kernel
theorem d_X12_isPair_1 : decode prog_14_method_129_code 1 = .ok (.iload_n 1, 1) := by decide +kernel
theorem d_X12_isPair_2 : decode prog_14_method_129_code 2 = .ok (.iload_n 2, 1) := by decide +kernel
theorem d_X12_isPair_3 : decode prog_14_method_129_code 3 = .ok (.invokevirtual 562, 3) := by decide +kernel
theorem d_X12_isPair_6 : decode prog_14_method_129_code 6 = .ok (.ifCond .eq 42, 3) := by decide +kernel
theorem d_X12_isPair_9 : decode prog_14_method_129_code 9 = .ok (.aload_n 0, 1) := by decide +kernel
theorem d_X12_isPair_10 : decode prog_14_method_129_code 10 = .ok (.getfield 159, 3) := by decide +kernel
theorem d_X12_isPair_13 : decode prog_14_method_129_code 13 = .ok (.sipush 20000, 3) := by decide +kernel
theorem d_X12_isPair_16 : decode prog_14_method_129_code 16 = .ok (.iload_n 2, 1) := by decide +kernel
theorem d_X12_isPair_17 : decode prog_14_method_129_code 17 = .ok (.iadd, 1) := by decide +kernel
theorem d_X12_isPair_18 : decode prog_14_method_129_code 18 = .ok (.laload, 1) := by decide +kernel
theorem d_X12_isPair_19 : decode prog_14_method_129_code 19 = .ok (.aload_n 0, 1) := by decide +kernel
theorem d_X12_isPair_20 : decode prog_14_method_129_code 20 = .ok (.getfield 612, 3) := by decide +kernel
theorem d_X12_isPair_23 : decode prog_14_method_129_code 23 = .ok (.lcmp, 1) := by decide +kernel
theorem d_X12_isPair_24 : decode prog_14_method_129_code 24 = .ok (.ifCond .ne 24, 3) := by decide +kernel
theorem d_X12_isPair_27 : decode prog_14_method_129_code 27 = .ok (.aload_n 0, 1) := by decide +kernel
theorem d_X12_isPair_28 : decode prog_14_method_129_code 28 = .ok (.getfield 159, 3) := by decide +kernel
theorem d_X12_isPair_31 : decode prog_14_method_129_code 31 = .ok (.ldc 174, 2) := by decide +kernel
theorem d_X12_isPair_33 : decode prog_14_method_129_code 33 = .ok (.iload_n 2, 1) := by decide +kernel
theorem d_X12_isPair_34 : decode prog_14_method_129_code 34 = .ok (.iadd, 1) := by decide +kernel
theorem d_X12_isPair_35 : decode prog_14_method_129_code 35 = .ok (.laload, 1) := by decide +kernel
theorem d_X12_isPair_36 : decode prog_14_method_129_code 36 = .ok (.aload_n 0, 1) := by decide +kernel
theorem d_X12_isPair_37 : decode prog_14_method_129_code 37 = .ok (.getfield 615, 3) := by decide +kernel
theorem d_X12_isPair_40 : decode prog_14_method_129_code 40 = .ok (.lcmp, 1) := by decide +kernel
theorem d_X12_isPair_41 : decode prog_14_method_129_code 41 = .ok (.ifCond .ne 7, 3) := by decide +kernel
theorem d_X12_isPair_44 : decode prog_14_method_129_code 44 = .ok (.iconst 1, 1) := by decide +kernel
theorem d_X12_isPair_45 : decode prog_14_method_129_code 45 = .ok (.goto 4, 3) := by decide +kernel
theorem d_X12_isPair_48 : decode prog_14_method_129_code 48 = .ok (.iconst 0, 1) := by decide +kernel
theorem d_X12_isPair_49 : decode prog_14_method_129_code 49 = .ok (.ireturn, 1) := by decide +kernel
theorem v_X12_isPair_0 {E : EE} {d : Nat} {Q : Option AV → AH → Prop} {x0 : Nat} {x1 : Int32} {x2 : Int32} {G : AH} (h0 : 0 < d) (h : isO E G x0 12 ∧ (wpI E (d - 1) M_X12_isGood [vr x0, vi x1, vi x2] G (fun r1 G2 => (r1 = 0 → Q (some (vi 0)) G2) ∧ (¬ (r1 = 0) → isO E G2 x0 12 ∧ (isO E G2 (gR G2 x0 66) 15 ∧ (vp_in (20000 + x2) (gN G2 (gR G2 x0 66)) ∧ ((¬ (gJ G2 (gR G2 x0 66) (Int32.toNatClampNeg (20000 + x2))) = (gJ G2 x0 69) → Q (some (vi 0)) G2) ∧ ((gJ G2 (gR G2 x0 66) (Int32.toNatClampNeg (20000 + x2))) = (gJ G2 x0 69) → vp_in (40000 + x2) (gN G2 (gR G2 x0 66)) ∧ ((¬ (gJ G2 (gR G2 x0 66) (Int32.toNatClampNeg (40000 + x2))) = (gJ G2 x0 70) → Q (some (vi 0)) G2) ∧ ((gJ G2 (gR G2 x0 66) (Int32.toNatClampNeg (40000 + x2))) = (gJ G2 x0 70) → Q (some (vi 1)) G2)))))))))) : wp E d M_X12_isPair 0 [some (vr x0), some (vi x1), some (vi x2)] [] G Q := by
  refine wp_aload_n (pc := 0) d_X12_isPair_0 rfl ?_
  refine wp_iload_n (pc := 1) d_X12_isPair_1 rfl ?_
  refine wp_iload_n (pc := 2) d_X12_isPair_2 rfl ?_
  obtain ⟨ho7, h⟩ := h
  refine wp_invV (pc := 3) (N := M_X12_isGood) (As := [vi _, vi _]) (rest := []) (r := (cn_12, ct_12, 95)) d_X12_isPair_3 ml_X12_562 mk_X12_isGood mv_X12_isGood h0 ho7 rfl rfl (Nat.le_of_ble_eq_true rfl) ?_
  refine wpM.mono h (fun rr G2 hr => ?_)
  obtain ⟨r1, rfl, h⟩ := hr
  show wp E d M_X12_isPair 6 [some (vr _), some (vi _), some (vi _)] [vi _] G2 Q
  refine wp_if_eq (pc := 6) (tgt := 48) d_X12_isPair_6 (by decide) (fun hc => ?_) (fun hc => ?_)
  · have h := h.1 hc
    refine wp_iconst (pc := 48) (v := 0) d_X12_isPair_48 rfl ?_
    exact wp_zret (pc := 49) d_X12_isPair_49 rfl rfl h
  · have h := h.2 hc
    refine wp_aload_n (pc := 9) d_X12_isPair_9 rfl ?_
    obtain ⟨ho3, h⟩ := h
    refine wp_getR (pc := 10) d_X12_isPair_10 fl_X12_159 (fun _ _ _ => rfl) ho3 ?_
    refine wp_sipush (pc := 13) (v := 20000) d_X12_isPair_13 rfl ?_
    refine wp_iload_n (pc := 16) d_X12_isPair_16 rfl ?_
    refine wp_iadd (pc := 17) d_X12_isPair_17 ?_
    obtain ⟨ho4, h⟩ := h
    obtain ⟨hi5, h⟩ := h
    refine wp_lald (pc := 18) d_X12_isPair_18 ho4 hi5 ?_
    refine wp_aload_n (pc := 19) d_X12_isPair_19 rfl ?_
    refine wp_getJ (pc := 20) d_X12_isPair_20 fl_X12_612 (fun _ _ _ => rfl) ho3 ?_
    refine wp_lcmp_ne (pc := 23) (tgt := 48) d_X12_isPair_23 d_X12_isPair_24 (by decide) (fun hc => ?_) (fun hc => ?_)
    · have h := h.1 hc
      refine wp_iconst (pc := 48) (v := 0) d_X12_isPair_48 rfl ?_
      exact wp_zret (pc := 49) d_X12_isPair_49 rfl rfl h
    · have h := h.2 hc
      refine wp_aload_n (pc := 27) d_X12_isPair_27 rfl ?_
      refine wp_getR (pc := 28) d_X12_isPair_28 fl_X12_159 (fun _ _ _ => rfl) ho3 ?_
      refine wp_ldc (pc := 31) (v := 40000) d_X12_isPair_31 ci_X12_174 ?_
      refine wp_iload_n (pc := 33) d_X12_isPair_33 rfl ?_
      refine wp_iadd (pc := 34) d_X12_isPair_34 ?_
      obtain ⟨hi6, h⟩ := h
      refine wp_lald (pc := 35) d_X12_isPair_35 ho4 hi6 ?_
      refine wp_aload_n (pc := 36) d_X12_isPair_36 rfl ?_
      refine wp_getJ (pc := 37) d_X12_isPair_37 fl_X12_615 (fun _ _ _ => rfl) ho3 ?_
      refine wp_lcmp_ne (pc := 40) (tgt := 48) d_X12_isPair_40 d_X12_isPair_41 (by decide) (fun hc => ?_) (fun hc => ?_)
      · have h := h.1 hc
        refine wp_iconst (pc := 48) (v := 0) d_X12_isPair_48 rfl ?_
        exact wp_zret (pc := 49) d_X12_isPair_49 rfl rfl h
      · have h := h.2 hc
        refine wp_iconst (pc := 44) (v := 1) d_X12_isPair_44 rfl ?_
        refine wp_goto (pc := 45) (tgt := 49) d_X12_isPair_45 (by decide) ?_
        exact wp_zret (pc := 49) d_X12_isPair_49 rfl rfl h
theorem d_X12_frontAt_0 : decode prog_14_method_130_code 0 = .ok (.aload_n 0, 1) := by decide +kernel
theorem d_X12_frontAt_1 : decode prog_14_method_130_code 1 = .ok (.iload_n 1, 1) := by decide +kernel
theorem d_X12_frontAt_2 : decode prog_14_method_130_code 2 = .ok (.invokevirtual 453, 3) := by decide +kernel
theorem d_X12_frontAt_5 : decode prog_14_method_130_code 5 = .ok (.ifCond .eq 12, 3) := by decide +kernel
theorem d_X12_frontAt_8 : decode prog_14_method_130_code 8 = .ok (.iload_n 3, 1) := by decide +kernel
theorem d_X12_frontAt_9 : decode prog_14_method_130_code 9 = .ok (.ifCond .lt 8, 3) := by decide +kernel
theorem d_X12_frontAt_12 : decode prog_14_method_130_code 12 = .ok (.iload_n 3, 1) := by decide +kernel
theorem d_X12_frontAt_13 : decode prog_14_method_130_code 13 = .ok (.iconst 2, 1) := by decide +kernel
theorem d_X12_frontAt_14 : decode prog_14_method_130_code 14 = .ok (.if_icmp .le 7, 3) := by decide +kernel
theorem d_X12_frontAt_17 : decode prog_14_method_130_code 17 = .ok (.ldc2_w 466, 3) := by decide +kernel
theorem d_X12_frontAt_20 : decode prog_14_method_130_code 20 = .ok (.lreturn, 1) := by decide +kernel
theorem d_X12_frontAt_21 : decode prog_14_method_130_code 21 = .ok (.aload_n 0, 1) := by decide +kernel
theorem d_X12_frontAt_22 : decode prog_14_method_130_code 22 = .ok (.iload_n 1, 1) := by decide +kernel
theorem d_X12_frontAt_23 : decode prog_14_method_130_code 23 = .ok (.invokevirtual 571, 3) := by decide +kernel
theorem d_X12_frontAt_26 : decode prog_14_method_130_code 26 = .ok (.aload_n 0, 1) := by decide +kernel
theorem d_X12_frontAt_27 : decode prog_14_method_130_code 27 = .ok (.iload_n 1, 1) := by decide +kernel
theorem d_X12_frontAt_28 : decode prog_14_method_130_code 28 = .ok (.iload_n 2, 1) := by decide +kernel
theorem d_X12_frontAt_29 : decode prog_14_method_130_code 29 = .ok (.invokevirtual 622, 3) := by decide +kernel
theorem d_X12_frontAt_32 : decode prog_14_method_130_code 32 = .ok (.ifCond .ne 7, 3) := by decide +kernel
theorem d_X12_frontAt_35 : decode prog_14_method_130_code 35 = .ok (.ldc2_w 466, 3) := by decide +kernel
theorem d_X12_frontAt_38 : decode prog_14_method_130_code 38 = .ok (.lreturn, 1) := by decide +kernel
theorem d_X12_frontAt_39 : decode prog_14_method_130_code 39 = .ok (.iload_n 3, 1) := by decide +kernel
theorem d_X12_frontAt_40 : decode prog_14_method_130_code 40 = .ok (.ifCond .le 20, 3) := by decide +kernel
theorem d_X12_frontAt_43 : decode prog_14_method_130_code 43 = .ok (.iload_n 3, 1) := by decide +kernel
theorem d_X12_frontAt_44 : decode prog_14_method_130_code 44 = .ok (.iconst 1, 1) := by decide +kernel
theorem d_X12_frontAt_45 : decode prog_14_method_130_code 45 = .ok (.if_icmp .ne 10, 3) := by decide +kernel
theorem d_X12_frontAt_48 : decode prog_14_method_130_code 48 = .ok (.aload_n 0, 1) := by decide +kernel
theorem d_X12_frontAt_49 : decode prog_14_method_130_code 49 = .ok (.getfield 612, 3) := by decide +kernel
theorem d_X12_frontAt_52 : decode prog_14_method_130_code 52 = .ok (.goto 7, 3) := by decide +kernel
theorem d_X12_frontAt_55 : decode prog_14_method_130_code 55 = .ok (.aload_n 0, 1) := by decide +kernel
theorem d_X12_frontAt_56 : decode prog_14_method_130_code 56 = .ok (.getfield 615, 3) := by decide +kernel
theorem d_X12_frontAt_59 : decode prog_14_method_130_code 59 = .ok (.lreturn, 1) := by decide +kernel
theorem d_X12_frontAt_60 : decode prog_14_method_130_code 60 = .ok (.lconst 0, 1) := by decide +kernel
theorem d_X12_frontAt_61 : decode prog_14_method_130_code 61 = .ok (.lstore 4, 2) := by decide +kernel
theorem d_X12_frontAt_63 : decode prog_14_method_130_code 63 = .ok (.iconst 0, 1) := by decide +kernel
theorem d_X12_frontAt_64 : decode prog_14_method_130_code 64 = .ok (.istore 6, 2) := by decide +kernel
theorem d_X12_frontAt_66 : decode prog_14_method_130_code 66 = .ok (.iload 6, 2) := by decide +kernel
theorem d_X12_frontAt_68 : decode prog_14_method_130_code 68 = .ok (.aload_n 0, 1) := by decide +kernel
theorem d_X12_frontAt_69 : decode prog_14_method_130_code 69 = .ok (.getfield 82, 3) := by decide +kernel
theorem d_X12_frontAt_72 : decode prog_14_method_130_code 72 = .ok (.iload_n 1, 1) := by decide +kernel
theorem d_X12_frontAt_73 : decode prog_14_method_130_code 73 = .ok (.iaload, 1) := by decide +kernel
theorem d_X12_frontAt_74 : decode prog_14_method_130_code 74 = .ok (.if_icmp .ge 29, 3) := by decide +kernel
theorem d_X12_frontAt_77 : decode prog_14_method_130_code 77 = .ok (.lload 4, 2) := by decide +kernel
theorem d_X12_frontAt_79 : decode prog_14_method_130_code 79 = .ok (.aload_n 0, 1) := by decide +kernel
theorem d_X12_frontAt_80 : decode prog_14_method_130_code 80 = .ok (.iload_n 1, 1) := by decide +kernel
theorem d_X12_frontAt_81 : decode prog_14_method_130_code 81 = .ok (.iload 6, 2) := by decide +kernel
theorem d_X12_frontAt_83 : decode prog_14_method_130_code 83 = .ok (.invokevirtual 625, 3) := by decide +kernel
theorem d_X12_frontAt_86 : decode prog_14_method_130_code 86 = .ok (.ifCond .eq 7, 3) := by decide +kernel
theorem d_X12_frontAt_89 : decode prog_14_method_130_code 89 = .ok (.lconst 1, 1) := by decide +kernel
theorem d_X12_frontAt_90 : decode prog_14_method_130_code 90 = .ok (.goto 4, 3) := by decide +kernel
theorem d_X12_frontAt_93 : decode prog_14_method_130_code 93 = .ok (.lconst 0, 1) := by decide +kernel
theorem d_X12_frontAt_94 : decode prog_14_method_130_code 94 = .ok (.ladd, 1) := by decide +kernel
theorem d_X12_frontAt_95 : decode prog_14_method_130_code 95 = .ok (.lstore 4, 2) := by decide +kernel
theorem d_X12_frontAt_97 : decode prog_14_method_130_code 97 = .ok (.iinc 6 1, 3) := by decide +kernel
theorem d_X12_frontAt_100 : decode prog_14_method_130_code 100 = .ok (.goto (-34), 3) := by decide +kernel
theorem d_X12_frontAt_103 : decode prog_14_method_130_code 103 = .ok (.lload 4, 2) := by decide +kernel
theorem d_X12_frontAt_105 : decode prog_14_method_130_code 105 = .ok (.lreturn, 1) := by decide +kernel
theorem v_X12_frontAt_0 {E : EE} {d : Nat} {Q : Option AV → AH → Prop} {x0 : Nat} {x1 : Int32} {x2 : Int32} {x3 : Int32} {G : AH} (h0 : 0 < d) (h : isO E G x0 12 ∧ (wpI E (d - 1) M_X12_isProblem [vr x0, vi x1] G (fun r1 G2 => (r1 = 0 → Q (some (vj (-9223372036854775808))) G2) ∧ (¬ (r1 = 0) → (x3 < 0 → Q (some (vj (-9223372036854775808))) G2) ∧ (¬ (x3 < 0) → (x3 ≤ 2 → isO E G2 x0 12 ∧ (wpV E (d - 1) M_X12_know [vr x0, vi x1] G2 (fun G3 => isO E G3 x0 12 ∧ (wpI E (d - 1) M_X12_findPair [vr x0, vi x1, vi x2] G3 (fun r4 G5 => (¬ r4 = 0 → (x3 ≤ 0 → wp E d M_X12_frontAt 66 [some (vr x0), some (vi x1), some (vi x2), some (vi x3), some (vj 0), none, some (vi 0)] [] G5 Q) ∧ (¬ (x3 ≤ 0) → (¬ x3 = 1 → isO E G5 x0 12 ∧ (Q (some (vj (gJ G5 x0 70))) G5)) ∧ (x3 = 1 → isO E G5 x0 12 ∧ (Q (some (vj (gJ G5 x0 69))) G5)))) ∧ (r4 = 0 → Q (some (vj (-9223372036854775808))) G5)))))) ∧ (¬ (x3 ≤ 2) → Q (some (vj (-9223372036854775808))) G2)))))) : wp E d M_X12_frontAt 0 [some (vr x0), some (vi x1), some (vi x2), some (vi x3), none, none, none] [] G Q := by
  refine wp_aload_n (pc := 0) d_X12_frontAt_0 rfl ?_
  refine wp_iload_n (pc := 1) d_X12_frontAt_1 rfl ?_
  obtain ⟨ho10, h⟩ := h
  refine wp_invV (pc := 2) (N := M_X12_isProblem) (As := [vi _]) (rest := []) (r := (cn_12, ct_12, 95)) d_X12_frontAt_2 ml_X12_453 mk_X12_isProblem mv_X12_isProblem h0 ho10 rfl rfl (Nat.le_of_ble_eq_true rfl) ?_
  refine wpM.mono h (fun rr G2 hr => ?_)
  obtain ⟨r1, rfl, h⟩ := hr
  show wp E d M_X12_frontAt 5 [some (vr _), some (vi _), some (vi _), some (vi _), none, none, none] [vi _] G2 Q
  refine wp_if_eq (pc := 5) (tgt := 17) d_X12_frontAt_5 (by decide) (fun hc => ?_) (fun hc => ?_)
  · have h := h.1 hc
    refine wp_ldc2 (pc := 17) (v := (-9223372036854775808)) d_X12_frontAt_17 cj_X12_466 ?_
    exact wp_lret (pc := 20) d_X12_frontAt_20 rfl h
  · have h := h.2 hc
    refine wp_iload_n (pc := 8) d_X12_frontAt_8 rfl ?_
    refine wp_if_lt (pc := 9) (tgt := 17) d_X12_frontAt_9 (by decide) (fun hc => ?_) (fun hc => ?_)
    · have h := h.1 hc
      refine wp_ldc2 (pc := 17) (v := (-9223372036854775808)) d_X12_frontAt_17 cj_X12_466 ?_
      exact wp_lret (pc := 20) d_X12_frontAt_20 rfl h
    · have h := h.2 hc
      refine wp_iload_n (pc := 12) d_X12_frontAt_12 rfl ?_
      refine wp_iconst (pc := 13) (v := 2) d_X12_frontAt_13 rfl ?_
      refine wp_icmp_le (pc := 14) (tgt := 21) d_X12_frontAt_14 (by decide) (fun hc => ?_) (fun hc => ?_)
      · have h := h.1 hc
        refine wp_aload_n (pc := 21) d_X12_frontAt_21 rfl ?_
        refine wp_iload_n (pc := 22) d_X12_frontAt_22 rfl ?_
        obtain ⟨ho9, h⟩ := h
        refine wp_invV (pc := 23) (N := M_X12_know) (As := [vi _]) (rest := []) (r := (cn_12, ct_12, 95)) d_X12_frontAt_23 ml_X12_571 mk_X12_know mv_X12_know h0 ho9 rfl rfl (Nat.le_of_ble_eq_true rfl) ?_
        refine wpM.mono h (fun rr G3 hr => ?_)
        obtain ⟨rfl, h⟩ := hr
        show wp E d M_X12_frontAt 26 [some (vr _), some (vi _), some (vi _), some (vi _), none, none, none] [] G3 Q
        refine wp_aload_n (pc := 26) d_X12_frontAt_26 rfl ?_
        refine wp_iload_n (pc := 27) d_X12_frontAt_27 rfl ?_
        refine wp_iload_n (pc := 28) d_X12_frontAt_28 rfl ?_
        obtain ⟨ho8, h⟩ := h
        refine wp_invV (pc := 29) (N := M_X12_findPair) (As := [vi _, vi _]) (rest := []) (r := (cn_12, ct_12, 95)) d_X12_frontAt_29 ml_X12_622 mk_X12_findPair mv_X12_findPair h0 ho8 rfl rfl (Nat.le_of_ble_eq_true rfl) ?_
        refine wpM.mono h (fun rr G5 hr => ?_)
        obtain ⟨r4, rfl, h⟩ := hr
        show wp E d M_X12_frontAt 32 [some (vr _), some (vi _), some (vi _), some (vi _), none, none, none] [vi _] G5 Q
        refine wp_if_ne (pc := 32) (tgt := 39) d_X12_frontAt_32 (by decide) (fun hc => ?_) (fun hc => ?_)
        · have h := h.1 hc
          refine wp_iload_n (pc := 39) d_X12_frontAt_39 rfl ?_
          refine wp_if_le (pc := 40) (tgt := 60) d_X12_frontAt_40 (by decide) (fun hc => ?_) (fun hc => ?_)
          · have h := h.1 hc
            refine wp_lconst (pc := 60) (v := 0) d_X12_frontAt_60 rfl ?_
            refine wp_lstore (pc := 61) (lv' := [some (vr _), some (vi _), some (vi _), some (vi _), some (vj _), none, none]) d_X12_frontAt_61 (by decide) rfl ?_
            refine wp_iconst (pc := 63) (v := 0) d_X12_frontAt_63 rfl ?_
            refine wp_istore (pc := 64) (lv' := [some (vr _), some (vi _), some (vi _), some (vi _), some (vj _), none, some (vi _)]) d_X12_frontAt_64 (by decide) rfl ?_
            refine wp_sub ?_ h
            exact ⟨rfl, ⟨rfl, ⟨rfl, ⟨rfl, ⟨rfl, ⟨rfl, trivial⟩⟩⟩⟩⟩⟩
          · have h := h.2 hc
            refine wp_iload_n (pc := 43) d_X12_frontAt_43 rfl ?_
            refine wp_iconst (pc := 44) (v := 1) d_X12_frontAt_44 rfl ?_
            refine wp_icmp_ne (pc := 45) (tgt := 55) d_X12_frontAt_45 (by decide) (fun hc => ?_) (fun hc => ?_)
            · have h := h.1 hc
              refine wp_aload_n (pc := 55) d_X12_frontAt_55 rfl ?_
              obtain ⟨ho6, h⟩ := h
              refine wp_getJ (pc := 56) d_X12_frontAt_56 fl_X12_615 (fun _ _ _ => rfl) ho6 ?_
              exact wp_lret (pc := 59) d_X12_frontAt_59 rfl h
            · have h := h.2 hc
              refine wp_aload_n (pc := 48) d_X12_frontAt_48 rfl ?_
              obtain ⟨ho7, h⟩ := h
              refine wp_getJ (pc := 49) d_X12_frontAt_49 fl_X12_612 (fun _ _ _ => rfl) ho7 ?_
              refine wp_goto (pc := 52) (tgt := 59) d_X12_frontAt_52 (by decide) ?_
              exact wp_lret (pc := 59) d_X12_frontAt_59 rfl h
        · have h := h.2 hc
          refine wp_ldc2 (pc := 35) (v := (-9223372036854775808)) d_X12_frontAt_35 cj_X12_466 ?_
          exact wp_lret (pc := 38) d_X12_frontAt_38 rfl h
      · have h := h.2 hc
        refine wp_ldc2 (pc := 17) (v := (-9223372036854775808)) d_X12_frontAt_17 cj_X12_466 ?_
        exact wp_lret (pc := 20) d_X12_frontAt_20 rfl h
theorem v_X12_frontAt_66 {E : EE} {d : Nat} {Q : Option AV → AH → Prop} {x0 : Nat} {x1 : Int32} {x2 : Int32} {x3 : Int32} {x4 : Int64} {x6 : Int32} {G : AH} (h0 : 0 < d) (h : isO E G x0 12 ∧ (isO E G (gR G x0 25) 14 ∧ (vp_in x1 (gN G (gR G x0 25)) ∧ (((gI G (gR G x0 25) (Int32.toNatClampNeg x1)) ≤ x6 → Q (some (vj x4)) G) ∧ (¬ ((gI G (gR G x0 25) (Int32.toNatClampNeg x1)) ≤ x6) → wpI E (d - 1) M_X12_isPair [vr x0, vi x1, vi x6] G (fun r4 G5 => (r4 = 0 → wp E d M_X12_frontAt 94 [some (vr x0), some (vi x1), some (vi x2), some (vi x3), some (vj x4), none, some (vi x6)] [vj 0, vj x4] G5 Q) ∧ (¬ (r4 = 0) → wp E d M_X12_frontAt 94 [some (vr x0), some (vi x1), some (vi x2), some (vi x3), some (vj x4), none, some (vi x6)] [vj 1, vj x4] G5 Q))))))) : wp E d M_X12_frontAt 66 [some (vr x0), some (vi x1), some (vi x2), some (vi x3), some (vj x4), none, some (vi x6)] [] G Q := by
  refine wp_iload (pc := 66) d_X12_frontAt_66 rfl ?_
  refine wp_aload_n (pc := 68) d_X12_frontAt_68 rfl ?_
  obtain ⟨ho1, h⟩ := h
  refine wp_getR (pc := 69) d_X12_frontAt_69 fl_X12_82 (fun _ _ _ => rfl) ho1 ?_
  refine wp_iload_n (pc := 72) d_X12_frontAt_72 rfl ?_
  obtain ⟨ho2, h⟩ := h
  obtain ⟨hi3, h⟩ := h
  refine wp_iald (pc := 73) d_X12_frontAt_73 ho2 hi3 ?_
  refine wp_icmp_ge (pc := 74) (tgt := 103) d_X12_frontAt_74 (by decide) (fun hc => ?_) (fun hc => ?_)
  · have h := h.1 hc
    refine wp_lload (pc := 103) d_X12_frontAt_103 rfl ?_
    exact wp_lret (pc := 105) d_X12_frontAt_105 rfl h
  · have h := h.2 hc
    refine wp_lload (pc := 77) d_X12_frontAt_77 rfl ?_
    refine wp_aload_n (pc := 79) d_X12_frontAt_79 rfl ?_
    refine wp_iload_n (pc := 80) d_X12_frontAt_80 rfl ?_
    refine wp_iload (pc := 81) d_X12_frontAt_81 rfl ?_
    refine wp_invV (pc := 83) (N := M_X12_isPair) (As := [vi _, vi _]) (rest := [vj _]) (r := (cn_12, ct_12, 95)) d_X12_frontAt_83 ml_X12_625 mk_X12_isPair mv_X12_isPair h0 ho1 rfl rfl (Nat.le_of_ble_eq_true rfl) ?_
    refine wpM.mono h (fun rr G5 hr => ?_)
    obtain ⟨r4, rfl, h⟩ := hr
    show wp E d M_X12_frontAt 86 [some (vr _), some (vi _), some (vi _), some (vi _), some (vj _), none, some (vi _)] [vi _, vj _] G5 Q
    refine wp_if_eq (pc := 86) (tgt := 93) d_X12_frontAt_86 (by decide) (fun hc => ?_) (fun hc => ?_)
    · have h := h.1 hc
      refine wp_lconst (pc := 93) (v := 0) d_X12_frontAt_93 rfl ?_
      refine wp_sub ?_ h
      exact ⟨rfl, ⟨rfl, ⟨rfl, ⟨rfl, ⟨rfl, ⟨rfl, trivial⟩⟩⟩⟩⟩⟩
    · have h := h.2 hc
      refine wp_lconst (pc := 89) (v := 1) d_X12_frontAt_89 rfl ?_
      refine wp_goto (pc := 90) (tgt := 94) d_X12_frontAt_90 (by decide) ?_
      refine wp_sub ?_ h
      exact ⟨rfl, ⟨rfl, ⟨rfl, ⟨rfl, ⟨rfl, ⟨rfl, trivial⟩⟩⟩⟩⟩⟩
theorem v_X12_frontAt_94 {E : EE} {d : Nat} {Q : Option AV → AH → Prop} {x0 : Nat} {x1 : Int32} {x2 : Int32} {x3 : Int32} {x4 : Int64} {x6 : Int32} {t0 : Int64} {t1 : Int64} {G : AH} (h : wp E d M_X12_frontAt 66 [some (vr x0), some (vi x1), some (vi x2), some (vi x3), some (vj (t0 + t1)), none, some (vi (x6 + 1))] [] G Q) : wp E d M_X12_frontAt 94 [some (vr x0), some (vi x1), some (vi x2), some (vi x3), some (vj x4), none, some (vi x6)] [vj t1, vj t0] G Q := by
  refine wp_ladd (pc := 94) d_X12_frontAt_94 ?_
  refine wp_lstore (pc := 95) (lv' := [some (vr _), some (vi _), some (vi _), some (vi _), some (vj _), none, some (vi _)]) d_X12_frontAt_95 (by decide) rfl ?_
  refine wp_iinc (pc := 97) (v := 1) (lv' := [some (vr _), some (vi _), some (vi _), some (vi _), some (vj _), none, some (vi _)]) d_X12_frontAt_97 (by decide) rfl rfl rfl ?_
  refine wp_goto (pc := 100) (tgt := 66) d_X12_frontAt_100 (by decide) ?_
  refine wp_sub ?_ h
  exact ⟨rfl, ⟨rfl, ⟨rfl, ⟨rfl, ⟨rfl, ⟨rfl, trivial⟩⟩⟩⟩⟩⟩
theorem d_X12_front_0 : decode prog_14_method_128_code 0 = .ok (.aload_n 0, 1) := by decide +kernel
theorem d_X12_front_1 : decode prog_14_method_128_code 1 = .ok (.iload_n 1, 1) := by decide +kernel
theorem d_X12_front_2 : decode prog_14_method_128_code 2 = .ok (.invokevirtual 453, 3) := by decide +kernel
theorem d_X12_front_5 : decode prog_14_method_128_code 5 = .ok (.ifCond .ne 5, 3) := by decide +kernel
theorem d_X12_front_8 : decode prog_14_method_128_code 8 = .ok (.iconst (-1), 1) := by decide +kernel
theorem d_X12_front_9 : decode prog_14_method_128_code 9 = .ok (.ireturn, 1) := by decide +kernel
theorem d_X12_front_10 : decode prog_14_method_128_code 10 = .ok (.aload_n 0, 1) := by decide +kernel
theorem d_X12_front_11 : decode prog_14_method_128_code 11 = .ok (.iload_n 1, 1) := by decide +kernel
theorem d_X12_front_12 : decode prog_14_method_128_code 12 = .ok (.invokevirtual 571, 3) := by decide +kernel
theorem d_X12_front_15 : decode prog_14_method_128_code 15 = .ok (.iconst 0, 1) := by decide +kernel
theorem d_X12_front_16 : decode prog_14_method_128_code 16 = .ok (.istore_n 2, 1) := by decide +kernel
theorem d_X12_front_17 : decode prog_14_method_128_code 17 = .ok (.aload_n 0, 1) := by decide +kernel
theorem d_X12_front_18 : decode prog_14_method_128_code 18 = .ok (.iload_n 1, 1) := by decide +kernel
theorem d_X12_front_19 : decode prog_14_method_128_code 19 = .ok (.iconst 0, 1) := by decide +kernel
theorem d_X12_front_20 : decode prog_14_method_128_code 20 = .ok (.lconst 0, 1) := by decide +kernel
theorem d_X12_front_21 : decode prog_14_method_128_code 21 = .ok (.invokevirtual 618, 3) := by decide +kernel
theorem d_X12_front_24 : decode prog_14_method_128_code 24 = .ok (.istore_n 3, 1) := by decide +kernel
theorem d_X12_front_25 : decode prog_14_method_128_code 25 = .ok (.iload_n 3, 1) := by decide +kernel
theorem d_X12_front_26 : decode prog_14_method_128_code 26 = .ok (.ifCond .eq 20, 3) := by decide +kernel
theorem d_X12_front_29 : decode prog_14_method_128_code 29 = .ok (.iinc 2 1, 3) := by decide +kernel
theorem d_X12_front_32 : decode prog_14_method_128_code 32 = .ok (.aload_n 0, 1) := by decide +kernel
theorem d_X12_front_33 : decode prog_14_method_128_code 33 = .ok (.iload_n 1, 1) := by decide +kernel
theorem d_X12_front_34 : decode prog_14_method_128_code 34 = .ok (.iconst 1, 1) := by decide +kernel
theorem d_X12_front_35 : decode prog_14_method_128_code 35 = .ok (.aload_n 0, 1) := by decide +kernel
theorem d_X12_front_36 : decode prog_14_method_128_code 36 = .ok (.getfield 615, 3) := by decide +kernel
theorem d_X12_front_39 : decode prog_14_method_128_code 39 = .ok (.invokevirtual 618, 3) := by decide +kernel
theorem d_X12_front_42 : decode prog_14_method_128_code 42 = .ok (.istore_n 3, 1) := by decide +kernel
theorem d_X12_front_43 : decode prog_14_method_128_code 43 = .ok (.goto (-18), 3) := by decide +kernel
theorem d_X12_front_46 : decode prog_14_method_128_code 46 = .ok (.iload_n 2, 1) := by decide +kernel
theorem d_X12_front_47 : decode prog_14_method_128_code 47 = .ok (.ireturn, 1) := by decide +kernel
theorem v_X12_front_0 {E : EE} {d : Nat} {Q : Option AV → AH → Prop} {x0 : Nat} {x1 : Int32} {G : AH} (h0 : 0 < d) (h : isO E G x0 12 ∧ (wpI E (d - 1) M_X12_isProblem [vr x0, vi x1] G (fun r1 G2 => (¬ r1 = 0 → isO E G2 x0 12 ∧ (wpV E (d - 1) M_X12_know [vr x0, vi x1] G2 (fun G3 => isO E G3 x0 12 ∧ (wpI E (d - 1) M_X12_nextPair [vr x0, vi x1, vi 0, vj 0] G3 (fun r4 G5 => wp E d M_X12_front 25 [some (vr x0), some (vi x1), some (vi 0), some (vi r4)] [] G5 Q))))) ∧ (r1 = 0 → Q (some (vi (-1))) G2)))) : wp E d M_X12_front 0 [some (vr x0), some (vi x1), none, none] [] G Q := by
  refine wp_aload_n (pc := 0) d_X12_front_0 rfl ?_
  refine wp_iload_n (pc := 1) d_X12_front_1 rfl ?_
  obtain ⟨ho8, h⟩ := h
  refine wp_invV (pc := 2) (N := M_X12_isProblem) (As := [vi _]) (rest := []) (r := (cn_12, ct_12, 95)) d_X12_front_2 ml_X12_453 mk_X12_isProblem mv_X12_isProblem h0 ho8 rfl rfl (Nat.le_of_ble_eq_true rfl) ?_
  refine wpM.mono h (fun rr G2 hr => ?_)
  obtain ⟨r1, rfl, h⟩ := hr
  show wp E d M_X12_front 5 [some (vr _), some (vi _), none, none] [vi _] G2 Q
  refine wp_if_ne (pc := 5) (tgt := 10) d_X12_front_5 (by decide) (fun hc => ?_) (fun hc => ?_)
  · have h := h.1 hc
    refine wp_aload_n (pc := 10) d_X12_front_10 rfl ?_
    refine wp_iload_n (pc := 11) d_X12_front_11 rfl ?_
    obtain ⟨ho7, h⟩ := h
    refine wp_invV (pc := 12) (N := M_X12_know) (As := [vi _]) (rest := []) (r := (cn_12, ct_12, 95)) d_X12_front_12 ml_X12_571 mk_X12_know mv_X12_know h0 ho7 rfl rfl (Nat.le_of_ble_eq_true rfl) ?_
    refine wpM.mono h (fun rr G3 hr => ?_)
    obtain ⟨rfl, h⟩ := hr
    show wp E d M_X12_front 15 [some (vr _), some (vi _), none, none] [] G3 Q
    refine wp_iconst (pc := 15) (v := 0) d_X12_front_15 rfl ?_
    refine wp_istore_n (pc := 16) (lv' := [some (vr _), some (vi _), some (vi _), none]) d_X12_front_16 (by decide) rfl ?_
    refine wp_aload_n (pc := 17) d_X12_front_17 rfl ?_
    refine wp_iload_n (pc := 18) d_X12_front_18 rfl ?_
    refine wp_iconst (pc := 19) (v := 0) d_X12_front_19 rfl ?_
    refine wp_lconst (pc := 20) (v := 0) d_X12_front_20 rfl ?_
    obtain ⟨ho6, h⟩ := h
    refine wp_invV (pc := 21) (N := M_X12_nextPair) (As := [vi _, vi _, vj _]) (rest := []) (r := (cn_12, ct_12, 95)) d_X12_front_21 ml_X12_618 mk_X12_nextPair mv_X12_nextPair h0 ho6 rfl rfl (Nat.le_of_ble_eq_true rfl) ?_
    refine wpM.mono h (fun rr G5 hr => ?_)
    obtain ⟨r4, rfl, h⟩ := hr
    show wp E d M_X12_front 24 [some (vr _), some (vi _), some (vi _), none] [vi _] G5 Q
    refine wp_istore_n (pc := 24) (lv' := [some (vr _), some (vi _), some (vi _), some (vi _)]) d_X12_front_24 (by decide) rfl ?_
    refine wp_sub ?_ h
    exact ⟨rfl, ⟨rfl, ⟨rfl, ⟨rfl, trivial⟩⟩⟩⟩
  · have h := h.2 hc
    refine wp_iconst (pc := 8) (v := (-1)) d_X12_front_8 rfl ?_
    exact wp_iret (pc := 9) d_X12_front_9 rfl h
theorem v_X12_front_25 {E : EE} {d : Nat} {Q : Option AV → AH → Prop} {x0 : Nat} {x1 : Int32} {x2 : Int32} {x3 : Int32} {G : AH} (h0 : 0 < d) (h : (x3 = 0 → Q (some (vi x2)) G) ∧ (¬ (x3 = 0) → isO E G x0 12 ∧ (wpI E (d - 1) M_X12_nextPair [vr x0, vi x1, vi 1, vj (gJ G x0 70)] G (fun r2 G3 => wp E d M_X12_front 25 [some (vr x0), some (vi x1), some (vi (x2 + 1)), some (vi r2)] [] G3 Q)))) : wp E d M_X12_front 25 [some (vr x0), some (vi x1), some (vi x2), some (vi x3)] [] G Q := by
  refine wp_iload_n (pc := 25) d_X12_front_25 rfl ?_
  refine wp_if_eq (pc := 26) (tgt := 46) d_X12_front_26 (by decide) (fun hc => ?_) (fun hc => ?_)
  · have h := h.1 hc
    refine wp_iload_n (pc := 46) d_X12_front_46 rfl ?_
    exact wp_iret (pc := 47) d_X12_front_47 rfl h
  · have h := h.2 hc
    refine wp_iinc (pc := 29) (v := 1) (lv' := [some (vr _), some (vi _), some (vi _), some (vi _)]) d_X12_front_29 (by decide) rfl rfl rfl ?_
    refine wp_aload_n (pc := 32) d_X12_front_32 rfl ?_
    refine wp_iload_n (pc := 33) d_X12_front_33 rfl ?_
    refine wp_iconst (pc := 34) (v := 1) d_X12_front_34 rfl ?_
    refine wp_aload_n (pc := 35) d_X12_front_35 rfl ?_
    obtain ⟨ho1, h⟩ := h
    refine wp_getJ (pc := 36) d_X12_front_36 fl_X12_615 (fun _ _ _ => rfl) ho1 ?_
    refine wp_invV (pc := 39) (N := M_X12_nextPair) (As := [vi _, vi _, vj _]) (rest := []) (r := (cn_12, ct_12, 95)) d_X12_front_39 ml_X12_618 mk_X12_nextPair mv_X12_nextPair h0 ho1 rfl rfl (Nat.le_of_ble_eq_true rfl) ?_
    refine wpM.mono h (fun rr G3 hr => ?_)
    obtain ⟨r2, rfl, h⟩ := hr
    show wp E d M_X12_front 42 [some (vr _), some (vi _), some (vi _), some (vi _)] [vi _] G3 Q
    refine wp_istore_n (pc := 42) (lv' := [some (vr _), some (vi _), some (vi _), some (vi _)]) d_X12_front_42 (by decide) rfl ?_
    refine wp_goto (pc := 43) (tgt := 25) d_X12_front_43 (by decide) ?_
    refine wp_sub ?_ h
    exact ⟨rfl, ⟨rfl, ⟨rfl, ⟨rfl, trivial⟩⟩⟩⟩
theorem d_X12_mend_0 : decode prog_14_method_125_code 0 = .ok (.aload_n 0, 1) := by decide +kernel
theorem d_X12_mend_1 : decode prog_14_method_125_code 1 = .ok (.iload_n 1, 1) := by decide +kernel
theorem d_X12_mend_2 : decode prog_14_method_125_code 2 = .ok (.invokevirtual 453, 3) := by decide +kernel
theorem d_X12_mend_5 : decode prog_14_method_125_code 5 = .ok (.ifCond .ne 5, 3) := by decide +kernel
theorem d_X12_mend_8 : decode prog_14_method_125_code 8 = .ok (.iconst (-1), 1) := by decide +kernel
theorem d_X12_mend_9 : decode prog_14_method_125_code 9 = .ok (.ireturn, 1) := by decide +kernel
theorem d_X12_mend_10 : decode prog_14_method_125_code 10 = .ok (.aload_n 0, 1) := by decide +kernel
theorem d_X12_mend_11 : decode prog_14_method_125_code 11 = .ok (.iload_n 1, 1) := by decide +kernel
theorem d_X12_mend_12 : decode prog_14_method_125_code 12 = .ok (.invokevirtual 571, 3) := by decide +kernel
theorem d_X12_mend_15 : decode prog_14_method_125_code 15 = .ok (.iconst (-1), 1) := by decide +kernel
theorem d_X12_mend_16 : decode prog_14_method_125_code 16 = .ok (.istore_n 3, 1) := by decide +kernel
theorem d_X12_mend_17 : decode prog_14_method_125_code 17 = .ok (.iconst 0, 1) := by decide +kernel
theorem d_X12_mend_18 : decode prog_14_method_125_code 18 = .ok (.istore 4, 2) := by decide +kernel
theorem d_X12_mend_20 : decode prog_14_method_125_code 20 = .ok (.iload 4, 2) := by decide +kernel
theorem d_X12_mend_22 : decode prog_14_method_125_code 22 = .ok (.aload_n 0, 1) := by decide +kernel
theorem d_X12_mend_23 : decode prog_14_method_125_code 23 = .ok (.getfield 82, 3) := by decide +kernel
theorem d_X12_mend_26 : decode prog_14_method_125_code 26 = .ok (.iload_n 1, 1) := by decide +kernel
theorem d_X12_mend_27 : decode prog_14_method_125_code 27 = .ok (.iaload, 1) := by decide +kernel
theorem d_X12_mend_28 : decode prog_14_method_125_code 28 = .ok (.if_icmp .ge 108, 3) := by decide +kernel
theorem d_X12_mend_31 : decode prog_14_method_125_code 31 = .ok (.aload_n 0, 1) := by decide +kernel
theorem d_X12_mend_32 : decode prog_14_method_125_code 32 = .ok (.iload 4, 2) := by decide +kernel
theorem d_X12_mend_34 : decode prog_14_method_125_code 34 = .ok (.invokevirtual 556, 3) := by decide +kernel
theorem d_X12_mend_37 : decode prog_14_method_125_code 37 = .ok (.istore 5, 2) := by decide +kernel
theorem d_X12_mend_39 : decode prog_14_method_125_code 39 = .ok (.iconst 0, 1) := by decide +kernel
theorem d_X12_mend_40 : decode prog_14_method_125_code 40 = .ok (.istore 6, 2) := by decide +kernel
theorem d_X12_mend_42 : decode prog_14_method_125_code 42 = .ok (.iload 5, 2) := by decide +kernel
theorem d_X12_mend_44 : decode prog_14_method_125_code 44 = .ok (.ifCond .eq 60, 3) := by decide +kernel
theorem d_X12_mend_47 : decode prog_14_method_125_code 47 = .ok (.iload 6, 2) := by decide +kernel
theorem d_X12_mend_49 : decode prog_14_method_125_code 49 = .ok (.aload_n 0, 1) := by decide +kernel
theorem d_X12_mend_50 : decode prog_14_method_125_code 50 = .ok (.iload_n 1, 1) := by decide +kernel
theorem d_X12_mend_51 : decode prog_14_method_125_code 51 = .ok (.invokevirtual 456, 3) := by decide +kernel
theorem d_X12_mend_54 : decode prog_14_method_125_code 54 = .ok (.if_icmp .ge 50, 3) := by decide +kernel
theorem d_X12_mend_57 : decode prog_14_method_125_code 57 = .ok (.iload_n 2, 1) := by decide +kernel
theorem d_X12_mend_58 : decode prog_14_method_125_code 58 = .ok (.iload 6, 2) := by decide +kernel
theorem d_X12_mend_60 : decode prog_14_method_125_code 60 = .ok (.ishr, 1) := by decide +kernel
theorem d_X12_mend_61 : decode prog_14_method_125_code 61 = .ok (.iconst 1, 1) := by decide +kernel
theorem d_X12_mend_62 : decode prog_14_method_125_code 62 = .ok (.iand, 1) := by decide +kernel
theorem d_X12_mend_63 : decode prog_14_method_125_code 63 = .ok (.iconst 1, 1) := by decide +kernel
theorem d_X12_mend_64 : decode prog_14_method_125_code 64 = .ok (.if_icmp .eq 27, 3) := by decide +kernel
theorem d_X12_mend_67 : decode prog_14_method_125_code 67 = .ok (.aload_n 0, 1) := by decide +kernel
theorem d_X12_mend_68 : decode prog_14_method_125_code 68 = .ok (.iload_n 1, 1) := by decide +kernel
theorem d_X12_mend_69 : decode prog_14_method_125_code 69 = .ok (.iload 4, 2) := by decide +kernel
theorem d_X12_mend_71 : decode prog_14_method_125_code 71 = .ok (.iload 6, 2) := by decide +kernel
theorem d_X12_mend_73 : decode prog_14_method_125_code 73 = .ok (.invokevirtual 537, 3) := by decide +kernel
theorem d_X12_mend_76 : decode prog_14_method_125_code 76 = .ok (.aload_n 0, 1) := by decide +kernel
theorem d_X12_mend_77 : decode prog_14_method_125_code 77 = .ok (.getfield 73, 3) := by decide +kernel
theorem d_X12_mend_80 : decode prog_14_method_125_code 80 = .ok (.bipush 12, 2) := by decide +kernel
theorem d_X12_mend_82 : decode prog_14_method_125_code 82 = .ok (.iload_n 1, 1) := by decide +kernel
theorem d_X12_mend_83 : decode prog_14_method_125_code 83 = .ok (.imul, 1) := by decide +kernel
theorem d_X12_mend_84 : decode prog_14_method_125_code 84 = .ok (.iload 6, 2) := by decide +kernel
theorem d_X12_mend_86 : decode prog_14_method_125_code 86 = .ok (.iadd, 1) := by decide +kernel
theorem d_X12_mend_87 : decode prog_14_method_125_code 87 = .ok (.iaload, 1) := by decide +kernel
theorem d_X12_mend_88 : decode prog_14_method_125_code 88 = .ok (.if_icmp .ne 7, 3) := by decide +kernel
theorem d_X12_mend_91 : decode prog_14_method_125_code 91 = .ok (.iconst 1, 1) := by decide +kernel
theorem d_X12_mend_92 : decode prog_14_method_125_code 92 = .ok (.goto 4, 3) := by decide +kernel
theorem d_X12_mend_95 : decode prog_14_method_125_code 95 = .ok (.iconst 0, 1) := by decide +kernel
theorem d_X12_mend_96 : decode prog_14_method_125_code 96 = .ok (.istore 5, 2) := by decide +kernel
theorem d_X12_mend_98 : decode prog_14_method_125_code 98 = .ok (.iinc 6 1, 3) := by decide +kernel
theorem d_X12_mend_101 : decode prog_14_method_125_code 101 = .ok (.goto (-59), 3) := by decide +kernel
theorem d_X12_mend_104 : decode prog_14_method_125_code 104 = .ok (.iload 5, 2) := by decide +kernel
theorem d_X12_mend_106 : decode prog_14_method_125_code 106 = .ok (.ifCond .eq 22, 3) := by decide +kernel
theorem d_X12_mend_109 : decode prog_14_method_125_code 109 = .ok (.iload_n 3, 1) := by decide +kernel
theorem d_X12_mend_110 : decode prog_14_method_125_code 110 = .ok (.ifCond .lt 13, 3) := by decide +kernel
theorem d_X12_mend_113 : decode prog_14_method_125_code 113 = .ok (.aload_n 0, 1) := by decide +kernel
theorem d_X12_mend_114 : decode prog_14_method_125_code 114 = .ok (.iload 4, 2) := by decide +kernel
theorem d_X12_mend_116 : decode prog_14_method_125_code 116 = .ok (.iload_n 3, 1) := by decide +kernel
theorem d_X12_mend_117 : decode prog_14_method_125_code 117 = .ok (.invokevirtual 565, 3) := by decide +kernel
theorem d_X12_mend_120 : decode prog_14_method_125_code 120 = .ok (.ifCond .eq 8, 3) := by decide +kernel
theorem d_X12_mend_123 : decode prog_14_method_125_code 123 = .ok (.iload 4, 2) := by decide +kernel
theorem d_X12_mend_125 : decode prog_14_method_125_code 125 = .ok (.goto 4, 3) := by decide +kernel
theorem d_X12_mend_128 : decode prog_14_method_125_code 128 = .ok (.iload_n 3, 1) := by decide +kernel
theorem d_X12_mend_129 : decode prog_14_method_125_code 129 = .ok (.istore_n 3, 1) := by decide +kernel
theorem d_X12_mend_130 : decode prog_14_method_125_code 130 = .ok (.iinc 4 1, 3) := by decide +kernel
theorem d_X12_mend_133 : decode prog_14_method_125_code 133 = .ok (.goto (-113), 3) := by decide +kernel
theorem d_X12_mend_136 : decode prog_14_method_125_code 136 = .ok (.iload_n 3, 1) := by decide +kernel
theorem d_X12_mend_137 : decode prog_14_method_125_code 137 = .ok (.ifCond .ge 5, 3) := by decide +kernel
theorem d_X12_mend_140 : decode prog_14_method_125_code 140 = .ok (.iconst 0, 1) := by decide +kernel
theorem d_X12_mend_141 : decode prog_14_method_125_code 141 = .ok (.ireturn, 1) := by decide +kernel
theorem d_X12_mend_142 : decode prog_14_method_125_code 142 = .ok (.aload_n 0, 1) := by decide +kernel
theorem d_X12_mend_143 : decode prog_14_method_125_code 143 = .ok (.iload_n 1, 1) := by decide +kernel
theorem d_X12_mend_144 : decode prog_14_method_125_code 144 = .ok (.iload_n 3, 1) := by decide +kernel
theorem d_X12_mend_145 : decode prog_14_method_125_code 145 = .ok (.invokevirtual 595, 3) := by decide +kernel
theorem d_X12_mend_148 : decode prog_14_method_125_code 148 = .ok (.iconst 1, 1) := by decide +kernel
theorem d_X12_mend_149 : decode prog_14_method_125_code 149 = .ok (.ireturn, 1) := by decide +kernel
theorem v_X12_mend_0 {E : EE} {d : Nat} {Q : Option AV → AH → Prop} {x0 : Nat} {x1 : Int32} {x2 : Int32} {G : AH} (h0 : 0 < d) (h : isO E G x0 12 ∧ (wpI E (d - 1) M_X12_isProblem [vr x0, vi x1] G (fun r1 G2 => (¬ r1 = 0 → isO E G2 x0 12 ∧ (wpV E (d - 1) M_X12_know [vr x0, vi x1] G2 (fun G3 => wp E d M_X12_mend 20 [some (vr x0), some (vi x1), some (vi x2), some (vi (-1)), some (vi 0), none, none] [] G3 Q))) ∧ (r1 = 0 → Q (some (vi (-1))) G2)))) : wp E d M_X12_mend 0 [some (vr x0), some (vi x1), some (vi x2), none, none, none, none] [] G Q := by
  refine wp_aload_n (pc := 0) d_X12_mend_0 rfl ?_
  refine wp_iload_n (pc := 1) d_X12_mend_1 rfl ?_
  obtain ⟨ho5, h⟩ := h
  refine wp_invV (pc := 2) (N := M_X12_isProblem) (As := [vi _]) (rest := []) (r := (cn_12, ct_12, 95)) d_X12_mend_2 ml_X12_453 mk_X12_isProblem mv_X12_isProblem h0 ho5 rfl rfl (Nat.le_of_ble_eq_true rfl) ?_
  refine wpM.mono h (fun rr G2 hr => ?_)
  obtain ⟨r1, rfl, h⟩ := hr
  show wp E d M_X12_mend 5 [some (vr _), some (vi _), some (vi _), none, none, none, none] [vi _] G2 Q
  refine wp_if_ne (pc := 5) (tgt := 10) d_X12_mend_5 (by decide) (fun hc => ?_) (fun hc => ?_)
  · have h := h.1 hc
    refine wp_aload_n (pc := 10) d_X12_mend_10 rfl ?_
    refine wp_iload_n (pc := 11) d_X12_mend_11 rfl ?_
    obtain ⟨ho4, h⟩ := h
    refine wp_invV (pc := 12) (N := M_X12_know) (As := [vi _]) (rest := []) (r := (cn_12, ct_12, 95)) d_X12_mend_12 ml_X12_571 mk_X12_know mv_X12_know h0 ho4 rfl rfl (Nat.le_of_ble_eq_true rfl) ?_
    refine wpM.mono h (fun rr G3 hr => ?_)
    obtain ⟨rfl, h⟩ := hr
    show wp E d M_X12_mend 15 [some (vr _), some (vi _), some (vi _), none, none, none, none] [] G3 Q
    refine wp_iconst (pc := 15) (v := (-1)) d_X12_mend_15 rfl ?_
    refine wp_istore_n (pc := 16) (lv' := [some (vr _), some (vi _), some (vi _), some (vi _), none, none, none]) d_X12_mend_16 (by decide) rfl ?_
    refine wp_iconst (pc := 17) (v := 0) d_X12_mend_17 rfl ?_
    refine wp_istore (pc := 18) (lv' := [some (vr _), some (vi _), some (vi _), some (vi _), some (vi _), none, none]) d_X12_mend_18 (by decide) rfl ?_
    refine wp_sub ?_ h
    exact ⟨rfl, ⟨rfl, ⟨rfl, ⟨rfl, ⟨rfl, trivial⟩⟩⟩⟩⟩
  · have h := h.2 hc
    refine wp_iconst (pc := 8) (v := (-1)) d_X12_mend_8 rfl ?_
    exact wp_iret (pc := 9) d_X12_mend_9 rfl h
theorem v_X12_mend_20 {E : EE} {d : Nat} {Q : Option AV → AH → Prop} {x0 : Nat} {x1 : Int32} {x2 : Int32} {x3 : Int32} {x4 : Int32} {G : AH} (h0 : 0 < d) (h : isO E G x0 12 ∧ (isO E G (gR G x0 25) 14 ∧ (vp_in x1 (gN G (gR G x0 25)) ∧ (((gI G (gR G x0 25) (Int32.toNatClampNeg x1)) ≤ x4 → (0 ≤ x3 → wpV E (d - 1) M_X12_putAtHand [vr x0, vi x1, vi x3] G (fun G4 => Q (some (vi 1)) G4)) ∧ (¬ (0 ≤ x3) → Q (some (vi 0)) G)) ∧ (¬ ((gI G (gR G x0 25) (Int32.toNatClampNeg x1)) ≤ x4) → wpI E (d - 1) M_X12_isFeasible [vr x0, vi x4] G (fun r5 G6 => wp E d M_X12_mend 42 [some (vr x0), some (vi x1), some (vi x2), some (vi x3), some (vi x4), some (vi r5), some (vi 0)] [] G6 Q)))))) : wp E d M_X12_mend 20 [some (vr x0), some (vi x1), some (vi x2), some (vi x3), some (vi x4), none, none] [] G Q := by
  refine wp_iload (pc := 20) d_X12_mend_20 rfl ?_
  refine wp_aload_n (pc := 22) d_X12_mend_22 rfl ?_
  obtain ⟨ho1, h⟩ := h
  refine wp_getR (pc := 23) d_X12_mend_23 fl_X12_82 (fun _ _ _ => rfl) ho1 ?_
  refine wp_iload_n (pc := 26) d_X12_mend_26 rfl ?_
  obtain ⟨ho2, h⟩ := h
  obtain ⟨hi3, h⟩ := h
  refine wp_iald (pc := 27) d_X12_mend_27 ho2 hi3 ?_
  refine wp_icmp_ge (pc := 28) (tgt := 136) d_X12_mend_28 (by decide) (fun hc => ?_) (fun hc => ?_)
  · have h := h.1 hc
    refine wp_iload_n (pc := 136) d_X12_mend_136 rfl ?_
    refine wp_if_ge (pc := 137) (tgt := 142) d_X12_mend_137 (by decide) (fun hc => ?_) (fun hc => ?_)
    · have h := h.1 hc
      refine wp_aload_n (pc := 142) d_X12_mend_142 rfl ?_
      refine wp_iload_n (pc := 143) d_X12_mend_143 rfl ?_
      refine wp_iload_n (pc := 144) d_X12_mend_144 rfl ?_
      refine wp_invV (pc := 145) (N := M_X12_putAtHand) (As := [vi _, vi _]) (rest := []) (r := (cn_12, ct_12, 95)) d_X12_mend_145 ml_X12_595 mk_X12_putAtHand mv_X12_putAtHand h0 ho1 rfl rfl (Nat.le_of_ble_eq_true rfl) ?_
      refine wpM.mono h (fun rr G4 hr => ?_)
      obtain ⟨rfl, h⟩ := hr
      show wp E d M_X12_mend 148 [some (vr _), some (vi _), some (vi _), some (vi _), some (vi _), none, none] [] G4 Q
      refine wp_iconst (pc := 148) (v := 1) d_X12_mend_148 rfl ?_
      exact wp_iret (pc := 149) d_X12_mend_149 rfl h
    · have h := h.2 hc
      refine wp_iconst (pc := 140) (v := 0) d_X12_mend_140 rfl ?_
      exact wp_iret (pc := 141) d_X12_mend_141 rfl h
  · have h := h.2 hc
    refine wp_aload_n (pc := 31) d_X12_mend_31 rfl ?_
    refine wp_iload (pc := 32) d_X12_mend_32 rfl ?_
    refine wp_invV (pc := 34) (N := M_X12_isFeasible) (As := [vi _]) (rest := []) (r := (cn_12, ct_12, 95)) d_X12_mend_34 ml_X12_556 mk_X12_isFeasible mv_X12_isFeasible h0 ho1 rfl rfl (Nat.le_of_ble_eq_true rfl) ?_
    refine wpM.mono h (fun rr G6 hr => ?_)
    obtain ⟨r5, rfl, h⟩ := hr
    show wp E d M_X12_mend 37 [some (vr _), some (vi _), some (vi _), some (vi _), some (vi _), none, none] [vi _] G6 Q
    refine wp_istore (pc := 37) (lv' := [some (vr _), some (vi _), some (vi _), some (vi _), some (vi _), some (vi _), none]) d_X12_mend_37 (by decide) rfl ?_
    refine wp_iconst (pc := 39) (v := 0) d_X12_mend_39 rfl ?_
    refine wp_istore (pc := 40) (lv' := [some (vr _), some (vi _), some (vi _), some (vi _), some (vi _), some (vi _), some (vi _)]) d_X12_mend_40 (by decide) rfl ?_
    refine wp_sub ?_ h
    exact ⟨rfl, ⟨rfl, ⟨rfl, ⟨rfl, ⟨rfl, ⟨rfl, ⟨rfl, trivial⟩⟩⟩⟩⟩⟩⟩
theorem v_X12_mend_42 {E : EE} {d : Nat} {Q : Option AV → AH → Prop} {x0 : Nat} {x1 : Int32} {x2 : Int32} {x3 : Int32} {x4 : Int32} {x5 : Int32} {x6 : Int32} {G : AH} (h0 : 0 < d) (h : (x5 = 0 → wp E d M_X12_mend 104 [some (vr x0), some (vi x1), some (vi x2), some (vi x3), some (vi x4), some (vi x5), some (vi x6)] [] G Q) ∧ (¬ (x5 = 0) → isO E G x0 12 ∧ (wpI E (d - 1) M_X12_vars [vr x0, vi x1] G (fun r1 G2 => (r1 ≤ x6 → wp E d M_X12_mend 104 [some (vr x0), some (vi x1), some (vi x2), some (vi x3), some (vi x4), some (vi x5), some (vi x6)] [] G2 Q) ∧ (¬ (r1 ≤ x6) → (((x2 >>> (x6 &&& 31)) &&& 1) = 1 → wp E d M_X12_mend 91 [some (vr x0), some (vi x1), some (vi x2), some (vi x3), some (vi x4), some (vi x5), some (vi x6)] [] G2 Q) ∧ (¬ (((x2 >>> (x6 &&& 31)) &&& 1) = 1) → isO E G2 x0 12 ∧ (wpI E (d - 1) M_X12_place [vr x0, vi x1, vi x4, vi x6] G2 (fun r3 G4 => isO E G4 x0 12 ∧ (isO E G4 (gR G4 x0 22) 14 ∧ (vp_in ((12 * x1) + x6) (gN G4 (gR G4 x0 22)) ∧ ((¬ r3 = (gI G4 (gR G4 x0 22) (Int32.toNatClampNeg ((12 * x1) + x6))) → wp E d M_X12_mend 96 [some (vr x0), some (vi x1), some (vi x2), some (vi x3), some (vi x4), some (vi x5), some (vi x6)] [vi 0] G4 Q) ∧ (r3 = (gI G4 (gR G4 x0 22) (Int32.toNatClampNeg ((12 * x1) + x6))) → wp E d M_X12_mend 91 [some (vr x0), some (vi x1), some (vi x2), some (vi x3), some (vi x4), some (vi x5), some (vi x6)] [] G4 Q)))))))))))) : wp E d M_X12_mend 42 [some (vr x0), some (vi x1), some (vi x2), some (vi x3), some (vi x4), some (vi x5), some (vi x6)] [] G Q := by
  refine wp_iload (pc := 42) d_X12_mend_42 rfl ?_
  refine wp_if_eq (pc := 44) (tgt := 104) d_X12_mend_44 (by decide) (fun hc => ?_) (fun hc => ?_)
  · have h := h.1 hc
    refine wp_sub ?_ h
    exact ⟨rfl, ⟨rfl, ⟨rfl, ⟨rfl, ⟨rfl, ⟨rfl, ⟨rfl, trivial⟩⟩⟩⟩⟩⟩⟩
  · have h := h.2 hc
    refine wp_iload (pc := 47) d_X12_mend_47 rfl ?_
    refine wp_aload_n (pc := 49) d_X12_mend_49 rfl ?_
    refine wp_iload_n (pc := 50) d_X12_mend_50 rfl ?_
    obtain ⟨ho9, h⟩ := h
    refine wp_invV (pc := 51) (N := M_X12_vars) (As := [vi _]) (rest := [vi _]) (r := (cn_12, ct_12, 95)) d_X12_mend_51 ml_X12_456 mk_X12_vars mv_X12_vars h0 ho9 rfl rfl (Nat.le_of_ble_eq_true rfl) ?_
    refine wpM.mono h (fun rr G2 hr => ?_)
    obtain ⟨r1, rfl, h⟩ := hr
    show wp E d M_X12_mend 54 [some (vr _), some (vi _), some (vi _), some (vi _), some (vi _), some (vi _), some (vi _)] [vi _, vi _] G2 Q
    refine wp_icmp_ge (pc := 54) (tgt := 104) d_X12_mend_54 (by decide) (fun hc => ?_) (fun hc => ?_)
    · have h := h.1 hc
      refine wp_sub ?_ h
      exact ⟨rfl, ⟨rfl, ⟨rfl, ⟨rfl, ⟨rfl, ⟨rfl, ⟨rfl, trivial⟩⟩⟩⟩⟩⟩⟩
    · have h := h.2 hc
      refine wp_iload_n (pc := 57) d_X12_mend_57 rfl ?_
      refine wp_iload (pc := 58) d_X12_mend_58 rfl ?_
      refine wp_ishr (pc := 60) d_X12_mend_60 ?_
      refine wp_iconst (pc := 61) (v := 1) d_X12_mend_61 rfl ?_
      refine wp_iand (pc := 62) d_X12_mend_62 ?_
      refine wp_iconst (pc := 63) (v := 1) d_X12_mend_63 rfl ?_
      refine wp_icmp_eq (pc := 64) (tgt := 91) d_X12_mend_64 (by decide) (fun hc => ?_) (fun hc => ?_)
      · have h := h.1 hc
        refine wp_sub ?_ h
        exact ⟨rfl, ⟨rfl, ⟨rfl, ⟨rfl, ⟨rfl, ⟨rfl, ⟨rfl, trivial⟩⟩⟩⟩⟩⟩⟩
      · have h := h.2 hc
        refine wp_aload_n (pc := 67) d_X12_mend_67 rfl ?_
        refine wp_iload_n (pc := 68) d_X12_mend_68 rfl ?_
        refine wp_iload (pc := 69) d_X12_mend_69 rfl ?_
        refine wp_iload (pc := 71) d_X12_mend_71 rfl ?_
        obtain ⟨ho8, h⟩ := h
        refine wp_invV (pc := 73) (N := M_X12_place) (As := [vi _, vi _, vi _]) (rest := []) (r := (cn_12, ct_12, 95)) d_X12_mend_73 ml_X12_537 mk_X12_place mv_X12_place h0 ho8 rfl rfl (Nat.le_of_ble_eq_true rfl) ?_
        refine wpM.mono h (fun rr G4 hr => ?_)
        obtain ⟨r3, rfl, h⟩ := hr
        show wp E d M_X12_mend 76 [some (vr _), some (vi _), some (vi _), some (vi _), some (vi _), some (vi _), some (vi _)] [vi _] G4 Q
        refine wp_aload_n (pc := 76) d_X12_mend_76 rfl ?_
        obtain ⟨ho5, h⟩ := h
        refine wp_getR (pc := 77) d_X12_mend_77 fl_X12_73 (fun _ _ _ => rfl) ho5 ?_
        refine wp_bipush (pc := 80) (v := 12) d_X12_mend_80 rfl ?_
        refine wp_iload_n (pc := 82) d_X12_mend_82 rfl ?_
        refine wp_imul (pc := 83) d_X12_mend_83 ?_
        refine wp_iload (pc := 84) d_X12_mend_84 rfl ?_
        refine wp_iadd (pc := 86) d_X12_mend_86 ?_
        obtain ⟨ho6, h⟩ := h
        obtain ⟨hi7, h⟩ := h
        refine wp_iald (pc := 87) d_X12_mend_87 ho6 hi7 ?_
        refine wp_icmp_ne (pc := 88) (tgt := 95) d_X12_mend_88 (by decide) (fun hc => ?_) (fun hc => ?_)
        · have h := h.1 hc
          refine wp_iconst (pc := 95) (v := 0) d_X12_mend_95 rfl ?_
          refine wp_sub ?_ h
          exact ⟨rfl, ⟨rfl, ⟨rfl, ⟨rfl, ⟨rfl, ⟨rfl, ⟨rfl, trivial⟩⟩⟩⟩⟩⟩⟩
        · have h := h.2 hc
          refine wp_sub ?_ h
          exact ⟨rfl, ⟨rfl, ⟨rfl, ⟨rfl, ⟨rfl, ⟨rfl, ⟨rfl, trivial⟩⟩⟩⟩⟩⟩⟩
theorem v_X12_mend_91 {E : EE} {d : Nat} {Q : Option AV → AH → Prop} {x0 : Nat} {x1 : Int32} {x2 : Int32} {x3 : Int32} {x4 : Int32} {x5 : Int32} {x6 : Int32} {G : AH} (h : wp E d M_X12_mend 96 [some (vr x0), some (vi x1), some (vi x2), some (vi x3), some (vi x4), some (vi x5), some (vi x6)] [vi 1] G Q) : wp E d M_X12_mend 91 [some (vr x0), some (vi x1), some (vi x2), some (vi x3), some (vi x4), some (vi x5), some (vi x6)] [] G Q := by
  refine wp_iconst (pc := 91) (v := 1) d_X12_mend_91 rfl ?_
  refine wp_goto (pc := 92) (tgt := 96) d_X12_mend_92 (by decide) ?_
  refine wp_sub ?_ h
  exact ⟨rfl, ⟨rfl, ⟨rfl, ⟨rfl, ⟨rfl, ⟨rfl, ⟨rfl, trivial⟩⟩⟩⟩⟩⟩⟩
theorem v_X12_mend_96 {E : EE} {d : Nat} {Q : Option AV → AH → Prop} {x0 : Nat} {x1 : Int32} {x2 : Int32} {x3 : Int32} {x4 : Int32} {x5 : Int32} {x6 : Int32} {t0 : Int32} {G : AH} (h : wp E d M_X12_mend 42 [some (vr x0), some (vi x1), some (vi x2), some (vi x3), some (vi x4), some (vi t0), some (vi (x6 + 1))] [] G Q) : wp E d M_X12_mend 96 [some (vr x0), some (vi x1), some (vi x2), some (vi x3), some (vi x4), some (vi x5), some (vi x6)] [vi t0] G Q := by
  refine wp_istore (pc := 96) (lv' := [some (vr _), some (vi _), some (vi _), some (vi _), some (vi _), some (vi _), some (vi _)]) d_X12_mend_96 (by decide) rfl ?_
  refine wp_iinc (pc := 98) (v := 1) (lv' := [some (vr _), some (vi _), some (vi _), some (vi _), some (vi _), some (vi _), some (vi _)]) d_X12_mend_98 (by decide) rfl rfl rfl ?_
  refine wp_goto (pc := 101) (tgt := 42) d_X12_mend_101 (by decide) ?_
  refine wp_sub ?_ h
  exact ⟨rfl, ⟨rfl, ⟨rfl, ⟨rfl, ⟨rfl, ⟨rfl, ⟨rfl, trivial⟩⟩⟩⟩⟩⟩⟩
theorem v_X12_mend_104 {E : EE} {d : Nat} {Q : Option AV → AH → Prop} {x0 : Nat} {x1 : Int32} {x2 : Int32} {x3 : Int32} {x4 : Int32} {x5 : Int32} {x6 : Int32} {G : AH} (h0 : 0 < d) (h : (x5 = 0 → wp E d M_X12_mend 128 [some (vr x0), some (vi x1), some (vi x2), some (vi x3), some (vi x4), some (vi x5), some (vi x6)] [] G Q) ∧ (¬ (x5 = 0) → (x3 < 0 → wp E d M_X12_mend 123 [some (vr x0), some (vi x1), some (vi x2), some (vi x3), some (vi x4), some (vi x5), some (vi x6)] [] G Q) ∧ (¬ (x3 < 0) → isO E G x0 12 ∧ (wpI E (d - 1) M_X12_isBetter [vr x0, vi x4, vi x3] G (fun r1 G2 => (r1 = 0 → wp E d M_X12_mend 128 [some (vr x0), some (vi x1), some (vi x2), some (vi x3), some (vi x4), some (vi x5), some (vi x6)] [] G2 Q) ∧ (¬ (r1 = 0) → wp E d M_X12_mend 123 [some (vr x0), some (vi x1), some (vi x2), some (vi x3), some (vi x4), some (vi x5), some (vi x6)] [] G2 Q)))))) : wp E d M_X12_mend 104 [some (vr x0), some (vi x1), some (vi x2), some (vi x3), some (vi x4), some (vi x5), some (vi x6)] [] G Q := by
  refine wp_iload (pc := 104) d_X12_mend_104 rfl ?_
  refine wp_if_eq (pc := 106) (tgt := 128) d_X12_mend_106 (by decide) (fun hc => ?_) (fun hc => ?_)
  · have h := h.1 hc
    refine wp_sub ?_ h
    exact ⟨rfl, ⟨rfl, ⟨rfl, ⟨rfl, ⟨rfl, ⟨rfl, ⟨rfl, trivial⟩⟩⟩⟩⟩⟩⟩
  · have h := h.2 hc
    refine wp_iload_n (pc := 109) d_X12_mend_109 rfl ?_
    refine wp_if_lt (pc := 110) (tgt := 123) d_X12_mend_110 (by decide) (fun hc => ?_) (fun hc => ?_)
    · have h := h.1 hc
      refine wp_sub ?_ h
      exact ⟨rfl, ⟨rfl, ⟨rfl, ⟨rfl, ⟨rfl, ⟨rfl, ⟨rfl, trivial⟩⟩⟩⟩⟩⟩⟩
    · have h := h.2 hc
      refine wp_aload_n (pc := 113) d_X12_mend_113 rfl ?_
      refine wp_iload (pc := 114) d_X12_mend_114 rfl ?_
      refine wp_iload_n (pc := 116) d_X12_mend_116 rfl ?_
      obtain ⟨ho3, h⟩ := h
      refine wp_invV (pc := 117) (N := M_X12_isBetter) (As := [vi _, vi _]) (rest := []) (r := (cn_12, ct_12, 95)) d_X12_mend_117 ml_X12_565 mk_X12_isBetter mv_X12_isBetter h0 ho3 rfl rfl (Nat.le_of_ble_eq_true rfl) ?_
      refine wpM.mono h (fun rr G2 hr => ?_)
      obtain ⟨r1, rfl, h⟩ := hr
      show wp E d M_X12_mend 120 [some (vr _), some (vi _), some (vi _), some (vi _), some (vi _), some (vi _), some (vi _)] [vi _] G2 Q
      refine wp_if_eq (pc := 120) (tgt := 128) d_X12_mend_120 (by decide) (fun hc => ?_) (fun hc => ?_)
      · have h := h.1 hc
        refine wp_sub ?_ h
        exact ⟨rfl, ⟨rfl, ⟨rfl, ⟨rfl, ⟨rfl, ⟨rfl, ⟨rfl, trivial⟩⟩⟩⟩⟩⟩⟩
      · have h := h.2 hc
        refine wp_sub ?_ h
        exact ⟨rfl, ⟨rfl, ⟨rfl, ⟨rfl, ⟨rfl, ⟨rfl, ⟨rfl, trivial⟩⟩⟩⟩⟩⟩⟩
theorem v_X12_mend_123 {E : EE} {d : Nat} {Q : Option AV → AH → Prop} {x0 : Nat} {x1 : Int32} {x2 : Int32} {x3 : Int32} {x4 : Int32} {x5 : Int32} {x6 : Int32} {G : AH} (h : wp E d M_X12_mend 129 [some (vr x0), some (vi x1), some (vi x2), some (vi x3), some (vi x4), some (vi x5), some (vi x6)] [vi x4] G Q) : wp E d M_X12_mend 123 [some (vr x0), some (vi x1), some (vi x2), some (vi x3), some (vi x4), some (vi x5), some (vi x6)] [] G Q := by
  refine wp_iload (pc := 123) d_X12_mend_123 rfl ?_
  refine wp_goto (pc := 125) (tgt := 129) d_X12_mend_125 (by decide) ?_
  refine wp_sub ?_ h
  exact ⟨rfl, ⟨rfl, ⟨rfl, ⟨rfl, ⟨rfl, ⟨rfl, ⟨rfl, trivial⟩⟩⟩⟩⟩⟩⟩
theorem v_X12_mend_128 {E : EE} {d : Nat} {Q : Option AV → AH → Prop} {x0 : Nat} {x1 : Int32} {x2 : Int32} {x3 : Int32} {x4 : Int32} {x5 : Int32} {x6 : Int32} {G : AH} (h : wp E d M_X12_mend 129 [some (vr x0), some (vi x1), some (vi x2), some (vi x3), some (vi x4), some (vi x5), some (vi x6)] [vi x3] G Q) : wp E d M_X12_mend 128 [some (vr x0), some (vi x1), some (vi x2), some (vi x3), some (vi x4), some (vi x5), some (vi x6)] [] G Q := by
  refine wp_iload_n (pc := 128) d_X12_mend_128 rfl ?_
  refine wp_sub ?_ h
  exact ⟨rfl, ⟨rfl, ⟨rfl, ⟨rfl, ⟨rfl, ⟨rfl, ⟨rfl, trivial⟩⟩⟩⟩⟩⟩⟩
theorem v_X12_mend_129 {E : EE} {d : Nat} {Q : Option AV → AH → Prop} {x0 : Nat} {x1 : Int32} {x2 : Int32} {x3 : Int32} {x4 : Int32} {x5 : Int32} {x6 : Int32} {t0 : Int32} {G : AH} (h : wp E d M_X12_mend 20 [some (vr x0), some (vi x1), some (vi x2), some (vi t0), some (vi (x4 + 1)), none, none] [] G Q) : wp E d M_X12_mend 129 [some (vr x0), some (vi x1), some (vi x2), some (vi x3), some (vi x4), some (vi x5), some (vi x6)] [vi t0] G Q := by
  refine wp_istore_n (pc := 129) (lv' := [some (vr _), some (vi _), some (vi _), some (vi _), some (vi _), some (vi _), some (vi _)]) d_X12_mend_129 (by decide) rfl ?_
  refine wp_iinc (pc := 130) (v := 1) (lv' := [some (vr _), some (vi _), some (vi _), some (vi _), some (vi _), some (vi _), some (vi _)]) d_X12_mend_130 (by decide) rfl rfl rfl ?_
  refine wp_goto (pc := 133) (tgt := 20) d_X12_mend_133 (by decide) ?_
  refine wp_sub ?_ h
  exact ⟨rfl, ⟨rfl, ⟨rfl, ⟨rfl, ⟨rfl, trivial⟩⟩⟩⟩⟩
theorem d_X12_choices_0 : decode prog_14_method_124_code 0 = .ok (.aload_n 0, 1) := by decide +kernel
theorem d_X12_choices_1 : decode prog_14_method_124_code 1 = .ok (.iload_n 1, 1) := by decide +kernel
theorem d_X12_choices_2 : decode prog_14_method_124_code 2 = .ok (.iload_n 2, 1) := by decide +kernel
theorem d_X12_choices_3 : decode prog_14_method_124_code 3 = .ok (.invokevirtual 462, 3) := by decide +kernel
theorem d_X12_choices_6 : decode prog_14_method_124_code 6 = .ok (.ifCond .ne 5, 3) := by decide +kernel
theorem d_X12_choices_9 : decode prog_14_method_124_code 9 = .ok (.iconst (-1), 1) := by decide +kernel
theorem d_X12_choices_10 : decode prog_14_method_124_code 10 = .ok (.ireturn, 1) := by decide +kernel
theorem d_X12_choices_11 : decode prog_14_method_124_code 11 = .ok (.aload_n 0, 1) := by decide +kernel
theorem d_X12_choices_12 : decode prog_14_method_124_code 12 = .ok (.iload_n 1, 1) := by decide +kernel
theorem d_X12_choices_13 : decode prog_14_method_124_code 13 = .ok (.invokevirtual 571, 3) := by decide +kernel
theorem d_X12_choices_16 : decode prog_14_method_124_code 16 = .ok (.aload_n 0, 1) := by decide +kernel
theorem d_X12_choices_17 : decode prog_14_method_124_code 17 = .ok (.iload_n 1, 1) := by decide +kernel
theorem d_X12_choices_18 : decode prog_14_method_124_code 18 = .ok (.iconst (-1), 1) := by decide +kernel
theorem d_X12_choices_19 : decode prog_14_method_124_code 19 = .ok (.iconst 0, 1) := by decide +kernel
theorem d_X12_choices_20 : decode prog_14_method_124_code 20 = .ok (.invokevirtual 592, 3) := by decide +kernel
theorem d_X12_choices_23 : decode prog_14_method_124_code 23 = .ok (.istore_n 3, 1) := by decide +kernel
theorem d_X12_choices_24 : decode prog_14_method_124_code 24 = .ok (.iconst 0, 1) := by decide +kernel
theorem d_X12_choices_25 : decode prog_14_method_124_code 25 = .ok (.istore 4, 2) := by decide +kernel
theorem d_X12_choices_27 : decode prog_14_method_124_code 27 = .ok (.iconst 0, 1) := by decide +kernel
theorem d_X12_choices_28 : decode prog_14_method_124_code 28 = .ok (.istore 5, 2) := by decide +kernel
theorem d_X12_choices_30 : decode prog_14_method_124_code 30 = .ok (.iload 5, 2) := by decide +kernel
theorem d_X12_choices_32 : decode prog_14_method_124_code 32 = .ok (.aload_n 0, 1) := by decide +kernel
theorem d_X12_choices_33 : decode prog_14_method_124_code 33 = .ok (.getfield 82, 3) := by decide +kernel
theorem d_X12_choices_36 : decode prog_14_method_124_code 36 = .ok (.iload_n 1, 1) := by decide +kernel
theorem d_X12_choices_37 : decode prog_14_method_124_code 37 = .ok (.iaload, 1) := by decide +kernel
theorem d_X12_choices_38 : decode prog_14_method_124_code 38 = .ok (.if_icmp .ge 39, 3) := by decide +kernel
theorem d_X12_choices_41 : decode prog_14_method_124_code 41 = .ok (.iload 4, 2) := by decide +kernel
theorem d_X12_choices_43 : decode prog_14_method_124_code 43 = .ok (.aload_n 0, 1) := by decide +kernel
theorem d_X12_choices_44 : decode prog_14_method_124_code 44 = .ok (.iload_n 1, 1) := by decide +kernel
theorem d_X12_choices_45 : decode prog_14_method_124_code 45 = .ok (.iload 5, 2) := by decide +kernel
theorem d_X12_choices_47 : decode prog_14_method_124_code 47 = .ok (.iload_n 3, 1) := by decide +kernel
theorem d_X12_choices_48 : decode prog_14_method_124_code 48 = .ok (.invokevirtual 598, 3) := by decide +kernel
theorem d_X12_choices_51 : decode prog_14_method_124_code 51 = .ok (.ifCond .eq 16, 3) := by decide +kernel
theorem d_X12_choices_54 : decode prog_14_method_124_code 54 = .ok (.iconst 1, 1) := by decide +kernel
theorem d_X12_choices_55 : decode prog_14_method_124_code 55 = .ok (.aload_n 0, 1) := by decide +kernel
theorem d_X12_choices_56 : decode prog_14_method_124_code 56 = .ok (.iload_n 1, 1) := by decide +kernel
theorem d_X12_choices_57 : decode prog_14_method_124_code 57 = .ok (.iload 5, 2) := by decide +kernel
theorem d_X12_choices_59 : decode prog_14_method_124_code 59 = .ok (.iload_n 2, 1) := by decide +kernel
theorem d_X12_choices_60 : decode prog_14_method_124_code 60 = .ok (.invokevirtual 537, 3) := by decide +kernel
theorem d_X12_choices_63 : decode prog_14_method_124_code 63 = .ok (.ishl, 1) := by decide +kernel
theorem d_X12_choices_64 : decode prog_14_method_124_code 64 = .ok (.goto 4, 3) := by decide +kernel
theorem d_X12_choices_67 : decode prog_14_method_124_code 67 = .ok (.iconst 0, 1) := by decide +kernel
theorem d_X12_choices_68 : decode prog_14_method_124_code 68 = .ok (.ior, 1) := by decide +kernel
theorem d_X12_choices_69 : decode prog_14_method_124_code 69 = .ok (.istore 4, 2) := by decide +kernel
theorem d_X12_choices_71 : decode prog_14_method_124_code 71 = .ok (.iinc 5 1, 3) := by decide +kernel
theorem d_X12_choices_74 : decode prog_14_method_124_code 74 = .ok (.goto (-44), 3) := by decide +kernel
theorem d_X12_choices_77 : decode prog_14_method_124_code 77 = .ok (.iconst 0, 1) := by decide +kernel
theorem d_X12_choices_78 : decode prog_14_method_124_code 78 = .ok (.istore 5, 2) := by decide +kernel
theorem d_X12_choices_80 : decode prog_14_method_124_code 80 = .ok (.iconst 0, 1) := by decide +kernel
theorem d_X12_choices_81 : decode prog_14_method_124_code 81 = .ok (.istore 6, 2) := by decide +kernel
theorem d_X12_choices_83 : decode prog_14_method_124_code 83 = .ok (.iload 6, 2) := by decide +kernel
theorem d_X12_choices_85 : decode prog_14_method_124_code 85 = .ok (.bipush 20, 2) := by decide +kernel
theorem d_X12_choices_87 : decode prog_14_method_124_code 87 = .ok (.if_icmp .ge 21, 3) := by decide +kernel
theorem d_X12_choices_90 : decode prog_14_method_124_code 90 = .ok (.iload 5, 2) := by decide +kernel
theorem d_X12_choices_92 : decode prog_14_method_124_code 92 = .ok (.iload 4, 2) := by decide +kernel
theorem d_X12_choices_94 : decode prog_14_method_124_code 94 = .ok (.iload 6, 2) := by decide +kernel
theorem d_X12_choices_96 : decode prog_14_method_124_code 96 = .ok (.ishr, 1) := by decide +kernel
theorem d_X12_choices_97 : decode prog_14_method_124_code 97 = .ok (.iconst 1, 1) := by decide +kernel
theorem d_X12_choices_98 : decode prog_14_method_124_code 98 = .ok (.iand, 1) := by decide +kernel
theorem d_X12_choices_99 : decode prog_14_method_124_code 99 = .ok (.iadd, 1) := by decide +kernel
theorem d_X12_choices_100 : decode prog_14_method_124_code 100 = .ok (.istore 5, 2) := by decide +kernel
theorem d_X12_choices_102 : decode prog_14_method_124_code 102 = .ok (.iinc 6 1, 3) := by decide +kernel
theorem d_X12_choices_105 : decode prog_14_method_124_code 105 = .ok (.goto (-22), 3) := by decide +kernel
theorem d_X12_choices_108 : decode prog_14_method_124_code 108 = .ok (.iload 5, 2) := by decide +kernel
theorem d_X12_choices_110 : decode prog_14_method_124_code 110 = .ok (.ireturn, 1) := by decide +kernel
theorem v_X12_choices_0 {E : EE} {d : Nat} {Q : Option AV → AH → Prop} {x0 : Nat} {x1 : Int32} {x2 : Int32} {G : AH} (h0 : 0 < d) (h : isO E G x0 12 ∧ (wpI E (d - 1) M_X12_isVar [vr x0, vi x1, vi x2] G (fun r1 G2 => (¬ r1 = 0 → isO E G2 x0 12 ∧ (wpV E (d - 1) M_X12_know [vr x0, vi x1] G2 (fun G3 => isO E G3 x0 12 ∧ (wpI E (d - 1) M_X12_firstBest [vr x0, vi x1, vi (-1), vi 0] G3 (fun r4 G5 => wp E d M_X12_choices 30 [some (vr x0), some (vi x1), some (vi x2), some (vi r4), some (vi 0), some (vi 0), none] [] G5 Q))))) ∧ (r1 = 0 → Q (some (vi (-1))) G2)))) : wp E d M_X12_choices 0 [some (vr x0), some (vi x1), some (vi x2), none, none, none, none] [] G Q := by
  refine wp_aload_n (pc := 0) d_X12_choices_0 rfl ?_
  refine wp_iload_n (pc := 1) d_X12_choices_1 rfl ?_
  refine wp_iload_n (pc := 2) d_X12_choices_2 rfl ?_
  obtain ⟨ho8, h⟩ := h
  refine wp_invV (pc := 3) (N := M_X12_isVar) (As := [vi _, vi _]) (rest := []) (r := (cn_12, ct_12, 95)) d_X12_choices_3 ml_X12_462 mk_X12_isVar mv_X12_isVar h0 ho8 rfl rfl (Nat.le_of_ble_eq_true rfl) ?_
  refine wpM.mono h (fun rr G2 hr => ?_)
  obtain ⟨r1, rfl, h⟩ := hr
  show wp E d M_X12_choices 6 [some (vr _), some (vi _), some (vi _), none, none, none, none] [vi _] G2 Q
  refine wp_if_ne (pc := 6) (tgt := 11) d_X12_choices_6 (by decide) (fun hc => ?_) (fun hc => ?_)
  · have h := h.1 hc
    refine wp_aload_n (pc := 11) d_X12_choices_11 rfl ?_
    refine wp_iload_n (pc := 12) d_X12_choices_12 rfl ?_
    obtain ⟨ho7, h⟩ := h
    refine wp_invV (pc := 13) (N := M_X12_know) (As := [vi _]) (rest := []) (r := (cn_12, ct_12, 95)) d_X12_choices_13 ml_X12_571 mk_X12_know mv_X12_know h0 ho7 rfl rfl (Nat.le_of_ble_eq_true rfl) ?_
    refine wpM.mono h (fun rr G3 hr => ?_)
    obtain ⟨rfl, h⟩ := hr
    show wp E d M_X12_choices 16 [some (vr _), some (vi _), some (vi _), none, none, none, none] [] G3 Q
    refine wp_aload_n (pc := 16) d_X12_choices_16 rfl ?_
    refine wp_iload_n (pc := 17) d_X12_choices_17 rfl ?_
    refine wp_iconst (pc := 18) (v := (-1)) d_X12_choices_18 rfl ?_
    refine wp_iconst (pc := 19) (v := 0) d_X12_choices_19 rfl ?_
    obtain ⟨ho6, h⟩ := h
    refine wp_invV (pc := 20) (N := M_X12_firstBest) (As := [vi _, vi _, vi _]) (rest := []) (r := (cn_12, ct_12, 95)) d_X12_choices_20 ml_X12_592 mk_X12_firstBest mv_X12_firstBest h0 ho6 rfl rfl (Nat.le_of_ble_eq_true rfl) ?_
    refine wpM.mono h (fun rr G5 hr => ?_)
    obtain ⟨r4, rfl, h⟩ := hr
    show wp E d M_X12_choices 23 [some (vr _), some (vi _), some (vi _), none, none, none, none] [vi _] G5 Q
    refine wp_istore_n (pc := 23) (lv' := [some (vr _), some (vi _), some (vi _), some (vi _), none, none, none]) d_X12_choices_23 (by decide) rfl ?_
    refine wp_iconst (pc := 24) (v := 0) d_X12_choices_24 rfl ?_
    refine wp_istore (pc := 25) (lv' := [some (vr _), some (vi _), some (vi _), some (vi _), some (vi _), none, none]) d_X12_choices_25 (by decide) rfl ?_
    refine wp_iconst (pc := 27) (v := 0) d_X12_choices_27 rfl ?_
    refine wp_istore (pc := 28) (lv' := [some (vr _), some (vi _), some (vi _), some (vi _), some (vi _), some (vi _), none]) d_X12_choices_28 (by decide) rfl ?_
    refine wp_sub ?_ h
    exact ⟨rfl, ⟨rfl, ⟨rfl, ⟨rfl, ⟨rfl, ⟨rfl, trivial⟩⟩⟩⟩⟩⟩
  · have h := h.2 hc
    refine wp_iconst (pc := 9) (v := (-1)) d_X12_choices_9 rfl ?_
    exact wp_iret (pc := 10) d_X12_choices_10 rfl h
theorem v_X12_choices_30 {E : EE} {d : Nat} {Q : Option AV → AH → Prop} {x0 : Nat} {x1 : Int32} {x2 : Int32} {x3 : Int32} {x4 : Int32} {x5 : Int32} {G : AH} (h0 : 0 < d) (h : isO E G x0 12 ∧ (isO E G (gR G x0 25) 14 ∧ (vp_in x1 (gN G (gR G x0 25)) ∧ (((gI G (gR G x0 25) (Int32.toNatClampNeg x1)) ≤ x5 → wp E d M_X12_choices 83 [some (vr x0), some (vi x1), some (vi x2), some (vi x3), some (vi x4), some (vi 0), some (vi 0)] [] G Q) ∧ (¬ ((gI G (gR G x0 25) (Int32.toNatClampNeg x1)) ≤ x5) → wpI E (d - 1) M_X12_isBest [vr x0, vi x1, vi x5, vi x3] G (fun r4 G5 => (r4 = 0 → wp E d M_X12_choices 68 [some (vr x0), some (vi x1), some (vi x2), some (vi x3), some (vi x4), some (vi x5), none] [vi 0, vi x4] G5 Q) ∧ (¬ (r4 = 0) → isO E G5 x0 12 ∧ (wpI E (d - 1) M_X12_place [vr x0, vi x1, vi x5, vi x2] G5 (fun r6 G7 => wp E d M_X12_choices 68 [some (vr x0), some (vi x1), some (vi x2), some (vi x3), some (vi x4), some (vi x5), none] [vi (1 <<< (r6 &&& 31)), vi x4] G7 Q))))))))) : wp E d M_X12_choices 30 [some (vr x0), some (vi x1), some (vi x2), some (vi x3), some (vi x4), some (vi x5), none] [] G Q := by
  refine wp_iload (pc := 30) d_X12_choices_30 rfl ?_
  refine wp_aload_n (pc := 32) d_X12_choices_32 rfl ?_
  obtain ⟨ho1, h⟩ := h
  refine wp_getR (pc := 33) d_X12_choices_33 fl_X12_82 (fun _ _ _ => rfl) ho1 ?_
  refine wp_iload_n (pc := 36) d_X12_choices_36 rfl ?_
  obtain ⟨ho2, h⟩ := h
  obtain ⟨hi3, h⟩ := h
  refine wp_iald (pc := 37) d_X12_choices_37 ho2 hi3 ?_
  refine wp_icmp_ge (pc := 38) (tgt := 77) d_X12_choices_38 (by decide) (fun hc => ?_) (fun hc => ?_)
  · have h := h.1 hc
    refine wp_iconst (pc := 77) (v := 0) d_X12_choices_77 rfl ?_
    refine wp_istore (pc := 78) (lv' := [some (vr _), some (vi _), some (vi _), some (vi _), some (vi _), some (vi _), none]) d_X12_choices_78 (by decide) rfl ?_
    refine wp_iconst (pc := 80) (v := 0) d_X12_choices_80 rfl ?_
    refine wp_istore (pc := 81) (lv' := [some (vr _), some (vi _), some (vi _), some (vi _), some (vi _), some (vi _), some (vi _)]) d_X12_choices_81 (by decide) rfl ?_
    refine wp_sub ?_ h
    exact ⟨rfl, ⟨rfl, ⟨rfl, ⟨rfl, ⟨rfl, ⟨rfl, ⟨rfl, trivial⟩⟩⟩⟩⟩⟩⟩
  · have h := h.2 hc
    refine wp_iload (pc := 41) d_X12_choices_41 rfl ?_
    refine wp_aload_n (pc := 43) d_X12_choices_43 rfl ?_
    refine wp_iload_n (pc := 44) d_X12_choices_44 rfl ?_
    refine wp_iload (pc := 45) d_X12_choices_45 rfl ?_
    refine wp_iload_n (pc := 47) d_X12_choices_47 rfl ?_
    refine wp_invV (pc := 48) (N := M_X12_isBest) (As := [vi _, vi _, vi _]) (rest := [vi _]) (r := (cn_12, ct_12, 95)) d_X12_choices_48 ml_X12_598 mk_X12_isBest mv_X12_isBest h0 ho1 rfl rfl (Nat.le_of_ble_eq_true rfl) ?_
    refine wpM.mono h (fun rr G5 hr => ?_)
    obtain ⟨r4, rfl, h⟩ := hr
    show wp E d M_X12_choices 51 [some (vr _), some (vi _), some (vi _), some (vi _), some (vi _), some (vi _), none] [vi _, vi _] G5 Q
    refine wp_if_eq (pc := 51) (tgt := 67) d_X12_choices_51 (by decide) (fun hc => ?_) (fun hc => ?_)
    · have h := h.1 hc
      refine wp_iconst (pc := 67) (v := 0) d_X12_choices_67 rfl ?_
      refine wp_sub ?_ h
      exact ⟨rfl, ⟨rfl, ⟨rfl, ⟨rfl, ⟨rfl, ⟨rfl, trivial⟩⟩⟩⟩⟩⟩
    · have h := h.2 hc
      refine wp_iconst (pc := 54) (v := 1) d_X12_choices_54 rfl ?_
      refine wp_aload_n (pc := 55) d_X12_choices_55 rfl ?_
      refine wp_iload_n (pc := 56) d_X12_choices_56 rfl ?_
      refine wp_iload (pc := 57) d_X12_choices_57 rfl ?_
      refine wp_iload_n (pc := 59) d_X12_choices_59 rfl ?_
      obtain ⟨ho8, h⟩ := h
      refine wp_invV (pc := 60) (N := M_X12_place) (As := [vi _, vi _, vi _]) (rest := [vi _, vi _]) (r := (cn_12, ct_12, 95)) d_X12_choices_60 ml_X12_537 mk_X12_place mv_X12_place h0 ho8 rfl rfl (Nat.le_of_ble_eq_true rfl) ?_
      refine wpM.mono h (fun rr G7 hr => ?_)
      obtain ⟨r6, rfl, h⟩ := hr
      show wp E d M_X12_choices 63 [some (vr _), some (vi _), some (vi _), some (vi _), some (vi _), some (vi _), none] [vi _, vi _, vi _] G7 Q
      refine wp_ishl (pc := 63) d_X12_choices_63 ?_
      refine wp_goto (pc := 64) (tgt := 68) d_X12_choices_64 (by decide) ?_
      refine wp_sub ?_ h
      exact ⟨rfl, ⟨rfl, ⟨rfl, ⟨rfl, ⟨rfl, ⟨rfl, trivial⟩⟩⟩⟩⟩⟩
theorem v_X12_choices_68 {E : EE} {d : Nat} {Q : Option AV → AH → Prop} {x0 : Nat} {x1 : Int32} {x2 : Int32} {x3 : Int32} {x4 : Int32} {x5 : Int32} {t0 : Int32} {t1 : Int32} {G : AH} (h : wp E d M_X12_choices 30 [some (vr x0), some (vi x1), some (vi x2), some (vi x3), some (vi (t0 ||| t1)), some (vi (x5 + 1)), none] [] G Q) : wp E d M_X12_choices 68 [some (vr x0), some (vi x1), some (vi x2), some (vi x3), some (vi x4), some (vi x5), none] [vi t1, vi t0] G Q := by
  refine wp_ior (pc := 68) d_X12_choices_68 ?_
  refine wp_istore (pc := 69) (lv' := [some (vr _), some (vi _), some (vi _), some (vi _), some (vi _), some (vi _), none]) d_X12_choices_69 (by decide) rfl ?_
  refine wp_iinc (pc := 71) (v := 1) (lv' := [some (vr _), some (vi _), some (vi _), some (vi _), some (vi _), some (vi _), none]) d_X12_choices_71 (by decide) rfl rfl rfl ?_
  refine wp_goto (pc := 74) (tgt := 30) d_X12_choices_74 (by decide) ?_
  refine wp_sub ?_ h
  exact ⟨rfl, ⟨rfl, ⟨rfl, ⟨rfl, ⟨rfl, ⟨rfl, trivial⟩⟩⟩⟩⟩⟩
theorem v_X12_choices_83 {E : EE} {d : Nat} {Q : Option AV → AH → Prop} {x0 : Nat} {x1 : Int32} {x2 : Int32} {x3 : Int32} {x4 : Int32} {x5 : Int32} {x6 : Int32} {G : AH} (h : (20 ≤ x6 → Q (some (vi x5)) G) ∧ (¬ (20 ≤ x6) → wp E d M_X12_choices 83 [some (vr x0), some (vi x1), some (vi x2), some (vi x3), some (vi x4), some (vi (x5 + ((x4 >>> (x6 &&& 31)) &&& 1))), some (vi (x6 + 1))] [] G Q)) : wp E d M_X12_choices 83 [some (vr x0), some (vi x1), some (vi x2), some (vi x3), some (vi x4), some (vi x5), some (vi x6)] [] G Q := by
  refine wp_iload (pc := 83) d_X12_choices_83 rfl ?_
  refine wp_bipush (pc := 85) (v := 20) d_X12_choices_85 rfl ?_
  refine wp_icmp_ge (pc := 87) (tgt := 108) d_X12_choices_87 (by decide) (fun hc => ?_) (fun hc => ?_)
  · have h := h.1 hc
    refine wp_iload (pc := 108) d_X12_choices_108 rfl ?_
    exact wp_iret (pc := 110) d_X12_choices_110 rfl h
  · have h := h.2 hc
    refine wp_iload (pc := 90) d_X12_choices_90 rfl ?_
    refine wp_iload (pc := 92) d_X12_choices_92 rfl ?_
    refine wp_iload (pc := 94) d_X12_choices_94 rfl ?_
    refine wp_ishr (pc := 96) d_X12_choices_96 ?_
    refine wp_iconst (pc := 97) (v := 1) d_X12_choices_97 rfl ?_
    refine wp_iand (pc := 98) d_X12_choices_98 ?_
    refine wp_iadd (pc := 99) d_X12_choices_99 ?_
    refine wp_istore (pc := 100) (lv' := [some (vr _), some (vi _), some (vi _), some (vi _), some (vi _), some (vi _), some (vi _)]) d_X12_choices_100 (by decide) rfl ?_
    refine wp_iinc (pc := 102) (v := 1) (lv' := [some (vr _), some (vi _), some (vi _), some (vi _), some (vi _), some (vi _), some (vi _)]) d_X12_choices_102 (by decide) rfl rfl rfl ?_
    refine wp_goto (pc := 105) (tgt := 83) d_X12_choices_105 (by decide) ?_
    refine wp_sub ?_ h
    exact ⟨rfl, ⟨rfl, ⟨rfl, ⟨rfl, ⟨rfl, ⟨rfl, ⟨rfl, trivial⟩⟩⟩⟩⟩⟩⟩
theorem d_X12_has_0 : decode prog_14_method_123_code 0 = .ok (.aload_n 0, 1) := by decide +kernel
theorem d_X12_has_1 : decode prog_14_method_123_code 1 = .ok (.iload_n 1, 1) := by decide +kernel
theorem d_X12_has_2 : decode prog_14_method_123_code 2 = .ok (.iload_n 2, 1) := by decide +kernel
theorem d_X12_has_3 : decode prog_14_method_123_code 3 = .ok (.invokevirtual 462, 3) := by decide +kernel
theorem d_X12_has_6 : decode prog_14_method_123_code 6 = .ok (.ifCond .ne 5, 3) := by decide +kernel
theorem d_X12_has_9 : decode prog_14_method_123_code 9 = .ok (.iconst (-1), 1) := by decide +kernel
theorem d_X12_has_10 : decode prog_14_method_123_code 10 = .ok (.ireturn, 1) := by decide +kernel
theorem d_X12_has_11 : decode prog_14_method_123_code 11 = .ok (.aload_n 0, 1) := by decide +kernel
theorem d_X12_has_12 : decode prog_14_method_123_code 12 = .ok (.iload_n 1, 1) := by decide +kernel
theorem d_X12_has_13 : decode prog_14_method_123_code 13 = .ok (.invokevirtual 571, 3) := by decide +kernel
theorem d_X12_has_16 : decode prog_14_method_123_code 16 = .ok (.aload_n 0, 1) := by decide +kernel
theorem d_X12_has_17 : decode prog_14_method_123_code 17 = .ok (.iload_n 1, 1) := by decide +kernel
theorem d_X12_has_18 : decode prog_14_method_123_code 18 = .ok (.iconst (-1), 1) := by decide +kernel
theorem d_X12_has_19 : decode prog_14_method_123_code 19 = .ok (.iconst 0, 1) := by decide +kernel
theorem d_X12_has_20 : decode prog_14_method_123_code 20 = .ok (.invokevirtual 592, 3) := by decide +kernel
theorem d_X12_has_23 : decode prog_14_method_123_code 23 = .ok (.istore 5, 2) := by decide +kernel
theorem d_X12_has_25 : decode prog_14_method_123_code 25 = .ok (.aload_n 0, 1) := by decide +kernel
theorem d_X12_has_26 : decode prog_14_method_123_code 26 = .ok (.iload_n 1, 1) := by decide +kernel
theorem d_X12_has_27 : decode prog_14_method_123_code 27 = .ok (.iload_n 2, 1) := by decide +kernel
theorem d_X12_has_28 : decode prog_14_method_123_code 28 = .ok (.iload_n 3, 1) := by decide +kernel
theorem d_X12_has_29 : decode prog_14_method_123_code 29 = .ok (.invokevirtual 577, 3) := by decide +kernel
theorem d_X12_has_32 : decode prog_14_method_123_code 32 = .ok (.istore 6, 2) := by decide +kernel
theorem d_X12_has_34 : decode prog_14_method_123_code 34 = .ok (.iconst 0, 1) := by decide +kernel
theorem d_X12_has_35 : decode prog_14_method_123_code 35 = .ok (.istore 7, 2) := by decide +kernel
theorem d_X12_has_37 : decode prog_14_method_123_code 37 = .ok (.iconst 0, 1) := by decide +kernel
theorem d_X12_has_38 : decode prog_14_method_123_code 38 = .ok (.istore 8, 2) := by decide +kernel
theorem d_X12_has_40 : decode prog_14_method_123_code 40 = .ok (.iconst 0, 1) := by decide +kernel
theorem d_X12_has_41 : decode prog_14_method_123_code 41 = .ok (.istore 9, 2) := by decide +kernel
theorem d_X12_has_43 : decode prog_14_method_123_code 43 = .ok (.iload 9, 2) := by decide +kernel
theorem d_X12_has_45 : decode prog_14_method_123_code 45 = .ok (.aload_n 0, 1) := by decide +kernel
theorem d_X12_has_46 : decode prog_14_method_123_code 46 = .ok (.getfield 82, 3) := by decide +kernel
theorem d_X12_has_49 : decode prog_14_method_123_code 49 = .ok (.iload_n 1, 1) := by decide +kernel
theorem d_X12_has_50 : decode prog_14_method_123_code 50 = .ok (.iaload, 1) := by decide +kernel
theorem d_X12_has_51 : decode prog_14_method_123_code 51 = .ok (.if_icmp .ge 65, 3) := by decide +kernel
theorem d_X12_has_54 : decode prog_14_method_123_code 54 = .ok (.iload 4, 2) := by decide +kernel
theorem d_X12_has_56 : decode prog_14_method_123_code 56 = .ok (.ifCond .eq 18, 3) := by decide +kernel
theorem d_X12_has_59 : decode prog_14_method_123_code 59 = .ok (.aload_n 0, 1) := by decide +kernel
theorem d_X12_has_60 : decode prog_14_method_123_code 60 = .ok (.iload_n 1, 1) := by decide +kernel
theorem d_X12_has_61 : decode prog_14_method_123_code 61 = .ok (.iload 9, 2) := by decide +kernel
theorem d_X12_has_63 : decode prog_14_method_123_code 63 = .ok (.iload 5, 2) := by decide +kernel
theorem d_X12_has_65 : decode prog_14_method_123_code 65 = .ok (.invokevirtual 598, 3) := by decide +kernel
theorem d_X12_has_68 : decode prog_14_method_123_code 68 = .ok (.ifCond .eq 42, 3) := by decide +kernel
theorem d_X12_has_71 : decode prog_14_method_123_code 71 = .ok (.goto 13, 3) := by decide +kernel
theorem d_X12_has_74 : decode prog_14_method_123_code 74 = .ok (.aload_n 0, 1) := by decide +kernel
theorem d_X12_has_75 : decode prog_14_method_123_code 75 = .ok (.iload_n 1, 1) := by decide +kernel
theorem d_X12_has_76 : decode prog_14_method_123_code 76 = .ok (.iload 9, 2) := by decide +kernel
theorem d_X12_has_78 : decode prog_14_method_123_code 78 = .ok (.invokevirtual 562, 3) := by decide +kernel
theorem d_X12_has_81 : decode prog_14_method_123_code 81 = .ok (.ifCond .eq 29, 3) := by decide +kernel
theorem d_X12_has_84 : decode prog_14_method_123_code 84 = .ok (.iinc 8 1, 3) := by decide +kernel
theorem d_X12_has_87 : decode prog_14_method_123_code 87 = .ok (.iload 7, 2) := by decide +kernel
theorem d_X12_has_89 : decode prog_14_method_123_code 89 = .ok (.aload_n 0, 1) := by decide +kernel
theorem d_X12_has_90 : decode prog_14_method_123_code 90 = .ok (.iload_n 1, 1) := by decide +kernel
theorem d_X12_has_91 : decode prog_14_method_123_code 91 = .ok (.iload 9, 2) := by decide +kernel
theorem d_X12_has_93 : decode prog_14_method_123_code 93 = .ok (.iload_n 2, 1) := by decide +kernel
theorem d_X12_has_94 : decode prog_14_method_123_code 94 = .ok (.invokevirtual 537, 3) := by decide +kernel
theorem d_X12_has_97 : decode prog_14_method_123_code 97 = .ok (.iload 6, 2) := by decide +kernel
theorem d_X12_has_99 : decode prog_14_method_123_code 99 = .ok (.if_icmp .ne 7, 3) := by decide +kernel
theorem d_X12_has_102 : decode prog_14_method_123_code 102 = .ok (.iconst 1, 1) := by decide +kernel
theorem d_X12_has_103 : decode prog_14_method_123_code 103 = .ok (.goto 4, 3) := by decide +kernel
theorem d_X12_has_106 : decode prog_14_method_123_code 106 = .ok (.iconst 0, 1) := by decide +kernel
theorem d_X12_has_107 : decode prog_14_method_123_code 107 = .ok (.iadd, 1) := by decide +kernel
theorem d_X12_has_108 : decode prog_14_method_123_code 108 = .ok (.istore 7, 2) := by decide +kernel
theorem d_X12_has_110 : decode prog_14_method_123_code 110 = .ok (.iinc 9 1, 3) := by decide +kernel
theorem d_X12_has_113 : decode prog_14_method_123_code 113 = .ok (.goto (-70), 3) := by decide +kernel
theorem d_X12_has_116 : decode prog_14_method_123_code 116 = .ok (.aload_n 0, 1) := by decide +kernel
theorem d_X12_has_117 : decode prog_14_method_123_code 117 = .ok (.iload 7, 2) := by decide +kernel
theorem d_X12_has_119 : decode prog_14_method_123_code 119 = .ok (.i2l, 1) := by decide +kernel
theorem d_X12_has_120 : decode prog_14_method_123_code 120 = .ok (.iload 8, 2) := by decide +kernel
theorem d_X12_has_122 : decode prog_14_method_123_code 122 = .ok (.ifCond .ne 7, 3) := by decide +kernel
theorem d_X12_has_125 : decode prog_14_method_123_code 125 = .ok (.lconst 1, 1) := by decide +kernel
theorem d_X12_has_126 : decode prog_14_method_123_code 126 = .ok (.goto 6, 3) := by decide +kernel
theorem d_X12_has_129 : decode prog_14_method_123_code 129 = .ok (.iload 8, 2) := by decide +kernel
theorem d_X12_has_131 : decode prog_14_method_123_code 131 = .ok (.i2l, 1) := by decide +kernel
theorem d_X12_has_132 : decode prog_14_method_123_code 132 = .ok (.invokevirtual 608, 3) := by decide +kernel
theorem d_X12_has_135 : decode prog_14_method_123_code 135 = .ok (.iload 7, 2) := by decide +kernel
theorem d_X12_has_137 : decode prog_14_method_123_code 137 = .ok (.ireturn, 1) := by decide +kernel
theorem v_X12_has_0 {E : EE} {d : Nat} {Q : Option AV → AH → Prop} {x0 : Nat} {x1 : Int32} {x2 : Int32} {x3 : Int32} {x4 : Int32} {G : AH} (h0 : 0 < d) (h : isO E G x0 12 ∧ (wpI E (d - 1) M_X12_isVar [vr x0, vi x1, vi x2] G (fun r1 G2 => (¬ r1 = 0 → isO E G2 x0 12 ∧ (wpV E (d - 1) M_X12_know [vr x0, vi x1] G2 (fun G3 => isO E G3 x0 12 ∧ (wpI E (d - 1) M_X12_firstBest [vr x0, vi x1, vi (-1), vi 0] G3 (fun r4 G5 => isO E G5 x0 12 ∧ (wpI E (d - 1) M_X12_placeOf [vr x0, vi x1, vi x2, vi x3] G5 (fun r6 G7 => wp E d M_X12_has 43 [some (vr x0), some (vi x1), some (vi x2), some (vi x3), some (vi x4), some (vi r4), some (vi r6), some (vi 0), some (vi 0), some (vi 0)] [] G7 Q))))))) ∧ (r1 = 0 → Q (some (vi (-1))) G2)))) : wp E d M_X12_has 0 [some (vr x0), some (vi x1), some (vi x2), some (vi x3), some (vi x4), none, none, none, none, none] [] G Q := by
  refine wp_aload_n (pc := 0) d_X12_has_0 rfl ?_
  refine wp_iload_n (pc := 1) d_X12_has_1 rfl ?_
  refine wp_iload_n (pc := 2) d_X12_has_2 rfl ?_
  obtain ⟨ho11, h⟩ := h
  refine wp_invV (pc := 3) (N := M_X12_isVar) (As := [vi _, vi _]) (rest := []) (r := (cn_12, ct_12, 95)) d_X12_has_3 ml_X12_462 mk_X12_isVar mv_X12_isVar h0 ho11 rfl rfl (Nat.le_of_ble_eq_true rfl) ?_
  refine wpM.mono h (fun rr G2 hr => ?_)
  obtain ⟨r1, rfl, h⟩ := hr
  show wp E d M_X12_has 6 [some (vr _), some (vi _), some (vi _), some (vi _), some (vi _), none, none, none, none, none] [vi _] G2 Q
  refine wp_if_ne (pc := 6) (tgt := 11) d_X12_has_6 (by decide) (fun hc => ?_) (fun hc => ?_)
  · have h := h.1 hc
    refine wp_aload_n (pc := 11) d_X12_has_11 rfl ?_
    refine wp_iload_n (pc := 12) d_X12_has_12 rfl ?_
    obtain ⟨ho10, h⟩ := h
    refine wp_invV (pc := 13) (N := M_X12_know) (As := [vi _]) (rest := []) (r := (cn_12, ct_12, 95)) d_X12_has_13 ml_X12_571 mk_X12_know mv_X12_know h0 ho10 rfl rfl (Nat.le_of_ble_eq_true rfl) ?_
    refine wpM.mono h (fun rr G3 hr => ?_)
    obtain ⟨rfl, h⟩ := hr
    show wp E d M_X12_has 16 [some (vr _), some (vi _), some (vi _), some (vi _), some (vi _), none, none, none, none, none] [] G3 Q
    refine wp_aload_n (pc := 16) d_X12_has_16 rfl ?_
    refine wp_iload_n (pc := 17) d_X12_has_17 rfl ?_
    refine wp_iconst (pc := 18) (v := (-1)) d_X12_has_18 rfl ?_
    refine wp_iconst (pc := 19) (v := 0) d_X12_has_19 rfl ?_
    obtain ⟨ho9, h⟩ := h
    refine wp_invV (pc := 20) (N := M_X12_firstBest) (As := [vi _, vi _, vi _]) (rest := []) (r := (cn_12, ct_12, 95)) d_X12_has_20 ml_X12_592 mk_X12_firstBest mv_X12_firstBest h0 ho9 rfl rfl (Nat.le_of_ble_eq_true rfl) ?_
    refine wpM.mono h (fun rr G5 hr => ?_)
    obtain ⟨r4, rfl, h⟩ := hr
    show wp E d M_X12_has 23 [some (vr _), some (vi _), some (vi _), some (vi _), some (vi _), none, none, none, none, none] [vi _] G5 Q
    refine wp_istore (pc := 23) (lv' := [some (vr _), some (vi _), some (vi _), some (vi _), some (vi _), some (vi _), none, none, none, none]) d_X12_has_23 (by decide) rfl ?_
    refine wp_aload_n (pc := 25) d_X12_has_25 rfl ?_
    refine wp_iload_n (pc := 26) d_X12_has_26 rfl ?_
    refine wp_iload_n (pc := 27) d_X12_has_27 rfl ?_
    refine wp_iload_n (pc := 28) d_X12_has_28 rfl ?_
    obtain ⟨ho8, h⟩ := h
    refine wp_invV (pc := 29) (N := M_X12_placeOf) (As := [vi _, vi _, vi _]) (rest := []) (r := (cn_12, ct_12, 95)) d_X12_has_29 ml_X12_577 mk_X12_placeOf mv_X12_placeOf h0 ho8 rfl rfl (Nat.le_of_ble_eq_true rfl) ?_
    refine wpM.mono h (fun rr G7 hr => ?_)
    obtain ⟨r6, rfl, h⟩ := hr
    show wp E d M_X12_has 32 [some (vr _), some (vi _), some (vi _), some (vi _), some (vi _), some (vi _), none, none, none, none] [vi _] G7 Q
    refine wp_istore (pc := 32) (lv' := [some (vr _), some (vi _), some (vi _), some (vi _), some (vi _), some (vi _), some (vi _), none, none, none]) d_X12_has_32 (by decide) rfl ?_
    refine wp_iconst (pc := 34) (v := 0) d_X12_has_34 rfl ?_
    refine wp_istore (pc := 35) (lv' := [some (vr _), some (vi _), some (vi _), some (vi _), some (vi _), some (vi _), some (vi _), some (vi _), none, none]) d_X12_has_35 (by decide) rfl ?_
    refine wp_iconst (pc := 37) (v := 0) d_X12_has_37 rfl ?_
    refine wp_istore (pc := 38) (lv' := [some (vr _), some (vi _), some (vi _), some (vi _), some (vi _), some (vi _), some (vi _), some (vi _), some (vi _), none]) d_X12_has_38 (by decide) rfl ?_
    refine wp_iconst (pc := 40) (v := 0) d_X12_has_40 rfl ?_
    refine wp_istore (pc := 41) (lv' := [some (vr _), some (vi _), some (vi _), some (vi _), some (vi _), some (vi _), some (vi _), some (vi _), some (vi _), some (vi _)]) d_X12_has_41 (by decide) rfl ?_
    refine wp_sub ?_ h
    exact ⟨rfl, ⟨rfl, ⟨rfl, ⟨rfl, ⟨rfl, ⟨rfl, ⟨rfl, ⟨rfl, ⟨rfl, ⟨rfl, trivial⟩⟩⟩⟩⟩⟩⟩⟩⟩⟩
  · have h := h.2 hc
    refine wp_iconst (pc := 9) (v := (-1)) d_X12_has_9 rfl ?_
    exact wp_iret (pc := 10) d_X12_has_10 rfl h
theorem v_X12_has_43 {E : EE} {d : Nat} {Q : Option AV → AH → Prop} {x0 : Nat} {x1 : Int32} {x2 : Int32} {x3 : Int32} {x4 : Int32} {x5 : Int32} {x6 : Int32} {x7 : Int32} {x8 : Int32} {x9 : Int32} {G : AH} (h0 : 0 < d) (h : isO E G x0 12 ∧ (isO E G (gR G x0 25) 14 ∧ (vp_in x1 (gN G (gR G x0 25)) ∧ (((gI G (gR G x0 25) (Int32.toNatClampNeg x1)) ≤ x9 → (¬ x8 = 0 → wp E d M_X12_has 132 [some (vr x0), some (vi x1), some (vi x2), some (vi x3), some (vi x4), some (vi x5), some (vi x6), some (vi x7), some (vi x8), some (vi x9)] [vj (Int32.toInt64 x8), vj (Int32.toInt64 x7), vr x0] G Q) ∧ (x8 = 0 → wp E d M_X12_has 132 [some (vr x0), some (vi x1), some (vi x2), some (vi x3), some (vi x4), some (vi x5), some (vi x6), some (vi x7), some (vi x8), some (vi x9)] [vj 1, vj (Int32.toInt64 x7), vr x0] G Q)) ∧ (¬ ((gI G (gR G x0 25) (Int32.toNatClampNeg x1)) ≤ x9) → (x4 = 0 → wpI E (d - 1) M_X12_isGood [vr x0, vi x1, vi x9] G (fun r4 G5 => (r4 = 0 → wp E d M_X12_has 110 [some (vr x0), some (vi x1), some (vi x2), some (vi x3), some (vi x4), some (vi x5), some (vi x6), some (vi x7), some (vi x8), some (vi x9)] [] G5 Q) ∧ (¬ (r4 = 0) → wp E d M_X12_has 84 [some (vr x0), some (vi x1), some (vi x2), some (vi x3), some (vi x4), some (vi x5), some (vi x6), some (vi x7), some (vi x8), some (vi x9)] [] G5 Q))) ∧ (¬ (x4 = 0) → wpI E (d - 1) M_X12_isBest [vr x0, vi x1, vi x9, vi x5] G (fun r6 G7 => (r6 = 0 → wp E d M_X12_has 110 [some (vr x0), some (vi x1), some (vi x2), some (vi x3), some (vi x4), some (vi x5), some (vi x6), some (vi x7), some (vi x8), some (vi x9)] [] G7 Q) ∧ (¬ (r6 = 0) → wp E d M_X12_has 84 [some (vr x0), some (vi x1), some (vi x2), some (vi x3), some (vi x4), some (vi x5), some (vi x6), some (vi x7), some (vi x8), some (vi x9)] [] G7 Q)))))))) : wp E d M_X12_has 43 [some (vr x0), some (vi x1), some (vi x2), some (vi x3), some (vi x4), some (vi x5), some (vi x6), some (vi x7), some (vi x8), some (vi x9)] [] G Q := by
  refine wp_iload (pc := 43) d_X12_has_43 rfl ?_
  refine wp_aload_n (pc := 45) d_X12_has_45 rfl ?_
  obtain ⟨ho1, h⟩ := h
  refine wp_getR (pc := 46) d_X12_has_46 fl_X12_82 (fun _ _ _ => rfl) ho1 ?_
  refine wp_iload_n (pc := 49) d_X12_has_49 rfl ?_
  obtain ⟨ho2, h⟩ := h
  obtain ⟨hi3, h⟩ := h
  refine wp_iald (pc := 50) d_X12_has_50 ho2 hi3 ?_
  refine wp_icmp_ge (pc := 51) (tgt := 116) d_X12_has_51 (by decide) (fun hc => ?_) (fun hc => ?_)
  · have h := h.1 hc
    refine wp_aload_n (pc := 116) d_X12_has_116 rfl ?_
    refine wp_iload (pc := 117) d_X12_has_117 rfl ?_
    refine wp_i2l (pc := 119) d_X12_has_119 ?_
    refine wp_iload (pc := 120) d_X12_has_120 rfl ?_
    refine wp_if_ne (pc := 122) (tgt := 129) d_X12_has_122 (by decide) (fun hc => ?_) (fun hc => ?_)
    · have h := h.1 hc
      refine wp_iload (pc := 129) d_X12_has_129 rfl ?_
      refine wp_i2l (pc := 131) d_X12_has_131 ?_
      refine wp_sub ?_ h
      exact ⟨rfl, ⟨rfl, ⟨rfl, ⟨rfl, ⟨rfl, ⟨rfl, ⟨rfl, ⟨rfl, ⟨rfl, ⟨rfl, trivial⟩⟩⟩⟩⟩⟩⟩⟩⟩⟩
    · have h := h.2 hc
      refine wp_lconst (pc := 125) (v := 1) d_X12_has_125 rfl ?_
      refine wp_goto (pc := 126) (tgt := 132) d_X12_has_126 (by decide) ?_
      refine wp_sub ?_ h
      exact ⟨rfl, ⟨rfl, ⟨rfl, ⟨rfl, ⟨rfl, ⟨rfl, ⟨rfl, ⟨rfl, ⟨rfl, ⟨rfl, trivial⟩⟩⟩⟩⟩⟩⟩⟩⟩⟩
  · have h := h.2 hc
    refine wp_iload (pc := 54) d_X12_has_54 rfl ?_
    refine wp_if_eq (pc := 56) (tgt := 74) d_X12_has_56 (by decide) (fun hc => ?_) (fun hc => ?_)
    · have h := h.1 hc
      refine wp_aload_n (pc := 74) d_X12_has_74 rfl ?_
      refine wp_iload_n (pc := 75) d_X12_has_75 rfl ?_
      refine wp_iload (pc := 76) d_X12_has_76 rfl ?_
      refine wp_invV (pc := 78) (N := M_X12_isGood) (As := [vi _, vi _]) (rest := []) (r := (cn_12, ct_12, 95)) d_X12_has_78 ml_X12_562 mk_X12_isGood mv_X12_isGood h0 ho1 rfl rfl (Nat.le_of_ble_eq_true rfl) ?_
      refine wpM.mono h (fun rr G5 hr => ?_)
      obtain ⟨r4, rfl, h⟩ := hr
      show wp E d M_X12_has 81 [some (vr _), some (vi _), some (vi _), some (vi _), some (vi _), some (vi _), some (vi _), some (vi _), some (vi _), some (vi _)] [vi _] G5 Q
      refine wp_if_eq (pc := 81) (tgt := 110) d_X12_has_81 (by decide) (fun hc => ?_) (fun hc => ?_)
      · have h := h.1 hc
        refine wp_sub ?_ h
        exact ⟨rfl, ⟨rfl, ⟨rfl, ⟨rfl, ⟨rfl, ⟨rfl, ⟨rfl, ⟨rfl, ⟨rfl, ⟨rfl, trivial⟩⟩⟩⟩⟩⟩⟩⟩⟩⟩
      · have h := h.2 hc
        refine wp_sub ?_ h
        exact ⟨rfl, ⟨rfl, ⟨rfl, ⟨rfl, ⟨rfl, ⟨rfl, ⟨rfl, ⟨rfl, ⟨rfl, ⟨rfl, trivial⟩⟩⟩⟩⟩⟩⟩⟩⟩⟩
    · have h := h.2 hc
      refine wp_aload_n (pc := 59) d_X12_has_59 rfl ?_
      refine wp_iload_n (pc := 60) d_X12_has_60 rfl ?_
      refine wp_iload (pc := 61) d_X12_has_61 rfl ?_
      refine wp_iload (pc := 63) d_X12_has_63 rfl ?_
      refine wp_invV (pc := 65) (N := M_X12_isBest) (As := [vi _, vi _, vi _]) (rest := []) (r := (cn_12, ct_12, 95)) d_X12_has_65 ml_X12_598 mk_X12_isBest mv_X12_isBest h0 ho1 rfl rfl (Nat.le_of_ble_eq_true rfl) ?_
      refine wpM.mono h (fun rr G7 hr => ?_)
      obtain ⟨r6, rfl, h⟩ := hr
      show wp E d M_X12_has 68 [some (vr _), some (vi _), some (vi _), some (vi _), some (vi _), some (vi _), some (vi _), some (vi _), some (vi _), some (vi _)] [vi _] G7 Q
      refine wp_if_eq (pc := 68) (tgt := 110) d_X12_has_68 (by decide) (fun hc => ?_) (fun hc => ?_)
      · have h := h.1 hc
        refine wp_sub ?_ h
        exact ⟨rfl, ⟨rfl, ⟨rfl, ⟨rfl, ⟨rfl, ⟨rfl, ⟨rfl, ⟨rfl, ⟨rfl, ⟨rfl, trivial⟩⟩⟩⟩⟩⟩⟩⟩⟩⟩
      · have h := h.2 hc
        refine wp_goto (pc := 71) (tgt := 84) d_X12_has_71 (by decide) ?_
        refine wp_sub ?_ h
        exact ⟨rfl, ⟨rfl, ⟨rfl, ⟨rfl, ⟨rfl, ⟨rfl, ⟨rfl, ⟨rfl, ⟨rfl, ⟨rfl, trivial⟩⟩⟩⟩⟩⟩⟩⟩⟩⟩
theorem v_X12_has_84 {E : EE} {d : Nat} {Q : Option AV → AH → Prop} {x0 : Nat} {x1 : Int32} {x2 : Int32} {x3 : Int32} {x4 : Int32} {x5 : Int32} {x6 : Int32} {x7 : Int32} {x8 : Int32} {x9 : Int32} {G : AH} (h0 : 0 < d) (h : isO E G x0 12 ∧ (wpI E (d - 1) M_X12_place [vr x0, vi x1, vi x9, vi x2] G (fun r1 G2 => (¬ r1 = x6 → wp E d M_X12_has 107 [some (vr x0), some (vi x1), some (vi x2), some (vi x3), some (vi x4), some (vi x5), some (vi x6), some (vi x7), some (vi (x8 + 1)), some (vi x9)] [vi 0, vi x7] G2 Q) ∧ (r1 = x6 → wp E d M_X12_has 107 [some (vr x0), some (vi x1), some (vi x2), some (vi x3), some (vi x4), some (vi x5), some (vi x6), some (vi x7), some (vi (x8 + 1)), some (vi x9)] [vi 1, vi x7] G2 Q)))) : wp E d M_X12_has 84 [some (vr x0), some (vi x1), some (vi x2), some (vi x3), some (vi x4), some (vi x5), some (vi x6), some (vi x7), some (vi x8), some (vi x9)] [] G Q := by
  refine wp_iinc (pc := 84) (v := 1) (lv' := [some (vr _), some (vi _), some (vi _), some (vi _), some (vi _), some (vi _), some (vi _), some (vi _), some (vi _), some (vi _)]) d_X12_has_84 (by decide) rfl rfl rfl ?_
  refine wp_iload (pc := 87) d_X12_has_87 rfl ?_
  refine wp_aload_n (pc := 89) d_X12_has_89 rfl ?_
  refine wp_iload_n (pc := 90) d_X12_has_90 rfl ?_
  refine wp_iload (pc := 91) d_X12_has_91 rfl ?_
  refine wp_iload_n (pc := 93) d_X12_has_93 rfl ?_
  obtain ⟨ho3, h⟩ := h
  refine wp_invV (pc := 94) (N := M_X12_place) (As := [vi _, vi _, vi _]) (rest := [vi _]) (r := (cn_12, ct_12, 95)) d_X12_has_94 ml_X12_537 mk_X12_place mv_X12_place h0 ho3 rfl rfl (Nat.le_of_ble_eq_true rfl) ?_
  refine wpM.mono h (fun rr G2 hr => ?_)
  obtain ⟨r1, rfl, h⟩ := hr
  show wp E d M_X12_has 97 [some (vr _), some (vi _), some (vi _), some (vi _), some (vi _), some (vi _), some (vi _), some (vi _), some (vi _), some (vi _)] [vi _, vi _] G2 Q
  refine wp_iload (pc := 97) d_X12_has_97 rfl ?_
  refine wp_icmp_ne (pc := 99) (tgt := 106) d_X12_has_99 (by decide) (fun hc => ?_) (fun hc => ?_)
  · have h := h.1 hc
    refine wp_iconst (pc := 106) (v := 0) d_X12_has_106 rfl ?_
    refine wp_sub ?_ h
    exact ⟨rfl, ⟨rfl, ⟨rfl, ⟨rfl, ⟨rfl, ⟨rfl, ⟨rfl, ⟨rfl, ⟨rfl, ⟨rfl, trivial⟩⟩⟩⟩⟩⟩⟩⟩⟩⟩
  · have h := h.2 hc
    refine wp_iconst (pc := 102) (v := 1) d_X12_has_102 rfl ?_
    refine wp_goto (pc := 103) (tgt := 107) d_X12_has_103 (by decide) ?_
    refine wp_sub ?_ h
    exact ⟨rfl, ⟨rfl, ⟨rfl, ⟨rfl, ⟨rfl, ⟨rfl, ⟨rfl, ⟨rfl, ⟨rfl, ⟨rfl, trivial⟩⟩⟩⟩⟩⟩⟩⟩⟩⟩
theorem v_X12_has_107 {E : EE} {d : Nat} {Q : Option AV → AH → Prop} {x0 : Nat} {x1 : Int32} {x2 : Int32} {x3 : Int32} {x4 : Int32} {x5 : Int32} {x6 : Int32} {x7 : Int32} {x8 : Int32} {x9 : Int32} {t0 : Int32} {t1 : Int32} {G : AH} (h : wp E d M_X12_has 110 [some (vr x0), some (vi x1), some (vi x2), some (vi x3), some (vi x4), some (vi x5), some (vi x6), some (vi (t0 + t1)), some (vi x8), some (vi x9)] [] G Q) : wp E d M_X12_has 107 [some (vr x0), some (vi x1), some (vi x2), some (vi x3), some (vi x4), some (vi x5), some (vi x6), some (vi x7), some (vi x8), some (vi x9)] [vi t1, vi t0] G Q := by
  refine wp_iadd (pc := 107) d_X12_has_107 ?_
  refine wp_istore (pc := 108) (lv' := [some (vr _), some (vi _), some (vi _), some (vi _), some (vi _), some (vi _), some (vi _), some (vi _), some (vi _), some (vi _)]) d_X12_has_108 (by decide) rfl ?_
  refine wp_sub ?_ h
  exact ⟨rfl, ⟨rfl, ⟨rfl, ⟨rfl, ⟨rfl, ⟨rfl, ⟨rfl, ⟨rfl, ⟨rfl, ⟨rfl, trivial⟩⟩⟩⟩⟩⟩⟩⟩⟩⟩
theorem v_X12_has_110 {E : EE} {d : Nat} {Q : Option AV → AH → Prop} {x0 : Nat} {x1 : Int32} {x2 : Int32} {x3 : Int32} {x4 : Int32} {x5 : Int32} {x6 : Int32} {x7 : Int32} {x8 : Int32} {x9 : Int32} {G : AH} (h : wp E d M_X12_has 43 [some (vr x0), some (vi x1), some (vi x2), some (vi x3), some (vi x4), some (vi x5), some (vi x6), some (vi x7), some (vi x8), some (vi (x9 + 1))] [] G Q) : wp E d M_X12_has 110 [some (vr x0), some (vi x1), some (vi x2), some (vi x3), some (vi x4), some (vi x5), some (vi x6), some (vi x7), some (vi x8), some (vi x9)] [] G Q := by
  refine wp_iinc (pc := 110) (v := 1) (lv' := [some (vr _), some (vi _), some (vi _), some (vi _), some (vi _), some (vi _), some (vi _), some (vi _), some (vi _), some (vi _)]) d_X12_has_110 (by decide) rfl rfl rfl ?_
  refine wp_goto (pc := 113) (tgt := 43) d_X12_has_113 (by decide) ?_
  refine wp_sub ?_ h
  exact ⟨rfl, ⟨rfl, ⟨rfl, ⟨rfl, ⟨rfl, ⟨rfl, ⟨rfl, ⟨rfl, ⟨rfl, ⟨rfl, trivial⟩⟩⟩⟩⟩⟩⟩⟩⟩⟩
theorem v_X12_has_132 {E : EE} {d : Nat} {Q : Option AV → AH → Prop} {x0 : Nat} {x1 : Int32} {x2 : Int32} {x3 : Int32} {x4 : Int32} {x5 : Int32} {x6 : Int32} {x7 : Int32} {x8 : Int32} {x9 : Int32} {t0 : Nat} {t1 : Int64} {t2 : Int64} {G : AH} (h0 : 0 < d) (h : isO E G t0 12 ∧ (wpV E (d - 1) M_X12_show [vr t0, vj t1, vj t2] G (fun G1 => Q (some (vi x7)) G1))) : wp E d M_X12_has 132 [some (vr x0), some (vi x1), some (vi x2), some (vi x3), some (vi x4), some (vi x5), some (vi x6), some (vi x7), some (vi x8), some (vi x9)] [vj t2, vj t1, vr t0] G Q := by
  obtain ⟨ho2, h⟩ := h
  refine wp_invV (pc := 132) (N := M_X12_show) (As := [vj _, vj _]) (rest := []) (r := (cn_12, ct_12, 95)) d_X12_has_132 ml_X12_608 mk_X12_show mv_X12_show h0 ho2 rfl rfl (Nat.le_of_ble_eq_true rfl) ?_
  refine wpM.mono h (fun rr G1 hr => ?_)
  obtain ⟨rfl, h⟩ := hr
  show wp E d M_X12_has 135 [some (vr _), some (vi _), some (vi _), some (vi _), some (vi _), some (vi _), some (vi _), some (vi _), some (vi _), some (vi _)] [] G1 Q
  refine wp_iload (pc := 135) d_X12_has_135 rfl ?_
  exact wp_iret (pc := 137) d_X12_has_137 rfl h
theorem d_X12_feasibleAt_0 : decode prog_14_method_121_code 0 = .ok (.aload_n 0, 1) := by decide +kernel
theorem d_X12_feasibleAt_1 : decode prog_14_method_121_code 1 = .ok (.iload_n 1, 1) := by decide +kernel
theorem d_X12_feasibleAt_2 : decode prog_14_method_121_code 2 = .ok (.iload_n 2, 1) := by decide +kernel
theorem d_X12_feasibleAt_3 : decode prog_14_method_121_code 3 = .ok (.iconst 0, 1) := by decide +kernel
theorem d_X12_feasibleAt_4 : decode prog_14_method_121_code 4 = .ok (.invokevirtual 601, 3) := by decide +kernel
theorem d_X12_feasibleAt_7 : decode prog_14_method_121_code 7 = .ok (.ireturn, 1) := by decide +kernel
theorem v_X12_feasibleAt_0 {E : EE} {d : Nat} {Q : Option AV → AH → Prop} {x0 : Nat} {x1 : Int32} {x2 : Int32} {G : AH} (h0 : 0 < d) (h : isO E G x0 12 ∧ (wpI E (d - 1) M_X12_planAt [vr x0, vi x1, vi x2, vi 0] G (fun r1 G2 => okI .boolean r1 ∧ Q (some (vi r1)) G2))) : wp E d M_X12_feasibleAt 0 [some (vr x0), some (vi x1), some (vi x2)] [] G Q := by
  refine wp_aload_n (pc := 0) d_X12_feasibleAt_0 rfl ?_
  refine wp_iload_n (pc := 1) d_X12_feasibleAt_1 rfl ?_
  refine wp_iload_n (pc := 2) d_X12_feasibleAt_2 rfl ?_
  refine wp_iconst (pc := 3) (v := 0) d_X12_feasibleAt_3 rfl ?_
  obtain ⟨ho3, h⟩ := h
  refine wp_invV (pc := 4) (N := M_X12_planAt) (As := [vi _, vi _, vi _]) (rest := []) (r := (cn_12, ct_12, 95)) d_X12_feasibleAt_4 ml_X12_601 mk_X12_planAt mv_X12_planAt h0 ho3 rfl rfl (Nat.le_of_ble_eq_true rfl) ?_
  refine wpM.mono h (fun rr G2 hr => ?_)
  obtain ⟨r1, rfl, h⟩ := hr
  show wp E d M_X12_feasibleAt 7 [some (vr _), some (vi _), some (vi _)] [vi _] G2 Q
  exact wp_zret (pc := 7) d_X12_feasibleAt_7 rfl h.1.1 h.2
theorem d_X12_planAt_0 : decode prog_14_method_118_code 0 = .ok (.aload_n 0, 1) := by decide +kernel
theorem d_X12_planAt_1 : decode prog_14_method_118_code 1 = .ok (.iload_n 1, 1) := by decide +kernel
theorem d_X12_planAt_2 : decode prog_14_method_118_code 2 = .ok (.invokevirtual 453, 3) := by decide +kernel
theorem d_X12_planAt_5 : decode prog_14_method_118_code 5 = .ok (.ifCond .eq 7, 3) := by decide +kernel
theorem d_X12_planAt_8 : decode prog_14_method_118_code 8 = .ok (.iload_n 2, 1) := by decide +kernel
theorem d_X12_planAt_9 : decode prog_14_method_118_code 9 = .ok (.ifCond .ge 5, 3) := by decide +kernel
theorem d_X12_planAt_12 : decode prog_14_method_118_code 12 = .ok (.iconst 0, 1) := by decide +kernel
theorem d_X12_planAt_13 : decode prog_14_method_118_code 13 = .ok (.ireturn, 1) := by decide +kernel
theorem d_X12_planAt_14 : decode prog_14_method_118_code 14 = .ok (.aload_n 0, 1) := by decide +kernel
theorem d_X12_planAt_15 : decode prog_14_method_118_code 15 = .ok (.iload_n 1, 1) := by decide +kernel
theorem d_X12_planAt_16 : decode prog_14_method_118_code 16 = .ok (.invokevirtual 571, 3) := by decide +kernel
theorem d_X12_planAt_19 : decode prog_14_method_118_code 19 = .ok (.iload_n 3, 1) := by decide +kernel
theorem d_X12_planAt_20 : decode prog_14_method_118_code 20 = .ok (.ifCond .eq 13, 3) := by decide +kernel
theorem d_X12_planAt_23 : decode prog_14_method_118_code 23 = .ok (.aload_n 0, 1) := by decide +kernel
theorem d_X12_planAt_24 : decode prog_14_method_118_code 24 = .ok (.iload_n 1, 1) := by decide +kernel
theorem d_X12_planAt_25 : decode prog_14_method_118_code 25 = .ok (.iconst (-1), 1) := by decide +kernel
theorem d_X12_planAt_26 : decode prog_14_method_118_code 26 = .ok (.iconst 0, 1) := by decide +kernel
theorem d_X12_planAt_27 : decode prog_14_method_118_code 27 = .ok (.invokevirtual 592, 3) := by decide +kernel
theorem d_X12_planAt_30 : decode prog_14_method_118_code 30 = .ok (.goto 4, 3) := by decide +kernel
theorem d_X12_planAt_33 : decode prog_14_method_118_code 33 = .ok (.iconst (-1), 1) := by decide +kernel
theorem d_X12_planAt_34 : decode prog_14_method_118_code 34 = .ok (.istore 4, 2) := by decide +kernel
theorem d_X12_planAt_36 : decode prog_14_method_118_code 36 = .ok (.iload_n 2, 1) := by decide +kernel
theorem d_X12_planAt_37 : decode prog_14_method_118_code 37 = .ok (.istore 5, 2) := by decide +kernel
theorem d_X12_planAt_39 : decode prog_14_method_118_code 39 = .ok (.iconst 0, 1) := by decide +kernel
theorem d_X12_planAt_40 : decode prog_14_method_118_code 40 = .ok (.istore 6, 2) := by decide +kernel
theorem d_X12_planAt_42 : decode prog_14_method_118_code 42 = .ok (.iload 6, 2) := by decide +kernel
theorem d_X12_planAt_44 : decode prog_14_method_118_code 44 = .ok (.aload_n 0, 1) := by decide +kernel
theorem d_X12_planAt_45 : decode prog_14_method_118_code 45 = .ok (.getfield 82, 3) := by decide +kernel
theorem d_X12_planAt_48 : decode prog_14_method_118_code 48 = .ok (.iload_n 1, 1) := by decide +kernel
theorem d_X12_planAt_49 : decode prog_14_method_118_code 49 = .ok (.iaload, 1) := by decide +kernel
theorem d_X12_planAt_50 : decode prog_14_method_118_code 50 = .ok (.if_icmp .ge 55, 3) := by decide +kernel
theorem d_X12_planAt_53 : decode prog_14_method_118_code 53 = .ok (.iload_n 3, 1) := by decide +kernel
theorem d_X12_planAt_54 : decode prog_14_method_118_code 54 = .ok (.ifCond .eq 18, 3) := by decide +kernel
theorem d_X12_planAt_57 : decode prog_14_method_118_code 57 = .ok (.aload_n 0, 1) := by decide +kernel
theorem d_X12_planAt_58 : decode prog_14_method_118_code 58 = .ok (.iload_n 1, 1) := by decide +kernel
theorem d_X12_planAt_59 : decode prog_14_method_118_code 59 = .ok (.iload 6, 2) := by decide +kernel
theorem d_X12_planAt_61 : decode prog_14_method_118_code 61 = .ok (.iload 4, 2) := by decide +kernel
theorem d_X12_planAt_63 : decode prog_14_method_118_code 63 = .ok (.invokevirtual 598, 3) := by decide +kernel
theorem d_X12_planAt_66 : decode prog_14_method_118_code 66 = .ok (.ifCond .eq 33, 3) := by decide +kernel
theorem d_X12_planAt_69 : decode prog_14_method_118_code 69 = .ok (.goto 13, 3) := by decide +kernel
theorem d_X12_planAt_72 : decode prog_14_method_118_code 72 = .ok (.aload_n 0, 1) := by decide +kernel
theorem d_X12_planAt_73 : decode prog_14_method_118_code 73 = .ok (.iload_n 1, 1) := by decide +kernel
theorem d_X12_planAt_74 : decode prog_14_method_118_code 74 = .ok (.iload 6, 2) := by decide +kernel
theorem d_X12_planAt_76 : decode prog_14_method_118_code 76 = .ok (.invokevirtual 562, 3) := by decide +kernel
theorem d_X12_planAt_79 : decode prog_14_method_118_code 79 = .ok (.ifCond .eq 20, 3) := by decide +kernel
theorem d_X12_planAt_82 : decode prog_14_method_118_code 82 = .ok (.iload 5, 2) := by decide +kernel
theorem d_X12_planAt_84 : decode prog_14_method_118_code 84 = .ok (.ifCond .ne 12, 3) := by decide +kernel
theorem d_X12_planAt_87 : decode prog_14_method_118_code 87 = .ok (.aload_n 0, 1) := by decide +kernel
theorem d_X12_planAt_88 : decode prog_14_method_118_code 88 = .ok (.iload_n 1, 1) := by decide +kernel
theorem d_X12_planAt_89 : decode prog_14_method_118_code 89 = .ok (.iload 6, 2) := by decide +kernel
theorem d_X12_planAt_91 : decode prog_14_method_118_code 91 = .ok (.invokevirtual 595, 3) := by decide +kernel
theorem d_X12_planAt_94 : decode prog_14_method_118_code 94 = .ok (.iconst 1, 1) := by decide +kernel
theorem d_X12_planAt_95 : decode prog_14_method_118_code 95 = .ok (.ireturn, 1) := by decide +kernel
theorem d_X12_planAt_96 : decode prog_14_method_118_code 96 = .ok (.iinc 5 (-1), 3) := by decide +kernel
theorem d_X12_planAt_99 : decode prog_14_method_118_code 99 = .ok (.iinc 6 1, 3) := by decide +kernel
theorem d_X12_planAt_102 : decode prog_14_method_118_code 102 = .ok (.goto (-60), 3) := by decide +kernel
theorem d_X12_planAt_105 : decode prog_14_method_118_code 105 = .ok (.iconst 0, 1) := by decide +kernel
theorem d_X12_planAt_106 : decode prog_14_method_118_code 106 = .ok (.ireturn, 1) := by decide +kernel
theorem v_X12_planAt_0 {E : EE} {d : Nat} {Q : Option AV → AH → Prop} {x0 : Nat} {x1 : Int32} {x2 : Int32} {x3 : Int32} {G : AH} (h0 : 0 < d) (h : isO E G x0 12 ∧ (wpI E (d - 1) M_X12_isProblem [vr x0, vi x1] G (fun r1 G2 => (r1 = 0 → Q (some (vi 0)) G2) ∧ (¬ (r1 = 0) → (0 ≤ x2 → isO E G2 x0 12 ∧ (wpV E (d - 1) M_X12_know [vr x0, vi x1] G2 (fun G3 => (x3 = 0 → wp E d M_X12_planAt 34 [some (vr x0), some (vi x1), some (vi x2), some (vi x3), none, none, none] [vi (-1)] G3 Q) ∧ (¬ (x3 = 0) → isO E G3 x0 12 ∧ (wpI E (d - 1) M_X12_firstBest [vr x0, vi x1, vi (-1), vi 0] G3 (fun r4 G5 => wp E d M_X12_planAt 34 [some (vr x0), some (vi x1), some (vi x2), some (vi x3), none, none, none] [vi r4] G5 Q)))))) ∧ (¬ (0 ≤ x2) → Q (some (vi 0)) G2))))) : wp E d M_X12_planAt 0 [some (vr x0), some (vi x1), some (vi x2), some (vi x3), none, none, none] [] G Q := by
  refine wp_aload_n (pc := 0) d_X12_planAt_0 rfl ?_
  refine wp_iload_n (pc := 1) d_X12_planAt_1 rfl ?_
  obtain ⟨ho8, h⟩ := h
  refine wp_invV (pc := 2) (N := M_X12_isProblem) (As := [vi _]) (rest := []) (r := (cn_12, ct_12, 95)) d_X12_planAt_2 ml_X12_453 mk_X12_isProblem mv_X12_isProblem h0 ho8 rfl rfl (Nat.le_of_ble_eq_true rfl) ?_
  refine wpM.mono h (fun rr G2 hr => ?_)
  obtain ⟨r1, rfl, h⟩ := hr
  show wp E d M_X12_planAt 5 [some (vr _), some (vi _), some (vi _), some (vi _), none, none, none] [vi _] G2 Q
  refine wp_if_eq (pc := 5) (tgt := 12) d_X12_planAt_5 (by decide) (fun hc => ?_) (fun hc => ?_)
  · have h := h.1 hc
    refine wp_iconst (pc := 12) (v := 0) d_X12_planAt_12 rfl ?_
    exact wp_zret (pc := 13) d_X12_planAt_13 rfl rfl h
  · have h := h.2 hc
    refine wp_iload_n (pc := 8) d_X12_planAt_8 rfl ?_
    refine wp_if_ge (pc := 9) (tgt := 14) d_X12_planAt_9 (by decide) (fun hc => ?_) (fun hc => ?_)
    · have h := h.1 hc
      refine wp_aload_n (pc := 14) d_X12_planAt_14 rfl ?_
      refine wp_iload_n (pc := 15) d_X12_planAt_15 rfl ?_
      obtain ⟨ho7, h⟩ := h
      refine wp_invV (pc := 16) (N := M_X12_know) (As := [vi _]) (rest := []) (r := (cn_12, ct_12, 95)) d_X12_planAt_16 ml_X12_571 mk_X12_know mv_X12_know h0 ho7 rfl rfl (Nat.le_of_ble_eq_true rfl) ?_
      refine wpM.mono h (fun rr G3 hr => ?_)
      obtain ⟨rfl, h⟩ := hr
      show wp E d M_X12_planAt 19 [some (vr _), some (vi _), some (vi _), some (vi _), none, none, none] [] G3 Q
      refine wp_iload_n (pc := 19) d_X12_planAt_19 rfl ?_
      refine wp_if_eq (pc := 20) (tgt := 33) d_X12_planAt_20 (by decide) (fun hc => ?_) (fun hc => ?_)
      · have h := h.1 hc
        refine wp_iconst (pc := 33) (v := (-1)) d_X12_planAt_33 rfl ?_
        refine wp_sub ?_ h
        exact ⟨rfl, ⟨rfl, ⟨rfl, ⟨rfl, trivial⟩⟩⟩⟩
      · have h := h.2 hc
        refine wp_aload_n (pc := 23) d_X12_planAt_23 rfl ?_
        refine wp_iload_n (pc := 24) d_X12_planAt_24 rfl ?_
        refine wp_iconst (pc := 25) (v := (-1)) d_X12_planAt_25 rfl ?_
        refine wp_iconst (pc := 26) (v := 0) d_X12_planAt_26 rfl ?_
        obtain ⟨ho6, h⟩ := h
        refine wp_invV (pc := 27) (N := M_X12_firstBest) (As := [vi _, vi _, vi _]) (rest := []) (r := (cn_12, ct_12, 95)) d_X12_planAt_27 ml_X12_592 mk_X12_firstBest mv_X12_firstBest h0 ho6 rfl rfl (Nat.le_of_ble_eq_true rfl) ?_
        refine wpM.mono h (fun rr G5 hr => ?_)
        obtain ⟨r4, rfl, h⟩ := hr
        show wp E d M_X12_planAt 30 [some (vr _), some (vi _), some (vi _), some (vi _), none, none, none] [vi _] G5 Q
        refine wp_goto (pc := 30) (tgt := 34) d_X12_planAt_30 (by decide) ?_
        refine wp_sub ?_ h
        exact ⟨rfl, ⟨rfl, ⟨rfl, ⟨rfl, trivial⟩⟩⟩⟩
    · have h := h.2 hc
      refine wp_iconst (pc := 12) (v := 0) d_X12_planAt_12 rfl ?_
      exact wp_zret (pc := 13) d_X12_planAt_13 rfl rfl h
theorem v_X12_planAt_34 {E : EE} {d : Nat} {Q : Option AV → AH → Prop} {x0 : Nat} {x1 : Int32} {x2 : Int32} {x3 : Int32} {t0 : Int32} {G : AH} (h : wp E d M_X12_planAt 42 [some (vr x0), some (vi x1), some (vi x2), some (vi x3), some (vi t0), some (vi x2), some (vi 0)] [] G Q) : wp E d M_X12_planAt 34 [some (vr x0), some (vi x1), some (vi x2), some (vi x3), none, none, none] [vi t0] G Q := by
  refine wp_istore (pc := 34) (lv' := [some (vr _), some (vi _), some (vi _), some (vi _), some (vi _), none, none]) d_X12_planAt_34 (by decide) rfl ?_
  refine wp_iload_n (pc := 36) d_X12_planAt_36 rfl ?_
  refine wp_istore (pc := 37) (lv' := [some (vr _), some (vi _), some (vi _), some (vi _), some (vi _), some (vi _), none]) d_X12_planAt_37 (by decide) rfl ?_
  refine wp_iconst (pc := 39) (v := 0) d_X12_planAt_39 rfl ?_
  refine wp_istore (pc := 40) (lv' := [some (vr _), some (vi _), some (vi _), some (vi _), some (vi _), some (vi _), some (vi _)]) d_X12_planAt_40 (by decide) rfl ?_
  refine wp_sub ?_ h
  exact ⟨rfl, ⟨rfl, ⟨rfl, ⟨rfl, ⟨rfl, ⟨rfl, ⟨rfl, trivial⟩⟩⟩⟩⟩⟩⟩
theorem v_X12_planAt_42 {E : EE} {d : Nat} {Q : Option AV → AH → Prop} {x0 : Nat} {x1 : Int32} {x2 : Int32} {x3 : Int32} {x4 : Int32} {x5 : Int32} {x6 : Int32} {G : AH} (h0 : 0 < d) (h : isO E G x0 12 ∧ (isO E G (gR G x0 25) 14 ∧ (vp_in x1 (gN G (gR G x0 25)) ∧ (((gI G (gR G x0 25) (Int32.toNatClampNeg x1)) ≤ x6 → Q (some (vi 0)) G) ∧ (¬ ((gI G (gR G x0 25) (Int32.toNatClampNeg x1)) ≤ x6) → (x3 = 0 → wpI E (d - 1) M_X12_isGood [vr x0, vi x1, vi x6] G (fun r4 G5 => (r4 = 0 → wp E d M_X12_planAt 99 [some (vr x0), some (vi x1), some (vi x2), some (vi x3), some (vi x4), some (vi x5), some (vi x6)] [] G5 Q) ∧ (¬ (r4 = 0) → wp E d M_X12_planAt 82 [some (vr x0), some (vi x1), some (vi x2), some (vi x3), some (vi x4), some (vi x5), some (vi x6)] [] G5 Q))) ∧ (¬ (x3 = 0) → wpI E (d - 1) M_X12_isBest [vr x0, vi x1, vi x6, vi x4] G (fun r6 G7 => (r6 = 0 → wp E d M_X12_planAt 99 [some (vr x0), some (vi x1), some (vi x2), some (vi x3), some (vi x4), some (vi x5), some (vi x6)] [] G7 Q) ∧ (¬ (r6 = 0) → wp E d M_X12_planAt 82 [some (vr x0), some (vi x1), some (vi x2), some (vi x3), some (vi x4), some (vi x5), some (vi x6)] [] G7 Q)))))))) : wp E d M_X12_planAt 42 [some (vr x0), some (vi x1), some (vi x2), some (vi x3), some (vi x4), some (vi x5), some (vi x6)] [] G Q := by
  refine wp_iload (pc := 42) d_X12_planAt_42 rfl ?_
  refine wp_aload_n (pc := 44) d_X12_planAt_44 rfl ?_
  obtain ⟨ho1, h⟩ := h
  refine wp_getR (pc := 45) d_X12_planAt_45 fl_X12_82 (fun _ _ _ => rfl) ho1 ?_
  refine wp_iload_n (pc := 48) d_X12_planAt_48 rfl ?_
  obtain ⟨ho2, h⟩ := h
  obtain ⟨hi3, h⟩ := h
  refine wp_iald (pc := 49) d_X12_planAt_49 ho2 hi3 ?_
  refine wp_icmp_ge (pc := 50) (tgt := 105) d_X12_planAt_50 (by decide) (fun hc => ?_) (fun hc => ?_)
  · have h := h.1 hc
    refine wp_iconst (pc := 105) (v := 0) d_X12_planAt_105 rfl ?_
    exact wp_zret (pc := 106) d_X12_planAt_106 rfl rfl h
  · have h := h.2 hc
    refine wp_iload_n (pc := 53) d_X12_planAt_53 rfl ?_
    refine wp_if_eq (pc := 54) (tgt := 72) d_X12_planAt_54 (by decide) (fun hc => ?_) (fun hc => ?_)
    · have h := h.1 hc
      refine wp_aload_n (pc := 72) d_X12_planAt_72 rfl ?_
      refine wp_iload_n (pc := 73) d_X12_planAt_73 rfl ?_
      refine wp_iload (pc := 74) d_X12_planAt_74 rfl ?_
      refine wp_invV (pc := 76) (N := M_X12_isGood) (As := [vi _, vi _]) (rest := []) (r := (cn_12, ct_12, 95)) d_X12_planAt_76 ml_X12_562 mk_X12_isGood mv_X12_isGood h0 ho1 rfl rfl (Nat.le_of_ble_eq_true rfl) ?_
      refine wpM.mono h (fun rr G5 hr => ?_)
      obtain ⟨r4, rfl, h⟩ := hr
      show wp E d M_X12_planAt 79 [some (vr _), some (vi _), some (vi _), some (vi _), some (vi _), some (vi _), some (vi _)] [vi _] G5 Q
      refine wp_if_eq (pc := 79) (tgt := 99) d_X12_planAt_79 (by decide) (fun hc => ?_) (fun hc => ?_)
      · have h := h.1 hc
        refine wp_sub ?_ h
        exact ⟨rfl, ⟨rfl, ⟨rfl, ⟨rfl, ⟨rfl, ⟨rfl, ⟨rfl, trivial⟩⟩⟩⟩⟩⟩⟩
      · have h := h.2 hc
        refine wp_sub ?_ h
        exact ⟨rfl, ⟨rfl, ⟨rfl, ⟨rfl, ⟨rfl, ⟨rfl, ⟨rfl, trivial⟩⟩⟩⟩⟩⟩⟩
    · have h := h.2 hc
      refine wp_aload_n (pc := 57) d_X12_planAt_57 rfl ?_
      refine wp_iload_n (pc := 58) d_X12_planAt_58 rfl ?_
      refine wp_iload (pc := 59) d_X12_planAt_59 rfl ?_
      refine wp_iload (pc := 61) d_X12_planAt_61 rfl ?_
      refine wp_invV (pc := 63) (N := M_X12_isBest) (As := [vi _, vi _, vi _]) (rest := []) (r := (cn_12, ct_12, 95)) d_X12_planAt_63 ml_X12_598 mk_X12_isBest mv_X12_isBest h0 ho1 rfl rfl (Nat.le_of_ble_eq_true rfl) ?_
      refine wpM.mono h (fun rr G7 hr => ?_)
      obtain ⟨r6, rfl, h⟩ := hr
      show wp E d M_X12_planAt 66 [some (vr _), some (vi _), some (vi _), some (vi _), some (vi _), some (vi _), some (vi _)] [vi _] G7 Q
      refine wp_if_eq (pc := 66) (tgt := 99) d_X12_planAt_66 (by decide) (fun hc => ?_) (fun hc => ?_)
      · have h := h.1 hc
        refine wp_sub ?_ h
        exact ⟨rfl, ⟨rfl, ⟨rfl, ⟨rfl, ⟨rfl, ⟨rfl, ⟨rfl, trivial⟩⟩⟩⟩⟩⟩⟩
      · have h := h.2 hc
        refine wp_goto (pc := 69) (tgt := 82) d_X12_planAt_69 (by decide) ?_
        refine wp_sub ?_ h
        exact ⟨rfl, ⟨rfl, ⟨rfl, ⟨rfl, ⟨rfl, ⟨rfl, ⟨rfl, trivial⟩⟩⟩⟩⟩⟩⟩
theorem v_X12_planAt_82 {E : EE} {d : Nat} {Q : Option AV → AH → Prop} {x0 : Nat} {x1 : Int32} {x2 : Int32} {x3 : Int32} {x4 : Int32} {x5 : Int32} {x6 : Int32} {G : AH} (h0 : 0 < d) (h : (¬ x5 = 0 → wp E d M_X12_planAt 99 [some (vr x0), some (vi x1), some (vi x2), some (vi x3), some (vi x4), some (vi (x5 + (-1))), some (vi x6)] [] G Q) ∧ (x5 = 0 → isO E G x0 12 ∧ (wpV E (d - 1) M_X12_putAtHand [vr x0, vi x1, vi x6] G (fun G1 => Q (some (vi 1)) G1)))) : wp E d M_X12_planAt 82 [some (vr x0), some (vi x1), some (vi x2), some (vi x3), some (vi x4), some (vi x5), some (vi x6)] [] G Q := by
  refine wp_iload (pc := 82) d_X12_planAt_82 rfl ?_
  refine wp_if_ne (pc := 84) (tgt := 96) d_X12_planAt_84 (by decide) (fun hc => ?_) (fun hc => ?_)
  · have h := h.1 hc
    refine wp_iinc (pc := 96) (v := (-1)) (lv' := [some (vr _), some (vi _), some (vi _), some (vi _), some (vi _), some (vi _), some (vi _)]) d_X12_planAt_96 (by decide) rfl rfl rfl ?_
    refine wp_sub ?_ h
    exact ⟨rfl, ⟨rfl, ⟨rfl, ⟨rfl, ⟨rfl, ⟨rfl, ⟨rfl, trivial⟩⟩⟩⟩⟩⟩⟩
  · have h := h.2 hc
    refine wp_aload_n (pc := 87) d_X12_planAt_87 rfl ?_
    refine wp_iload_n (pc := 88) d_X12_planAt_88 rfl ?_
    refine wp_iload (pc := 89) d_X12_planAt_89 rfl ?_
    obtain ⟨ho2, h⟩ := h
    refine wp_invV (pc := 91) (N := M_X12_putAtHand) (As := [vi _, vi _]) (rest := []) (r := (cn_12, ct_12, 95)) d_X12_planAt_91 ml_X12_595 mk_X12_putAtHand mv_X12_putAtHand h0 ho2 rfl rfl (Nat.le_of_ble_eq_true rfl) ?_
    refine wpM.mono h (fun rr G1 hr => ?_)
    obtain ⟨rfl, h⟩ := hr
    show wp E d M_X12_planAt 94 [some (vr _), some (vi _), some (vi _), some (vi _), some (vi _), some (vi _), some (vi _)] [] G1 Q
    refine wp_iconst (pc := 94) (v := 1) d_X12_planAt_94 rfl ?_
    exact wp_zret (pc := 95) d_X12_planAt_95 rfl rfl h
theorem v_X12_planAt_99 {E : EE} {d : Nat} {Q : Option AV → AH → Prop} {x0 : Nat} {x1 : Int32} {x2 : Int32} {x3 : Int32} {x4 : Int32} {x5 : Int32} {x6 : Int32} {G : AH} (h : wp E d M_X12_planAt 42 [some (vr x0), some (vi x1), some (vi x2), some (vi x3), some (vi x4), some (vi x5), some (vi (x6 + 1))] [] G Q) : wp E d M_X12_planAt 99 [some (vr x0), some (vi x1), some (vi x2), some (vi x3), some (vi x4), some (vi x5), some (vi x6)] [] G Q := by
  refine wp_iinc (pc := 99) (v := 1) (lv' := [some (vr _), some (vi _), some (vi _), some (vi _), some (vi _), some (vi _), some (vi _)]) d_X12_planAt_99 (by decide) rfl rfl rfl ?_
  refine wp_goto (pc := 102) (tgt := 42) d_X12_planAt_102 (by decide) ?_
  refine wp_sub ?_ h
  exact ⟨rfl, ⟨rfl, ⟨rfl, ⟨rfl, ⟨rfl, ⟨rfl, ⟨rfl, trivial⟩⟩⟩⟩⟩⟩⟩
theorem d_X12_feasibles_0 : decode prog_14_method_120_code 0 = .ok (.aload_n 0, 1) := by decide +kernel
theorem d_X12_feasibles_1 : decode prog_14_method_120_code 1 = .ok (.iload_n 1, 1) := by decide +kernel
theorem d_X12_feasibles_2 : decode prog_14_method_120_code 2 = .ok (.invokevirtual 453, 3) := by decide +kernel
theorem d_X12_feasibles_5 : decode prog_14_method_120_code 5 = .ok (.ifCond .ne 5, 3) := by decide +kernel
theorem d_X12_feasibles_8 : decode prog_14_method_120_code 8 = .ok (.iconst (-1), 1) := by decide +kernel
theorem d_X12_feasibles_9 : decode prog_14_method_120_code 9 = .ok (.ireturn, 1) := by decide +kernel
theorem d_X12_feasibles_10 : decode prog_14_method_120_code 10 = .ok (.aload_n 0, 1) := by decide +kernel
theorem d_X12_feasibles_11 : decode prog_14_method_120_code 11 = .ok (.iload_n 1, 1) := by decide +kernel
theorem d_X12_feasibles_12 : decode prog_14_method_120_code 12 = .ok (.invokevirtual 571, 3) := by decide +kernel
theorem d_X12_feasibles_15 : decode prog_14_method_120_code 15 = .ok (.iconst 0, 1) := by decide +kernel
theorem d_X12_feasibles_16 : decode prog_14_method_120_code 16 = .ok (.istore_n 2, 1) := by decide +kernel
theorem d_X12_feasibles_17 : decode prog_14_method_120_code 17 = .ok (.iconst 0, 1) := by decide +kernel
theorem d_X12_feasibles_18 : decode prog_14_method_120_code 18 = .ok (.istore_n 3, 1) := by decide +kernel
theorem d_X12_feasibles_19 : decode prog_14_method_120_code 19 = .ok (.iload_n 3, 1) := by decide +kernel
theorem d_X12_feasibles_20 : decode prog_14_method_120_code 20 = .ok (.aload_n 0, 1) := by decide +kernel
theorem d_X12_feasibles_21 : decode prog_14_method_120_code 21 = .ok (.getfield 82, 3) := by decide +kernel
theorem d_X12_feasibles_24 : decode prog_14_method_120_code 24 = .ok (.iload_n 1, 1) := by decide +kernel
theorem d_X12_feasibles_25 : decode prog_14_method_120_code 25 = .ok (.iaload, 1) := by decide +kernel
theorem d_X12_feasibles_26 : decode prog_14_method_120_code 26 = .ok (.if_icmp .ge 26, 3) := by decide +kernel
theorem d_X12_feasibles_29 : decode prog_14_method_120_code 29 = .ok (.iload_n 2, 1) := by decide +kernel
theorem d_X12_feasibles_30 : decode prog_14_method_120_code 30 = .ok (.aload_n 0, 1) := by decide +kernel
theorem d_X12_feasibles_31 : decode prog_14_method_120_code 31 = .ok (.iload_n 1, 1) := by decide +kernel
theorem d_X12_feasibles_32 : decode prog_14_method_120_code 32 = .ok (.iload_n 3, 1) := by decide +kernel
theorem d_X12_feasibles_33 : decode prog_14_method_120_code 33 = .ok (.invokevirtual 562, 3) := by decide +kernel
theorem d_X12_feasibles_36 : decode prog_14_method_120_code 36 = .ok (.ifCond .eq 7, 3) := by decide +kernel
theorem d_X12_feasibles_39 : decode prog_14_method_120_code 39 = .ok (.iconst 1, 1) := by decide +kernel
theorem d_X12_feasibles_40 : decode prog_14_method_120_code 40 = .ok (.goto 4, 3) := by decide +kernel
theorem d_X12_feasibles_43 : decode prog_14_method_120_code 43 = .ok (.iconst 0, 1) := by decide +kernel
theorem d_X12_feasibles_44 : decode prog_14_method_120_code 44 = .ok (.iadd, 1) := by decide +kernel
theorem d_X12_feasibles_45 : decode prog_14_method_120_code 45 = .ok (.istore_n 2, 1) := by decide +kernel
theorem d_X12_feasibles_46 : decode prog_14_method_120_code 46 = .ok (.iinc 3 1, 3) := by decide +kernel
theorem d_X12_feasibles_49 : decode prog_14_method_120_code 49 = .ok (.goto (-30), 3) := by decide +kernel
theorem d_X12_feasibles_52 : decode prog_14_method_120_code 52 = .ok (.iload_n 2, 1) := by decide +kernel
theorem d_X12_feasibles_53 : decode prog_14_method_120_code 53 = .ok (.ireturn, 1) := by decide +kernel
theorem v_X12_feasibles_0 {E : EE} {d : Nat} {Q : Option AV → AH → Prop} {x0 : Nat} {x1 : Int32} {G : AH} (h0 : 0 < d) (h : isO E G x0 12 ∧ (wpI E (d - 1) M_X12_isProblem [vr x0, vi x1] G (fun r1 G2 => (¬ r1 = 0 → isO E G2 x0 12 ∧ (wpV E (d - 1) M_X12_know [vr x0, vi x1] G2 (fun G3 => wp E d M_X12_feasibles 19 [some (vr x0), some (vi x1), some (vi 0), some (vi 0)] [] G3 Q))) ∧ (r1 = 0 → Q (some (vi (-1))) G2)))) : wp E d M_X12_feasibles 0 [some (vr x0), some (vi x1), none, none] [] G Q := by
  refine wp_aload_n (pc := 0) d_X12_feasibles_0 rfl ?_
  refine wp_iload_n (pc := 1) d_X12_feasibles_1 rfl ?_
  obtain ⟨ho5, h⟩ := h
  refine wp_invV (pc := 2) (N := M_X12_isProblem) (As := [vi _]) (rest := []) (r := (cn_12, ct_12, 95)) d_X12_feasibles_2 ml_X12_453 mk_X12_isProblem mv_X12_isProblem h0 ho5 rfl rfl (Nat.le_of_ble_eq_true rfl) ?_
  refine wpM.mono h (fun rr G2 hr => ?_)
  obtain ⟨r1, rfl, h⟩ := hr
  show wp E d M_X12_feasibles 5 [some (vr _), some (vi _), none, none] [vi _] G2 Q
  refine wp_if_ne (pc := 5) (tgt := 10) d_X12_feasibles_5 (by decide) (fun hc => ?_) (fun hc => ?_)
  · have h := h.1 hc
    refine wp_aload_n (pc := 10) d_X12_feasibles_10 rfl ?_
    refine wp_iload_n (pc := 11) d_X12_feasibles_11 rfl ?_
    obtain ⟨ho4, h⟩ := h
    refine wp_invV (pc := 12) (N := M_X12_know) (As := [vi _]) (rest := []) (r := (cn_12, ct_12, 95)) d_X12_feasibles_12 ml_X12_571 mk_X12_know mv_X12_know h0 ho4 rfl rfl (Nat.le_of_ble_eq_true rfl) ?_
    refine wpM.mono h (fun rr G3 hr => ?_)
    obtain ⟨rfl, h⟩ := hr
    show wp E d M_X12_feasibles 15 [some (vr _), some (vi _), none, none] [] G3 Q
    refine wp_iconst (pc := 15) (v := 0) d_X12_feasibles_15 rfl ?_
    refine wp_istore_n (pc := 16) (lv' := [some (vr _), some (vi _), some (vi _), none]) d_X12_feasibles_16 (by decide) rfl ?_
    refine wp_iconst (pc := 17) (v := 0) d_X12_feasibles_17 rfl ?_
    refine wp_istore_n (pc := 18) (lv' := [some (vr _), some (vi _), some (vi _), some (vi _)]) d_X12_feasibles_18 (by decide) rfl ?_
    refine wp_sub ?_ h
    exact ⟨rfl, ⟨rfl, ⟨rfl, ⟨rfl, trivial⟩⟩⟩⟩
  · have h := h.2 hc
    refine wp_iconst (pc := 8) (v := (-1)) d_X12_feasibles_8 rfl ?_
    exact wp_iret (pc := 9) d_X12_feasibles_9 rfl h
theorem v_X12_feasibles_19 {E : EE} {d : Nat} {Q : Option AV → AH → Prop} {x0 : Nat} {x1 : Int32} {x2 : Int32} {x3 : Int32} {G : AH} (h0 : 0 < d) (h : isO E G x0 12 ∧ (isO E G (gR G x0 25) 14 ∧ (vp_in x1 (gN G (gR G x0 25)) ∧ (((gI G (gR G x0 25) (Int32.toNatClampNeg x1)) ≤ x3 → Q (some (vi x2)) G) ∧ (¬ ((gI G (gR G x0 25) (Int32.toNatClampNeg x1)) ≤ x3) → wpI E (d - 1) M_X12_isGood [vr x0, vi x1, vi x3] G (fun r4 G5 => (r4 = 0 → wp E d M_X12_feasibles 44 [some (vr x0), some (vi x1), some (vi x2), some (vi x3)] [vi 0, vi x2] G5 Q) ∧ (¬ (r4 = 0) → wp E d M_X12_feasibles 44 [some (vr x0), some (vi x1), some (vi x2), some (vi x3)] [vi 1, vi x2] G5 Q))))))) : wp E d M_X12_feasibles 19 [some (vr x0), some (vi x1), some (vi x2), some (vi x3)] [] G Q := by
  refine wp_iload_n (pc := 19) d_X12_feasibles_19 rfl ?_
  refine wp_aload_n (pc := 20) d_X12_feasibles_20 rfl ?_
  obtain ⟨ho1, h⟩ := h
  refine wp_getR (pc := 21) d_X12_feasibles_21 fl_X12_82 (fun _ _ _ => rfl) ho1 ?_
  refine wp_iload_n (pc := 24) d_X12_feasibles_24 rfl ?_
  obtain ⟨ho2, h⟩ := h
  obtain ⟨hi3, h⟩ := h
  refine wp_iald (pc := 25) d_X12_feasibles_25 ho2 hi3 ?_
  refine wp_icmp_ge (pc := 26) (tgt := 52) d_X12_feasibles_26 (by decide) (fun hc => ?_) (fun hc => ?_)
  · have h := h.1 hc
    refine wp_iload_n (pc := 52) d_X12_feasibles_52 rfl ?_
    exact wp_iret (pc := 53) d_X12_feasibles_53 rfl h
  · have h := h.2 hc
    refine wp_iload_n (pc := 29) d_X12_feasibles_29 rfl ?_
    refine wp_aload_n (pc := 30) d_X12_feasibles_30 rfl ?_
    refine wp_iload_n (pc := 31) d_X12_feasibles_31 rfl ?_
    refine wp_iload_n (pc := 32) d_X12_feasibles_32 rfl ?_
    refine wp_invV (pc := 33) (N := M_X12_isGood) (As := [vi _, vi _]) (rest := [vi _]) (r := (cn_12, ct_12, 95)) d_X12_feasibles_33 ml_X12_562 mk_X12_isGood mv_X12_isGood h0 ho1 rfl rfl (Nat.le_of_ble_eq_true rfl) ?_
    refine wpM.mono h (fun rr G5 hr => ?_)
    obtain ⟨r4, rfl, h⟩ := hr
    show wp E d M_X12_feasibles 36 [some (vr _), some (vi _), some (vi _), some (vi _)] [vi _, vi _] G5 Q
    refine wp_if_eq (pc := 36) (tgt := 43) d_X12_feasibles_36 (by decide) (fun hc => ?_) (fun hc => ?_)
    · have h := h.1 hc
      refine wp_iconst (pc := 43) (v := 0) d_X12_feasibles_43 rfl ?_
      refine wp_sub ?_ h
      exact ⟨rfl, ⟨rfl, ⟨rfl, ⟨rfl, trivial⟩⟩⟩⟩
    · have h := h.2 hc
      refine wp_iconst (pc := 39) (v := 1) d_X12_feasibles_39 rfl ?_
      refine wp_goto (pc := 40) (tgt := 44) d_X12_feasibles_40 (by decide) ?_
      refine wp_sub ?_ h
      exact ⟨rfl, ⟨rfl, ⟨rfl, ⟨rfl, trivial⟩⟩⟩⟩
theorem v_X12_feasibles_44 {E : EE} {d : Nat} {Q : Option AV → AH → Prop} {x0 : Nat} {x1 : Int32} {x2 : Int32} {x3 : Int32} {t0 : Int32} {t1 : Int32} {G : AH} (h : wp E d M_X12_feasibles 19 [some (vr x0), some (vi x1), some (vi (t0 + t1)), some (vi (x3 + 1))] [] G Q) : wp E d M_X12_feasibles 44 [some (vr x0), some (vi x1), some (vi x2), some (vi x3)] [vi t1, vi t0] G Q := by
  refine wp_iadd (pc := 44) d_X12_feasibles_44 ?_
  refine wp_istore_n (pc := 45) (lv' := [some (vr _), some (vi _), some (vi _), some (vi _)]) d_X12_feasibles_45 (by decide) rfl ?_
  refine wp_iinc (pc := 46) (v := 1) (lv' := [some (vr _), some (vi _), some (vi _), some (vi _)]) d_X12_feasibles_46 (by decide) rfl rfl rfl ?_
  refine wp_goto (pc := 49) (tgt := 19) d_X12_feasibles_49 (by decide) ?_
  refine wp_sub ?_ h
  exact ⟨rfl, ⟨rfl, ⟨rfl, ⟨rfl, trivial⟩⟩⟩⟩
theorem d_X12_bestAt_0 : decode prog_14_method_119_code 0 = .ok (.aload_n 0, 1) := by decide +kernel
theorem d_X12_bestAt_1 : decode prog_14_method_119_code 1 = .ok (.iload_n 1, 1) := by decide +kernel
theorem d_X12_bestAt_2 : decode prog_14_method_119_code 2 = .ok (.iload_n 2, 1) := by decide +kernel
theorem d_X12_bestAt_3 : decode prog_14_method_119_code 3 = .ok (.iconst 1, 1) := by decide +kernel
theorem d_X12_bestAt_4 : decode prog_14_method_119_code 4 = .ok (.invokevirtual 601, 3) := by decide +kernel
theorem d_X12_bestAt_7 : decode prog_14_method_119_code 7 = .ok (.ireturn, 1) := by decide +kernel
theorem v_X12_bestAt_0 {E : EE} {d : Nat} {Q : Option AV → AH → Prop} {x0 : Nat} {x1 : Int32} {x2 : Int32} {G : AH} (h0 : 0 < d) (h : isO E G x0 12 ∧ (wpI E (d - 1) M_X12_planAt [vr x0, vi x1, vi x2, vi 1] G (fun r1 G2 => okI .boolean r1 ∧ Q (some (vi r1)) G2))) : wp E d M_X12_bestAt 0 [some (vr x0), some (vi x1), some (vi x2)] [] G Q := by
  refine wp_aload_n (pc := 0) d_X12_bestAt_0 rfl ?_
  refine wp_iload_n (pc := 1) d_X12_bestAt_1 rfl ?_
  refine wp_iload_n (pc := 2) d_X12_bestAt_2 rfl ?_
  refine wp_iconst (pc := 3) (v := 1) d_X12_bestAt_3 rfl ?_
  obtain ⟨ho3, h⟩ := h
  refine wp_invV (pc := 4) (N := M_X12_planAt) (As := [vi _, vi _, vi _]) (rest := []) (r := (cn_12, ct_12, 95)) d_X12_bestAt_4 ml_X12_601 mk_X12_planAt mv_X12_planAt h0 ho3 rfl rfl (Nat.le_of_ble_eq_true rfl) ?_
  refine wpM.mono h (fun rr G2 hr => ?_)
  obtain ⟨r1, rfl, h⟩ := hr
  show wp E d M_X12_bestAt 7 [some (vr _), some (vi _), some (vi _)] [vi _] G2 Q
  exact wp_zret (pc := 7) d_X12_bestAt_7 rfl h.1.1 h.2
theorem d_X12_bests_0 : decode prog_14_method_117_code 0 = .ok (.aload_n 0, 1) := by decide +kernel
theorem d_X12_bests_1 : decode prog_14_method_117_code 1 = .ok (.iload_n 1, 1) := by decide +kernel
theorem d_X12_bests_2 : decode prog_14_method_117_code 2 = .ok (.invokevirtual 453, 3) := by decide +kernel
theorem d_X12_bests_5 : decode prog_14_method_117_code 5 = .ok (.ifCond .ne 5, 3) := by decide +kernel
theorem d_X12_bests_8 : decode prog_14_method_117_code 8 = .ok (.iconst (-1), 1) := by decide +kernel
theorem d_X12_bests_9 : decode prog_14_method_117_code 9 = .ok (.ireturn, 1) := by decide +kernel
theorem d_X12_bests_10 : decode prog_14_method_117_code 10 = .ok (.aload_n 0, 1) := by decide +kernel
theorem d_X12_bests_11 : decode prog_14_method_117_code 11 = .ok (.iload_n 1, 1) := by decide +kernel
theorem d_X12_bests_12 : decode prog_14_method_117_code 12 = .ok (.invokevirtual 571, 3) := by decide +kernel
theorem d_X12_bests_15 : decode prog_14_method_117_code 15 = .ok (.aload_n 0, 1) := by decide +kernel
theorem d_X12_bests_16 : decode prog_14_method_117_code 16 = .ok (.iload_n 1, 1) := by decide +kernel
theorem d_X12_bests_17 : decode prog_14_method_117_code 17 = .ok (.iconst (-1), 1) := by decide +kernel
theorem d_X12_bests_18 : decode prog_14_method_117_code 18 = .ok (.iconst 0, 1) := by decide +kernel
theorem d_X12_bests_19 : decode prog_14_method_117_code 19 = .ok (.invokevirtual 592, 3) := by decide +kernel
theorem d_X12_bests_22 : decode prog_14_method_117_code 22 = .ok (.istore_n 2, 1) := by decide +kernel
theorem d_X12_bests_23 : decode prog_14_method_117_code 23 = .ok (.iconst 0, 1) := by decide +kernel
theorem d_X12_bests_24 : decode prog_14_method_117_code 24 = .ok (.istore_n 3, 1) := by decide +kernel
theorem d_X12_bests_25 : decode prog_14_method_117_code 25 = .ok (.iconst 0, 1) := by decide +kernel
theorem d_X12_bests_26 : decode prog_14_method_117_code 26 = .ok (.istore 4, 2) := by decide +kernel
theorem d_X12_bests_28 : decode prog_14_method_117_code 28 = .ok (.iload 4, 2) := by decide +kernel
theorem d_X12_bests_30 : decode prog_14_method_117_code 30 = .ok (.aload_n 0, 1) := by decide +kernel
theorem d_X12_bests_31 : decode prog_14_method_117_code 31 = .ok (.getfield 82, 3) := by decide +kernel
theorem d_X12_bests_34 : decode prog_14_method_117_code 34 = .ok (.iload_n 1, 1) := by decide +kernel
theorem d_X12_bests_35 : decode prog_14_method_117_code 35 = .ok (.iaload, 1) := by decide +kernel
theorem d_X12_bests_36 : decode prog_14_method_117_code 36 = .ok (.if_icmp .ge 28, 3) := by decide +kernel
theorem d_X12_bests_39 : decode prog_14_method_117_code 39 = .ok (.iload_n 3, 1) := by decide +kernel
theorem d_X12_bests_40 : decode prog_14_method_117_code 40 = .ok (.aload_n 0, 1) := by decide +kernel
theorem d_X12_bests_41 : decode prog_14_method_117_code 41 = .ok (.iload_n 1, 1) := by decide +kernel
theorem d_X12_bests_42 : decode prog_14_method_117_code 42 = .ok (.iload 4, 2) := by decide +kernel
theorem d_X12_bests_44 : decode prog_14_method_117_code 44 = .ok (.iload_n 2, 1) := by decide +kernel
theorem d_X12_bests_45 : decode prog_14_method_117_code 45 = .ok (.invokevirtual 598, 3) := by decide +kernel
theorem d_X12_bests_48 : decode prog_14_method_117_code 48 = .ok (.ifCond .eq 7, 3) := by decide +kernel
theorem d_X12_bests_51 : decode prog_14_method_117_code 51 = .ok (.iconst 1, 1) := by decide +kernel
theorem d_X12_bests_52 : decode prog_14_method_117_code 52 = .ok (.goto 4, 3) := by decide +kernel
theorem d_X12_bests_55 : decode prog_14_method_117_code 55 = .ok (.iconst 0, 1) := by decide +kernel
theorem d_X12_bests_56 : decode prog_14_method_117_code 56 = .ok (.iadd, 1) := by decide +kernel
theorem d_X12_bests_57 : decode prog_14_method_117_code 57 = .ok (.istore_n 3, 1) := by decide +kernel
theorem d_X12_bests_58 : decode prog_14_method_117_code 58 = .ok (.iinc 4 1, 3) := by decide +kernel
theorem d_X12_bests_61 : decode prog_14_method_117_code 61 = .ok (.goto (-33), 3) := by decide +kernel
theorem d_X12_bests_64 : decode prog_14_method_117_code 64 = .ok (.iload_n 3, 1) := by decide +kernel
theorem d_X12_bests_65 : decode prog_14_method_117_code 65 = .ok (.ireturn, 1) := by decide +kernel
theorem v_X12_bests_0 {E : EE} {d : Nat} {Q : Option AV → AH → Prop} {x0 : Nat} {x1 : Int32} {G : AH} (h0 : 0 < d) (h : isO E G x0 12 ∧ (wpI E (d - 1) M_X12_isProblem [vr x0, vi x1] G (fun r1 G2 => (¬ r1 = 0 → isO E G2 x0 12 ∧ (wpV E (d - 1) M_X12_know [vr x0, vi x1] G2 (fun G3 => isO E G3 x0 12 ∧ (wpI E (d - 1) M_X12_firstBest [vr x0, vi x1, vi (-1), vi 0] G3 (fun r4 G5 => wp E d M_X12_bests 28 [some (vr x0), some (vi x1), some (vi r4), some (vi 0), some (vi 0)] [] G5 Q))))) ∧ (r1 = 0 → Q (some (vi (-1))) G2)))) : wp E d M_X12_bests 0 [some (vr x0), some (vi x1), none, none, none] [] G Q := by
  refine wp_aload_n (pc := 0) d_X12_bests_0 rfl ?_
  refine wp_iload_n (pc := 1) d_X12_bests_1 rfl ?_
  obtain ⟨ho8, h⟩ := h
  refine wp_invV (pc := 2) (N := M_X12_isProblem) (As := [vi _]) (rest := []) (r := (cn_12, ct_12, 95)) d_X12_bests_2 ml_X12_453 mk_X12_isProblem mv_X12_isProblem h0 ho8 rfl rfl (Nat.le_of_ble_eq_true rfl) ?_
  refine wpM.mono h (fun rr G2 hr => ?_)
  obtain ⟨r1, rfl, h⟩ := hr
  show wp E d M_X12_bests 5 [some (vr _), some (vi _), none, none, none] [vi _] G2 Q
  refine wp_if_ne (pc := 5) (tgt := 10) d_X12_bests_5 (by decide) (fun hc => ?_) (fun hc => ?_)
  · have h := h.1 hc
    refine wp_aload_n (pc := 10) d_X12_bests_10 rfl ?_
    refine wp_iload_n (pc := 11) d_X12_bests_11 rfl ?_
    obtain ⟨ho7, h⟩ := h
    refine wp_invV (pc := 12) (N := M_X12_know) (As := [vi _]) (rest := []) (r := (cn_12, ct_12, 95)) d_X12_bests_12 ml_X12_571 mk_X12_know mv_X12_know h0 ho7 rfl rfl (Nat.le_of_ble_eq_true rfl) ?_
    refine wpM.mono h (fun rr G3 hr => ?_)
    obtain ⟨rfl, h⟩ := hr
    show wp E d M_X12_bests 15 [some (vr _), some (vi _), none, none, none] [] G3 Q
    refine wp_aload_n (pc := 15) d_X12_bests_15 rfl ?_
    refine wp_iload_n (pc := 16) d_X12_bests_16 rfl ?_
    refine wp_iconst (pc := 17) (v := (-1)) d_X12_bests_17 rfl ?_
    refine wp_iconst (pc := 18) (v := 0) d_X12_bests_18 rfl ?_
    obtain ⟨ho6, h⟩ := h
    refine wp_invV (pc := 19) (N := M_X12_firstBest) (As := [vi _, vi _, vi _]) (rest := []) (r := (cn_12, ct_12, 95)) d_X12_bests_19 ml_X12_592 mk_X12_firstBest mv_X12_firstBest h0 ho6 rfl rfl (Nat.le_of_ble_eq_true rfl) ?_
    refine wpM.mono h (fun rr G5 hr => ?_)
    obtain ⟨r4, rfl, h⟩ := hr
    show wp E d M_X12_bests 22 [some (vr _), some (vi _), none, none, none] [vi _] G5 Q
    refine wp_istore_n (pc := 22) (lv' := [some (vr _), some (vi _), some (vi _), none, none]) d_X12_bests_22 (by decide) rfl ?_
    refine wp_iconst (pc := 23) (v := 0) d_X12_bests_23 rfl ?_
    refine wp_istore_n (pc := 24) (lv' := [some (vr _), some (vi _), some (vi _), some (vi _), none]) d_X12_bests_24 (by decide) rfl ?_
    refine wp_iconst (pc := 25) (v := 0) d_X12_bests_25 rfl ?_
    refine wp_istore (pc := 26) (lv' := [some (vr _), some (vi _), some (vi _), some (vi _), some (vi _)]) d_X12_bests_26 (by decide) rfl ?_
    refine wp_sub ?_ h
    exact ⟨rfl, ⟨rfl, ⟨rfl, ⟨rfl, ⟨rfl, trivial⟩⟩⟩⟩⟩
  · have h := h.2 hc
    refine wp_iconst (pc := 8) (v := (-1)) d_X12_bests_8 rfl ?_
    exact wp_iret (pc := 9) d_X12_bests_9 rfl h
theorem v_X12_bests_28 {E : EE} {d : Nat} {Q : Option AV → AH → Prop} {x0 : Nat} {x1 : Int32} {x2 : Int32} {x3 : Int32} {x4 : Int32} {G : AH} (h0 : 0 < d) (h : isO E G x0 12 ∧ (isO E G (gR G x0 25) 14 ∧ (vp_in x1 (gN G (gR G x0 25)) ∧ (((gI G (gR G x0 25) (Int32.toNatClampNeg x1)) ≤ x4 → Q (some (vi x3)) G) ∧ (¬ ((gI G (gR G x0 25) (Int32.toNatClampNeg x1)) ≤ x4) → wpI E (d - 1) M_X12_isBest [vr x0, vi x1, vi x4, vi x2] G (fun r4 G5 => (r4 = 0 → wp E d M_X12_bests 56 [some (vr x0), some (vi x1), some (vi x2), some (vi x3), some (vi x4)] [vi 0, vi x3] G5 Q) ∧ (¬ (r4 = 0) → wp E d M_X12_bests 56 [some (vr x0), some (vi x1), some (vi x2), some (vi x3), some (vi x4)] [vi 1, vi x3] G5 Q))))))) : wp E d M_X12_bests 28 [some (vr x0), some (vi x1), some (vi x2), some (vi x3), some (vi x4)] [] G Q := by
  refine wp_iload (pc := 28) d_X12_bests_28 rfl ?_
  refine wp_aload_n (pc := 30) d_X12_bests_30 rfl ?_
  obtain ⟨ho1, h⟩ := h
  refine wp_getR (pc := 31) d_X12_bests_31 fl_X12_82 (fun _ _ _ => rfl) ho1 ?_
  refine wp_iload_n (pc := 34) d_X12_bests_34 rfl ?_
  obtain ⟨ho2, h⟩ := h
  obtain ⟨hi3, h⟩ := h
  refine wp_iald (pc := 35) d_X12_bests_35 ho2 hi3 ?_
  refine wp_icmp_ge (pc := 36) (tgt := 64) d_X12_bests_36 (by decide) (fun hc => ?_) (fun hc => ?_)
  · have h := h.1 hc
    refine wp_iload_n (pc := 64) d_X12_bests_64 rfl ?_
    exact wp_iret (pc := 65) d_X12_bests_65 rfl h
  · have h := h.2 hc
    refine wp_iload_n (pc := 39) d_X12_bests_39 rfl ?_
    refine wp_aload_n (pc := 40) d_X12_bests_40 rfl ?_
    refine wp_iload_n (pc := 41) d_X12_bests_41 rfl ?_
    refine wp_iload (pc := 42) d_X12_bests_42 rfl ?_
    refine wp_iload_n (pc := 44) d_X12_bests_44 rfl ?_
    refine wp_invV (pc := 45) (N := M_X12_isBest) (As := [vi _, vi _, vi _]) (rest := [vi _]) (r := (cn_12, ct_12, 95)) d_X12_bests_45 ml_X12_598 mk_X12_isBest mv_X12_isBest h0 ho1 rfl rfl (Nat.le_of_ble_eq_true rfl) ?_
    refine wpM.mono h (fun rr G5 hr => ?_)
    obtain ⟨r4, rfl, h⟩ := hr
    show wp E d M_X12_bests 48 [some (vr _), some (vi _), some (vi _), some (vi _), some (vi _)] [vi _, vi _] G5 Q
    refine wp_if_eq (pc := 48) (tgt := 55) d_X12_bests_48 (by decide) (fun hc => ?_) (fun hc => ?_)
    · have h := h.1 hc
      refine wp_iconst (pc := 55) (v := 0) d_X12_bests_55 rfl ?_
      refine wp_sub ?_ h
      exact ⟨rfl, ⟨rfl, ⟨rfl, ⟨rfl, ⟨rfl, trivial⟩⟩⟩⟩⟩
    · have h := h.2 hc
      refine wp_iconst (pc := 51) (v := 1) d_X12_bests_51 rfl ?_
      refine wp_goto (pc := 52) (tgt := 56) d_X12_bests_52 (by decide) ?_
      refine wp_sub ?_ h
      exact ⟨rfl, ⟨rfl, ⟨rfl, ⟨rfl, ⟨rfl, trivial⟩⟩⟩⟩⟩
theorem v_X12_bests_56 {E : EE} {d : Nat} {Q : Option AV → AH → Prop} {x0 : Nat} {x1 : Int32} {x2 : Int32} {x3 : Int32} {x4 : Int32} {t0 : Int32} {t1 : Int32} {G : AH} (h : wp E d M_X12_bests 28 [some (vr x0), some (vi x1), some (vi x2), some (vi (t0 + t1)), some (vi (x4 + 1))] [] G Q) : wp E d M_X12_bests 56 [some (vr x0), some (vi x1), some (vi x2), some (vi x3), some (vi x4)] [vi t1, vi t0] G Q := by
  refine wp_iadd (pc := 56) d_X12_bests_56 ?_
  refine wp_istore_n (pc := 57) (lv' := [some (vr _), some (vi _), some (vi _), some (vi _), some (vi _)]) d_X12_bests_57 (by decide) rfl ?_
  refine wp_iinc (pc := 58) (v := 1) (lv' := [some (vr _), some (vi _), some (vi _), some (vi _), some (vi _)]) d_X12_bests_58 (by decide) rfl rfl rfl ?_
  refine wp_goto (pc := 61) (tgt := 28) d_X12_bests_61 (by decide) ?_
  refine wp_sub ?_ h
  exact ⟨rfl, ⟨rfl, ⟨rfl, ⟨rfl, ⟨rfl, trivial⟩⟩⟩⟩⟩
theorem d_X12_best_0 : decode prog_14_method_116_code 0 = .ok (.aload_n 0, 1) := by decide +kernel
theorem d_X12_best_1 : decode prog_14_method_116_code 1 = .ok (.iload_n 1, 1) := by decide +kernel
theorem d_X12_best_2 : decode prog_14_method_116_code 2 = .ok (.invokevirtual 453, 3) := by decide +kernel
theorem d_X12_best_5 : decode prog_14_method_116_code 5 = .ok (.ifCond .eq 10, 3) := by decide +kernel
theorem d_X12_best_8 : decode prog_14_method_116_code 8 = .ok (.iload_n 2, 1) := by decide +kernel
theorem d_X12_best_9 : decode prog_14_method_116_code 9 = .ok (.invokestatic 583, 3) := by decide +kernel
theorem d_X12_best_12 : decode prog_14_method_116_code 12 = .ok (.ifCond .ne 7, 3) := by decide +kernel
theorem d_X12_best_15 : decode prog_14_method_116_code 15 = .ok (.ldc2_w 466, 3) := by decide +kernel
theorem d_X12_best_18 : decode prog_14_method_116_code 18 = .ok (.lreturn, 1) := by decide +kernel
theorem d_X12_best_19 : decode prog_14_method_116_code 19 = .ok (.aload_n 0, 1) := by decide +kernel
theorem d_X12_best_20 : decode prog_14_method_116_code 20 = .ok (.iload_n 1, 1) := by decide +kernel
theorem d_X12_best_21 : decode prog_14_method_116_code 21 = .ok (.invokevirtual 571, 3) := by decide +kernel
theorem d_X12_best_24 : decode prog_14_method_116_code 24 = .ok (.aload_n 0, 1) := by decide +kernel
theorem d_X12_best_25 : decode prog_14_method_116_code 25 = .ok (.iload_n 1, 1) := by decide +kernel
theorem d_X12_best_26 : decode prog_14_method_116_code 26 = .ok (.iconst (-1), 1) := by decide +kernel
theorem d_X12_best_27 : decode prog_14_method_116_code 27 = .ok (.iconst 0, 1) := by decide +kernel
theorem d_X12_best_28 : decode prog_14_method_116_code 28 = .ok (.invokevirtual 592, 3) := by decide +kernel
theorem d_X12_best_31 : decode prog_14_method_116_code 31 = .ok (.istore_n 3, 1) := by decide +kernel
theorem d_X12_best_32 : decode prog_14_method_116_code 32 = .ok (.iload_n 3, 1) := by decide +kernel
theorem d_X12_best_33 : decode prog_14_method_116_code 33 = .ok (.ifCond .ge 9, 3) := by decide +kernel
theorem d_X12_best_36 : decode prog_14_method_116_code 36 = .ok (.ldc2_w 466, 3) := by decide +kernel
theorem d_X12_best_39 : decode prog_14_method_116_code 39 = .ok (.goto 15, 3) := by decide +kernel
theorem d_X12_best_42 : decode prog_14_method_116_code 42 = .ok (.aload_n 0, 1) := by decide +kernel
theorem d_X12_best_43 : decode prog_14_method_116_code 43 = .ok (.getfield 159, 3) := by decide +kernel
theorem d_X12_best_46 : decode prog_14_method_116_code 46 = .ok (.sipush 20000, 3) := by decide +kernel
theorem d_X12_best_49 : decode prog_14_method_116_code 49 = .ok (.iload_n 2, 1) := by decide +kernel
theorem d_X12_best_50 : decode prog_14_method_116_code 50 = .ok (.imul, 1) := by decide +kernel
theorem d_X12_best_51 : decode prog_14_method_116_code 51 = .ok (.iload_n 3, 1) := by decide +kernel
theorem d_X12_best_52 : decode prog_14_method_116_code 52 = .ok (.iadd, 1) := by decide +kernel
theorem d_X12_best_53 : decode prog_14_method_116_code 53 = .ok (.laload, 1) := by decide +kernel
theorem d_X12_best_54 : decode prog_14_method_116_code 54 = .ok (.lreturn, 1) := by decide +kernel
theorem v_X12_best_0 {E : EE} {d : Nat} {Q : Option AV → AH → Prop} {x0 : Nat} {x1 : Int32} {x2 : Int32} {G : AH} (h0 : 0 < d) (h : isO E G x0 12 ∧ (wpI E (d - 1) M_X12_isProblem [vr x0, vi x1] G (fun r1 G2 => (r1 = 0 → Q (some (vj (-9223372036854775808))) G2) ∧ (¬ (r1 = 0) → wpI E (d - 1) M_X12_isLevel [vi x2] G2 (fun r3 G4 => (¬ r3 = 0 → isO E G4 x0 12 ∧ (wpV E (d - 1) M_X12_know [vr x0, vi x1] G4 (fun G5 => isO E G5 x0 12 ∧ (wpI E (d - 1) M_X12_firstBest [vr x0, vi x1, vi (-1), vi 0] G5 (fun r6 G7 => (0 ≤ r6 → isO E G7 x0 12 ∧ (isO E G7 (gR G7 x0 66) 15 ∧ (vp_in ((20000 * x2) + r6) (gN G7 (gR G7 x0 66)) ∧ (Q (some (vj (gJ G7 (gR G7 x0 66) (Int32.toNatClampNeg ((20000 * x2) + r6))))) G7)))) ∧ (¬ (0 ≤ r6) → Q (some (vj (-9223372036854775808))) G7)))))) ∧ (r3 = 0 → Q (some (vj (-9223372036854775808))) G4)))))) : wp E d M_X12_best 0 [some (vr x0), some (vi x1), some (vi x2), none] [] G Q := by
  refine wp_aload_n (pc := 0) d_X12_best_0 rfl ?_
  refine wp_iload_n (pc := 1) d_X12_best_1 rfl ?_
  obtain ⟨ho13, h⟩ := h
  refine wp_invV (pc := 2) (N := M_X12_isProblem) (As := [vi _]) (rest := []) (r := (cn_12, ct_12, 95)) d_X12_best_2 ml_X12_453 mk_X12_isProblem mv_X12_isProblem h0 ho13 rfl rfl (Nat.le_of_ble_eq_true rfl) ?_
  refine wpM.mono h (fun rr G2 hr => ?_)
  obtain ⟨r1, rfl, h⟩ := hr
  show wp E d M_X12_best 5 [some (vr _), some (vi _), some (vi _), none] [vi _] G2 Q
  refine wp_if_eq (pc := 5) (tgt := 15) d_X12_best_5 (by decide) (fun hc => ?_) (fun hc => ?_)
  · have h := h.1 hc
    refine wp_ldc2 (pc := 15) (v := (-9223372036854775808)) d_X12_best_15 cj_X12_466 ?_
    exact wp_lret (pc := 18) d_X12_best_18 rfl h
  · have h := h.2 hc
    refine wp_iload_n (pc := 8) d_X12_best_8 rfl ?_
    refine wp_invS (pc := 9) (N := M_X12_isLevel) (As := [vi _]) (rest := []) d_X12_best_9 ml_X12_583 mk_X12_isLevel ms_X12_isLevel h0 (Nat.le_of_ble_eq_true rfl) ?_
    refine wpM.mono h (fun rr G4 hr => ?_)
    obtain ⟨r3, rfl, h⟩ := hr
    show wp E d M_X12_best 12 [some (vr _), some (vi _), some (vi _), none] [vi _] G4 Q
    refine wp_if_ne (pc := 12) (tgt := 19) d_X12_best_12 (by decide) (fun hc => ?_) (fun hc => ?_)
    · have h := h.1 hc
      refine wp_aload_n (pc := 19) d_X12_best_19 rfl ?_
      refine wp_iload_n (pc := 20) d_X12_best_20 rfl ?_
      obtain ⟨ho12, h⟩ := h
      refine wp_invV (pc := 21) (N := M_X12_know) (As := [vi _]) (rest := []) (r := (cn_12, ct_12, 95)) d_X12_best_21 ml_X12_571 mk_X12_know mv_X12_know h0 ho12 rfl rfl (Nat.le_of_ble_eq_true rfl) ?_
      refine wpM.mono h (fun rr G5 hr => ?_)
      obtain ⟨rfl, h⟩ := hr
      show wp E d M_X12_best 24 [some (vr _), some (vi _), some (vi _), none] [] G5 Q
      refine wp_aload_n (pc := 24) d_X12_best_24 rfl ?_
      refine wp_iload_n (pc := 25) d_X12_best_25 rfl ?_
      refine wp_iconst (pc := 26) (v := (-1)) d_X12_best_26 rfl ?_
      refine wp_iconst (pc := 27) (v := 0) d_X12_best_27 rfl ?_
      obtain ⟨ho11, h⟩ := h
      refine wp_invV (pc := 28) (N := M_X12_firstBest) (As := [vi _, vi _, vi _]) (rest := []) (r := (cn_12, ct_12, 95)) d_X12_best_28 ml_X12_592 mk_X12_firstBest mv_X12_firstBest h0 ho11 rfl rfl (Nat.le_of_ble_eq_true rfl) ?_
      refine wpM.mono h (fun rr G7 hr => ?_)
      obtain ⟨r6, rfl, h⟩ := hr
      show wp E d M_X12_best 31 [some (vr _), some (vi _), some (vi _), none] [vi _] G7 Q
      refine wp_istore_n (pc := 31) (lv' := [some (vr _), some (vi _), some (vi _), some (vi _)]) d_X12_best_31 (by decide) rfl ?_
      refine wp_iload_n (pc := 32) d_X12_best_32 rfl ?_
      refine wp_if_ge (pc := 33) (tgt := 42) d_X12_best_33 (by decide) (fun hc => ?_) (fun hc => ?_)
      · have h := h.1 hc
        refine wp_aload_n (pc := 42) d_X12_best_42 rfl ?_
        obtain ⟨ho8, h⟩ := h
        refine wp_getR (pc := 43) d_X12_best_43 fl_X12_159 (fun _ _ _ => rfl) ho8 ?_
        refine wp_sipush (pc := 46) (v := 20000) d_X12_best_46 rfl ?_
        refine wp_iload_n (pc := 49) d_X12_best_49 rfl ?_
        refine wp_imul (pc := 50) d_X12_best_50 ?_
        refine wp_iload_n (pc := 51) d_X12_best_51 rfl ?_
        refine wp_iadd (pc := 52) d_X12_best_52 ?_
        obtain ⟨ho9, h⟩ := h
        obtain ⟨hi10, h⟩ := h
        refine wp_lald (pc := 53) d_X12_best_53 ho9 hi10 ?_
        exact wp_lret (pc := 54) d_X12_best_54 rfl h
      · have h := h.2 hc
        refine wp_ldc2 (pc := 36) (v := (-9223372036854775808)) d_X12_best_36 cj_X12_466 ?_
        refine wp_goto (pc := 39) (tgt := 54) d_X12_best_39 (by decide) ?_
        exact wp_lret (pc := 54) d_X12_best_54 rfl h
    · have h := h.2 hc
      refine wp_ldc2 (pc := 15) (v := (-9223372036854775808)) d_X12_best_15 cj_X12_466 ?_
      exact wp_lret (pc := 18) d_X12_best_18 rfl h
theorem d_X12_solve_0 : decode prog_14_method_115_code 0 = .ok (.aload_n 0, 1) := by decide +kernel
theorem d_X12_solve_1 : decode prog_14_method_115_code 1 = .ok (.iload_n 1, 1) := by decide +kernel
theorem d_X12_solve_2 : decode prog_14_method_115_code 2 = .ok (.invokevirtual 453, 3) := by decide +kernel
theorem d_X12_solve_5 : decode prog_14_method_115_code 5 = .ok (.ifCond .ne 5, 3) := by decide +kernel
theorem d_X12_solve_8 : decode prog_14_method_115_code 8 = .ok (.iconst (-1), 1) := by decide +kernel
theorem d_X12_solve_9 : decode prog_14_method_115_code 9 = .ok (.ireturn, 1) := by decide +kernel
theorem d_X12_solve_10 : decode prog_14_method_115_code 10 = .ok (.aload_n 0, 1) := by decide +kernel
theorem d_X12_solve_11 : decode prog_14_method_115_code 11 = .ok (.iload_n 1, 1) := by decide +kernel
theorem d_X12_solve_12 : decode prog_14_method_115_code 12 = .ok (.invokevirtual 571, 3) := by decide +kernel
theorem d_X12_solve_15 : decode prog_14_method_115_code 15 = .ok (.aload_n 0, 1) := by decide +kernel
theorem d_X12_solve_16 : decode prog_14_method_115_code 16 = .ok (.iload_n 1, 1) := by decide +kernel
theorem d_X12_solve_17 : decode prog_14_method_115_code 17 = .ok (.iconst (-1), 1) := by decide +kernel
theorem d_X12_solve_18 : decode prog_14_method_115_code 18 = .ok (.iconst 0, 1) := by decide +kernel
theorem d_X12_solve_19 : decode prog_14_method_115_code 19 = .ok (.invokevirtual 592, 3) := by decide +kernel
theorem d_X12_solve_22 : decode prog_14_method_115_code 22 = .ok (.istore_n 2, 1) := by decide +kernel
theorem d_X12_solve_23 : decode prog_14_method_115_code 23 = .ok (.iload_n 2, 1) := by decide +kernel
theorem d_X12_solve_24 : decode prog_14_method_115_code 24 = .ok (.ifCond .ge 5, 3) := by decide +kernel
theorem d_X12_solve_27 : decode prog_14_method_115_code 27 = .ok (.iconst 0, 1) := by decide +kernel
theorem d_X12_solve_28 : decode prog_14_method_115_code 28 = .ok (.ireturn, 1) := by decide +kernel
theorem d_X12_solve_29 : decode prog_14_method_115_code 29 = .ok (.aload_n 0, 1) := by decide +kernel
theorem d_X12_solve_30 : decode prog_14_method_115_code 30 = .ok (.iload_n 1, 1) := by decide +kernel
theorem d_X12_solve_31 : decode prog_14_method_115_code 31 = .ok (.iload_n 2, 1) := by decide +kernel
theorem d_X12_solve_32 : decode prog_14_method_115_code 32 = .ok (.invokevirtual 595, 3) := by decide +kernel
theorem d_X12_solve_35 : decode prog_14_method_115_code 35 = .ok (.iconst 1, 1) := by decide +kernel
theorem d_X12_solve_36 : decode prog_14_method_115_code 36 = .ok (.ireturn, 1) := by decide +kernel
theorem v_X12_solve_0 {E : EE} {d : Nat} {Q : Option AV → AH → Prop} {x0 : Nat} {x1 : Int32} {G : AH} (h0 : 0 < d) (h : isO E G x0 12 ∧ (wpI E (d - 1) M_X12_isProblem [vr x0, vi x1] G (fun r1 G2 => (¬ r1 = 0 → isO E G2 x0 12 ∧ (wpV E (d - 1) M_X12_know [vr x0, vi x1] G2 (fun G3 => isO E G3 x0 12 ∧ (wpI E (d - 1) M_X12_firstBest [vr x0, vi x1, vi (-1), vi 0] G3 (fun r4 G5 => (0 ≤ r4 → isO E G5 x0 12 ∧ (wpV E (d - 1) M_X12_putAtHand [vr x0, vi x1, vi r4] G5 (fun G6 => Q (some (vi 1)) G6))) ∧ (¬ (0 ≤ r4) → Q (some (vi 0)) G5)))))) ∧ (r1 = 0 → Q (some (vi (-1))) G2)))) : wp E d M_X12_solve 0 [some (vr x0), some (vi x1), none] [] G Q := by
  refine wp_aload_n (pc := 0) d_X12_solve_0 rfl ?_
  refine wp_iload_n (pc := 1) d_X12_solve_1 rfl ?_
  obtain ⟨ho10, h⟩ := h
  refine wp_invV (pc := 2) (N := M_X12_isProblem) (As := [vi _]) (rest := []) (r := (cn_12, ct_12, 95)) d_X12_solve_2 ml_X12_453 mk_X12_isProblem mv_X12_isProblem h0 ho10 rfl rfl (Nat.le_of_ble_eq_true rfl) ?_
  refine wpM.mono h (fun rr G2 hr => ?_)
  obtain ⟨r1, rfl, h⟩ := hr
  show wp E d M_X12_solve 5 [some (vr _), some (vi _), none] [vi _] G2 Q
  refine wp_if_ne (pc := 5) (tgt := 10) d_X12_solve_5 (by decide) (fun hc => ?_) (fun hc => ?_)
  · have h := h.1 hc
    refine wp_aload_n (pc := 10) d_X12_solve_10 rfl ?_
    refine wp_iload_n (pc := 11) d_X12_solve_11 rfl ?_
    obtain ⟨ho9, h⟩ := h
    refine wp_invV (pc := 12) (N := M_X12_know) (As := [vi _]) (rest := []) (r := (cn_12, ct_12, 95)) d_X12_solve_12 ml_X12_571 mk_X12_know mv_X12_know h0 ho9 rfl rfl (Nat.le_of_ble_eq_true rfl) ?_
    refine wpM.mono h (fun rr G3 hr => ?_)
    obtain ⟨rfl, h⟩ := hr
    show wp E d M_X12_solve 15 [some (vr _), some (vi _), none] [] G3 Q
    refine wp_aload_n (pc := 15) d_X12_solve_15 rfl ?_
    refine wp_iload_n (pc := 16) d_X12_solve_16 rfl ?_
    refine wp_iconst (pc := 17) (v := (-1)) d_X12_solve_17 rfl ?_
    refine wp_iconst (pc := 18) (v := 0) d_X12_solve_18 rfl ?_
    obtain ⟨ho8, h⟩ := h
    refine wp_invV (pc := 19) (N := M_X12_firstBest) (As := [vi _, vi _, vi _]) (rest := []) (r := (cn_12, ct_12, 95)) d_X12_solve_19 ml_X12_592 mk_X12_firstBest mv_X12_firstBest h0 ho8 rfl rfl (Nat.le_of_ble_eq_true rfl) ?_
    refine wpM.mono h (fun rr G5 hr => ?_)
    obtain ⟨r4, rfl, h⟩ := hr
    show wp E d M_X12_solve 22 [some (vr _), some (vi _), none] [vi _] G5 Q
    refine wp_istore_n (pc := 22) (lv' := [some (vr _), some (vi _), some (vi _)]) d_X12_solve_22 (by decide) rfl ?_
    refine wp_iload_n (pc := 23) d_X12_solve_23 rfl ?_
    refine wp_if_ge (pc := 24) (tgt := 29) d_X12_solve_24 (by decide) (fun hc => ?_) (fun hc => ?_)
    · have h := h.1 hc
      refine wp_aload_n (pc := 29) d_X12_solve_29 rfl ?_
      refine wp_iload_n (pc := 30) d_X12_solve_30 rfl ?_
      refine wp_iload_n (pc := 31) d_X12_solve_31 rfl ?_
      obtain ⟨ho7, h⟩ := h
      refine wp_invV (pc := 32) (N := M_X12_putAtHand) (As := [vi _, vi _]) (rest := []) (r := (cn_12, ct_12, 95)) d_X12_solve_32 ml_X12_595 mk_X12_putAtHand mv_X12_putAtHand h0 ho7 rfl rfl (Nat.le_of_ble_eq_true rfl) ?_
      refine wpM.mono h (fun rr G6 hr => ?_)
      obtain ⟨rfl, h⟩ := hr
      show wp E d M_X12_solve 35 [some (vr _), some (vi _), some (vi _)] [] G6 Q
      refine wp_iconst (pc := 35) (v := 1) d_X12_solve_35 rfl ?_
      exact wp_iret (pc := 36) d_X12_solve_36 rfl h
    · have h := h.2 hc
      refine wp_iconst (pc := 27) (v := 0) d_X12_solve_27 rfl ?_
      exact wp_iret (pc := 28) d_X12_solve_28 rfl h
  · have h := h.2 hc
    refine wp_iconst (pc := 8) (v := (-1)) d_X12_solve_8 rfl ?_
    exact wp_iret (pc := 9) d_X12_solve_9 rfl h
theorem d_X12_hopeless_0 : decode prog_14_method_114_code 0 = .ok (.aload_n 0, 1) := by decide +kernel
theorem d_X12_hopeless_1 : decode prog_14_method_114_code 1 = .ok (.iload_n 1, 1) := by decide +kernel
theorem d_X12_hopeless_2 : decode prog_14_method_114_code 2 = .ok (.invokevirtual 453, 3) := by decide +kernel
theorem d_X12_hopeless_5 : decode prog_14_method_114_code 5 = .ok (.ifCond .ne 5, 3) := by decide +kernel
theorem d_X12_hopeless_8 : decode prog_14_method_114_code 8 = .ok (.iconst (-1), 1) := by decide +kernel
theorem d_X12_hopeless_9 : decode prog_14_method_114_code 9 = .ok (.ireturn, 1) := by decide +kernel
theorem d_X12_hopeless_10 : decode prog_14_method_114_code 10 = .ok (.aload_n 0, 1) := by decide +kernel
theorem d_X12_hopeless_11 : decode prog_14_method_114_code 11 = .ok (.iload_n 1, 1) := by decide +kernel
theorem d_X12_hopeless_12 : decode prog_14_method_114_code 12 = .ok (.invokevirtual 571, 3) := by decide +kernel
theorem d_X12_hopeless_15 : decode prog_14_method_114_code 15 = .ok (.iconst 0, 1) := by decide +kernel
theorem d_X12_hopeless_16 : decode prog_14_method_114_code 16 = .ok (.istore_n 2, 1) := by decide +kernel
theorem d_X12_hopeless_17 : decode prog_14_method_114_code 17 = .ok (.iload_n 2, 1) := by decide +kernel
theorem d_X12_hopeless_18 : decode prog_14_method_114_code 18 = .ok (.aload_n 0, 1) := by decide +kernel
theorem d_X12_hopeless_19 : decode prog_14_method_114_code 19 = .ok (.iload_n 1, 1) := by decide +kernel
theorem d_X12_hopeless_20 : decode prog_14_method_114_code 20 = .ok (.invokevirtual 459, 3) := by decide +kernel
theorem d_X12_hopeless_23 : decode prog_14_method_114_code 23 = .ok (.if_icmp .ge 91, 3) := by decide +kernel
theorem d_X12_hopeless_26 : decode prog_14_method_114_code 26 = .ok (.aload_n 0, 1) := by decide +kernel
theorem d_X12_hopeless_27 : decode prog_14_method_114_code 27 = .ok (.getfield 88, 3) := by decide +kernel
theorem d_X12_hopeless_30 : decode prog_14_method_114_code 30 = .ok (.bipush 24, 2) := by decide +kernel
theorem d_X12_hopeless_32 : decode prog_14_method_114_code 32 = .ok (.iload_n 1, 1) := by decide +kernel
theorem d_X12_hopeless_33 : decode prog_14_method_114_code 33 = .ok (.imul, 1) := by decide +kernel
theorem d_X12_hopeless_34 : decode prog_14_method_114_code 34 = .ok (.iload_n 2, 1) := by decide +kernel
theorem d_X12_hopeless_35 : decode prog_14_method_114_code 35 = .ok (.iadd, 1) := by decide +kernel
theorem d_X12_hopeless_36 : decode prog_14_method_114_code 36 = .ok (.iaload, 1) := by decide +kernel
theorem d_X12_hopeless_37 : decode prog_14_method_114_code 37 = .ok (.ifCond .eq 7, 3) := by decide +kernel
theorem d_X12_hopeless_40 : decode prog_14_method_114_code 40 = .ok (.iconst 1, 1) := by decide +kernel
theorem d_X12_hopeless_41 : decode prog_14_method_114_code 41 = .ok (.goto 4, 3) := by decide +kernel
theorem d_X12_hopeless_44 : decode prog_14_method_114_code 44 = .ok (.iconst 0, 1) := by decide +kernel
theorem d_X12_hopeless_45 : decode prog_14_method_114_code 45 = .ok (.istore_n 3, 1) := by decide +kernel
theorem d_X12_hopeless_46 : decode prog_14_method_114_code 46 = .ok (.iconst 0, 1) := by decide +kernel
theorem d_X12_hopeless_47 : decode prog_14_method_114_code 47 = .ok (.istore 4, 2) := by decide +kernel
theorem d_X12_hopeless_49 : decode prog_14_method_114_code 49 = .ok (.iload_n 3, 1) := by decide +kernel
theorem d_X12_hopeless_50 : decode prog_14_method_114_code 50 = .ok (.ifCond .ne 52, 3) := by decide +kernel
theorem d_X12_hopeless_53 : decode prog_14_method_114_code 53 = .ok (.iload 4, 2) := by decide +kernel
theorem d_X12_hopeless_55 : decode prog_14_method_114_code 55 = .ok (.aload_n 0, 1) := by decide +kernel
theorem d_X12_hopeless_56 : decode prog_14_method_114_code 56 = .ok (.getfield 82, 3) := by decide +kernel
theorem d_X12_hopeless_59 : decode prog_14_method_114_code 59 = .ok (.iload_n 1, 1) := by decide +kernel
theorem d_X12_hopeless_60 : decode prog_14_method_114_code 60 = .ok (.iaload, 1) := by decide +kernel
theorem d_X12_hopeless_61 : decode prog_14_method_114_code 61 = .ok (.if_icmp .ge 41, 3) := by decide +kernel
theorem d_X12_hopeless_64 : decode prog_14_method_114_code 64 = .ok (.aload_n 0, 1) := by decide +kernel
theorem d_X12_hopeless_65 : decode prog_14_method_114_code 65 = .ok (.getfield 151, 3) := by decide +kernel
theorem d_X12_hopeless_68 : decode prog_14_method_114_code 68 = .ok (.sipush 20000, 3) := by decide +kernel
theorem d_X12_hopeless_71 : decode prog_14_method_114_code 71 = .ok (.iload_n 2, 1) := by decide +kernel
theorem d_X12_hopeless_72 : decode prog_14_method_114_code 72 = .ok (.imul, 1) := by decide +kernel
theorem d_X12_hopeless_73 : decode prog_14_method_114_code 73 = .ok (.iload 4, 2) := by decide +kernel
theorem d_X12_hopeless_75 : decode prog_14_method_114_code 75 = .ok (.iadd, 1) := by decide +kernel
theorem d_X12_hopeless_76 : decode prog_14_method_114_code 76 = .ok (.iaload, 1) := by decide +kernel
theorem d_X12_hopeless_77 : decode prog_14_method_114_code 77 = .ok (.ifCond .ne 17, 3) := by decide +kernel
theorem d_X12_hopeless_80 : decode prog_14_method_114_code 80 = .ok (.aload_n 0, 1) := by decide +kernel
theorem d_X12_hopeless_81 : decode prog_14_method_114_code 81 = .ok (.iload_n 1, 1) := by decide +kernel
theorem d_X12_hopeless_82 : decode prog_14_method_114_code 82 = .ok (.iload 4, 2) := by decide +kernel
theorem d_X12_hopeless_84 : decode prog_14_method_114_code 84 = .ok (.invokevirtual 559, 3) := by decide +kernel
theorem d_X12_hopeless_87 : decode prog_14_method_114_code 87 = .ok (.ifCond .eq 7, 3) := by decide +kernel
theorem d_X12_hopeless_90 : decode prog_14_method_114_code 90 = .ok (.iconst 1, 1) := by decide +kernel
theorem d_X12_hopeless_91 : decode prog_14_method_114_code 91 = .ok (.goto 4, 3) := by decide +kernel
theorem d_X12_hopeless_94 : decode prog_14_method_114_code 94 = .ok (.iconst 0, 1) := by decide +kernel
theorem d_X12_hopeless_95 : decode prog_14_method_114_code 95 = .ok (.istore_n 3, 1) := by decide +kernel
theorem d_X12_hopeless_96 : decode prog_14_method_114_code 96 = .ok (.iinc 4 1, 3) := by decide +kernel
theorem d_X12_hopeless_99 : decode prog_14_method_114_code 99 = .ok (.goto (-50), 3) := by decide +kernel
theorem d_X12_hopeless_102 : decode prog_14_method_114_code 102 = .ok (.iload_n 3, 1) := by decide +kernel
theorem d_X12_hopeless_103 : decode prog_14_method_114_code 103 = .ok (.ifCond .ne 5, 3) := by decide +kernel
theorem d_X12_hopeless_106 : decode prog_14_method_114_code 106 = .ok (.iload_n 2, 1) := by decide +kernel
theorem d_X12_hopeless_107 : decode prog_14_method_114_code 107 = .ok (.ireturn, 1) := by decide +kernel
theorem d_X12_hopeless_108 : decode prog_14_method_114_code 108 = .ok (.iinc 2 1, 3) := by decide +kernel
theorem d_X12_hopeless_111 : decode prog_14_method_114_code 111 = .ok (.goto (-94), 3) := by decide +kernel
theorem d_X12_hopeless_114 : decode prog_14_method_114_code 114 = .ok (.iconst (-1), 1) := by decide +kernel
theorem d_X12_hopeless_115 : decode prog_14_method_114_code 115 = .ok (.ireturn, 1) := by decide +kernel
theorem v_X12_hopeless_0 {E : EE} {d : Nat} {Q : Option AV → AH → Prop} {x0 : Nat} {x1 : Int32} {G : AH} (h0 : 0 < d) (h : isO E G x0 12 ∧ (wpI E (d - 1) M_X12_isProblem [vr x0, vi x1] G (fun r1 G2 => (¬ r1 = 0 → isO E G2 x0 12 ∧ (wpV E (d - 1) M_X12_know [vr x0, vi x1] G2 (fun G3 => wp E d M_X12_hopeless 17 [some (vr x0), some (vi x1), some (vi 0), none, none] [] G3 Q))) ∧ (r1 = 0 → Q (some (vi (-1))) G2)))) : wp E d M_X12_hopeless 0 [some (vr x0), some (vi x1), none, none, none] [] G Q := by
  refine wp_aload_n (pc := 0) d_X12_hopeless_0 rfl ?_
  refine wp_iload_n (pc := 1) d_X12_hopeless_1 rfl ?_
  obtain ⟨ho5, h⟩ := h
  refine wp_invV (pc := 2) (N := M_X12_isProblem) (As := [vi _]) (rest := []) (r := (cn_12, ct_12, 95)) d_X12_hopeless_2 ml_X12_453 mk_X12_isProblem mv_X12_isProblem h0 ho5 rfl rfl (Nat.le_of_ble_eq_true rfl) ?_
  refine wpM.mono h (fun rr G2 hr => ?_)
  obtain ⟨r1, rfl, h⟩ := hr
  show wp E d M_X12_hopeless 5 [some (vr _), some (vi _), none, none, none] [vi _] G2 Q
  refine wp_if_ne (pc := 5) (tgt := 10) d_X12_hopeless_5 (by decide) (fun hc => ?_) (fun hc => ?_)
  · have h := h.1 hc
    refine wp_aload_n (pc := 10) d_X12_hopeless_10 rfl ?_
    refine wp_iload_n (pc := 11) d_X12_hopeless_11 rfl ?_
    obtain ⟨ho4, h⟩ := h
    refine wp_invV (pc := 12) (N := M_X12_know) (As := [vi _]) (rest := []) (r := (cn_12, ct_12, 95)) d_X12_hopeless_12 ml_X12_571 mk_X12_know mv_X12_know h0 ho4 rfl rfl (Nat.le_of_ble_eq_true rfl) ?_
    refine wpM.mono h (fun rr G3 hr => ?_)
    obtain ⟨rfl, h⟩ := hr
    show wp E d M_X12_hopeless 15 [some (vr _), some (vi _), none, none, none] [] G3 Q
    refine wp_iconst (pc := 15) (v := 0) d_X12_hopeless_15 rfl ?_
    refine wp_istore_n (pc := 16) (lv' := [some (vr _), some (vi _), some (vi _), none, none]) d_X12_hopeless_16 (by decide) rfl ?_
    refine wp_sub ?_ h
    exact ⟨rfl, ⟨rfl, ⟨rfl, trivial⟩⟩⟩
  · have h := h.2 hc
    refine wp_iconst (pc := 8) (v := (-1)) d_X12_hopeless_8 rfl ?_
    exact wp_iret (pc := 9) d_X12_hopeless_9 rfl h
theorem v_X12_hopeless_17 {E : EE} {d : Nat} {Q : Option AV → AH → Prop} {x0 : Nat} {x1 : Int32} {x2 : Int32} {G : AH} (h0 : 0 < d) (h : isO E G x0 12 ∧ (wpI E (d - 1) M_X12_rulesOf [vr x0, vi x1] G (fun r1 G2 => (r1 ≤ x2 → Q (some (vi (-1))) G2) ∧ (¬ (r1 ≤ x2) → isO E G2 x0 12 ∧ (isO E G2 (gR G2 x0 27) 14 ∧ (vp_in ((24 * x1) + x2) (gN G2 (gR G2 x0 27)) ∧ (((gI G2 (gR G2 x0 27) (Int32.toNatClampNeg ((24 * x1) + x2))) = 0 → wp E d M_X12_hopeless 45 [some (vr x0), some (vi x1), some (vi x2), none, none] [vi 0] G2 Q) ∧ (¬ ((gI G2 (gR G2 x0 27) (Int32.toNatClampNeg ((24 * x1) + x2))) = 0) → wp E d M_X12_hopeless 45 [some (vr x0), some (vi x1), some (vi x2), none, none] [vi 1] G2 Q)))))))) : wp E d M_X12_hopeless 17 [some (vr x0), some (vi x1), some (vi x2), none, none] [] G Q := by
  refine wp_iload_n (pc := 17) d_X12_hopeless_17 rfl ?_
  refine wp_aload_n (pc := 18) d_X12_hopeless_18 rfl ?_
  refine wp_iload_n (pc := 19) d_X12_hopeless_19 rfl ?_
  obtain ⟨ho6, h⟩ := h
  refine wp_invV (pc := 20) (N := M_X12_rulesOf) (As := [vi _]) (rest := [vi _]) (r := (cn_12, ct_12, 95)) d_X12_hopeless_20 ml_X12_459 mk_X12_rulesOf mv_X12_rulesOf h0 ho6 rfl rfl (Nat.le_of_ble_eq_true rfl) ?_
  refine wpM.mono h (fun rr G2 hr => ?_)
  obtain ⟨r1, rfl, h⟩ := hr
  show wp E d M_X12_hopeless 23 [some (vr _), some (vi _), some (vi _), none, none] [vi _, vi _] G2 Q
  refine wp_icmp_ge (pc := 23) (tgt := 114) d_X12_hopeless_23 (by decide) (fun hc => ?_) (fun hc => ?_)
  · have h := h.1 hc
    refine wp_iconst (pc := 114) (v := (-1)) d_X12_hopeless_114 rfl ?_
    exact wp_iret (pc := 115) d_X12_hopeless_115 rfl h
  · have h := h.2 hc
    refine wp_aload_n (pc := 26) d_X12_hopeless_26 rfl ?_
    obtain ⟨ho3, h⟩ := h
    refine wp_getR (pc := 27) d_X12_hopeless_27 fl_X12_88 (fun _ _ _ => rfl) ho3 ?_
    refine wp_bipush (pc := 30) (v := 24) d_X12_hopeless_30 rfl ?_
    refine wp_iload_n (pc := 32) d_X12_hopeless_32 rfl ?_
    refine wp_imul (pc := 33) d_X12_hopeless_33 ?_
    refine wp_iload_n (pc := 34) d_X12_hopeless_34 rfl ?_
    refine wp_iadd (pc := 35) d_X12_hopeless_35 ?_
    obtain ⟨ho4, h⟩ := h
    obtain ⟨hi5, h⟩ := h
    refine wp_iald (pc := 36) d_X12_hopeless_36 ho4 hi5 ?_
    refine wp_if_eq (pc := 37) (tgt := 44) d_X12_hopeless_37 (by decide) (fun hc => ?_) (fun hc => ?_)
    · have h := h.1 hc
      refine wp_iconst (pc := 44) (v := 0) d_X12_hopeless_44 rfl ?_
      refine wp_sub ?_ h
      exact ⟨rfl, ⟨rfl, ⟨rfl, trivial⟩⟩⟩
    · have h := h.2 hc
      refine wp_iconst (pc := 40) (v := 1) d_X12_hopeless_40 rfl ?_
      refine wp_goto (pc := 41) (tgt := 45) d_X12_hopeless_41 (by decide) ?_
      refine wp_sub ?_ h
      exact ⟨rfl, ⟨rfl, ⟨rfl, trivial⟩⟩⟩
theorem v_X12_hopeless_45 {E : EE} {d : Nat} {Q : Option AV → AH → Prop} {x0 : Nat} {x1 : Int32} {x2 : Int32} {t0 : Int32} {G : AH} (h : wp E d M_X12_hopeless 49 [some (vr x0), some (vi x1), some (vi x2), some (vi t0), some (vi 0)] [] G Q) : wp E d M_X12_hopeless 45 [some (vr x0), some (vi x1), some (vi x2), none, none] [vi t0] G Q := by
  refine wp_istore_n (pc := 45) (lv' := [some (vr _), some (vi _), some (vi _), some (vi _), none]) d_X12_hopeless_45 (by decide) rfl ?_
  refine wp_iconst (pc := 46) (v := 0) d_X12_hopeless_46 rfl ?_
  refine wp_istore (pc := 47) (lv' := [some (vr _), some (vi _), some (vi _), some (vi _), some (vi _)]) d_X12_hopeless_47 (by decide) rfl ?_
  refine wp_sub ?_ h
  exact ⟨rfl, ⟨rfl, ⟨rfl, ⟨rfl, ⟨rfl, trivial⟩⟩⟩⟩⟩
theorem v_X12_hopeless_49 {E : EE} {d : Nat} {Q : Option AV → AH → Prop} {x0 : Nat} {x1 : Int32} {x2 : Int32} {x3 : Int32} {x4 : Int32} {G : AH} (h0 : 0 < d) (h : (¬ x3 = 0 → wp E d M_X12_hopeless 102 [some (vr x0), some (vi x1), some (vi x2), some (vi x3), some (vi x4)] [] G Q) ∧ (x3 = 0 → isO E G x0 12 ∧ (isO E G (gR G x0 25) 14 ∧ (vp_in x1 (gN G (gR G x0 25)) ∧ (((gI G (gR G x0 25) (Int32.toNatClampNeg x1)) ≤ x4 → wp E d M_X12_hopeless 102 [some (vr x0), some (vi x1), some (vi x2), some (vi x3), some (vi x4)] [] G Q) ∧ (¬ ((gI G (gR G x0 25) (Int32.toNatClampNeg x1)) ≤ x4) → isO E G (gR G x0 64) 14 ∧ (vp_in ((20000 * x2) + x4) (gN G (gR G x0 64)) ∧ ((¬ (gI G (gR G x0 64) (Int32.toNatClampNeg ((20000 * x2) + x4))) = 0 → wp E d M_X12_hopeless 94 [some (vr x0), some (vi x1), some (vi x2), some (vi x3), some (vi x4)] [] G Q) ∧ ((gI G (gR G x0 64) (Int32.toNatClampNeg ((20000 * x2) + x4))) = 0 → wpI E (d - 1) M_X12_isAllowed [vr x0, vi x1, vi x4] G (fun r6 G7 => (r6 = 0 → wp E d M_X12_hopeless 94 [some (vr x0), some (vi x1), some (vi x2), some (vi x3), some (vi x4)] [] G7 Q) ∧ (¬ (r6 = 0) → wp E d M_X12_hopeless 95 [some (vr x0), some (vi x1), some (vi x2), some (vi x3), some (vi x4)] [vi 1] G7 Q))))))))))) : wp E d M_X12_hopeless 49 [some (vr x0), some (vi x1), some (vi x2), some (vi x3), some (vi x4)] [] G Q := by
  refine wp_iload_n (pc := 49) d_X12_hopeless_49 rfl ?_
  refine wp_if_ne (pc := 50) (tgt := 102) d_X12_hopeless_50 (by decide) (fun hc => ?_) (fun hc => ?_)
  · have h := h.1 hc
    refine wp_sub ?_ h
    exact ⟨rfl, ⟨rfl, ⟨rfl, ⟨rfl, ⟨rfl, trivial⟩⟩⟩⟩⟩
  · have h := h.2 hc
    refine wp_iload (pc := 53) d_X12_hopeless_53 rfl ?_
    refine wp_aload_n (pc := 55) d_X12_hopeless_55 rfl ?_
    obtain ⟨ho1, h⟩ := h
    refine wp_getR (pc := 56) d_X12_hopeless_56 fl_X12_82 (fun _ _ _ => rfl) ho1 ?_
    refine wp_iload_n (pc := 59) d_X12_hopeless_59 rfl ?_
    obtain ⟨ho2, h⟩ := h
    obtain ⟨hi3, h⟩ := h
    refine wp_iald (pc := 60) d_X12_hopeless_60 ho2 hi3 ?_
    refine wp_icmp_ge (pc := 61) (tgt := 102) d_X12_hopeless_61 (by decide) (fun hc => ?_) (fun hc => ?_)
    · have h := h.1 hc
      refine wp_sub ?_ h
      exact ⟨rfl, ⟨rfl, ⟨rfl, ⟨rfl, ⟨rfl, trivial⟩⟩⟩⟩⟩
    · have h := h.2 hc
      refine wp_aload_n (pc := 64) d_X12_hopeless_64 rfl ?_
      refine wp_getR (pc := 65) d_X12_hopeless_65 fl_X12_151 (fun _ _ _ => rfl) ho1 ?_
      refine wp_sipush (pc := 68) (v := 20000) d_X12_hopeless_68 rfl ?_
      refine wp_iload_n (pc := 71) d_X12_hopeless_71 rfl ?_
      refine wp_imul (pc := 72) d_X12_hopeless_72 ?_
      refine wp_iload (pc := 73) d_X12_hopeless_73 rfl ?_
      refine wp_iadd (pc := 75) d_X12_hopeless_75 ?_
      obtain ⟨ho4, h⟩ := h
      obtain ⟨hi5, h⟩ := h
      refine wp_iald (pc := 76) d_X12_hopeless_76 ho4 hi5 ?_
      refine wp_if_ne (pc := 77) (tgt := 94) d_X12_hopeless_77 (by decide) (fun hc => ?_) (fun hc => ?_)
      · have h := h.1 hc
        refine wp_sub ?_ h
        exact ⟨rfl, ⟨rfl, ⟨rfl, ⟨rfl, ⟨rfl, trivial⟩⟩⟩⟩⟩
      · have h := h.2 hc
        refine wp_aload_n (pc := 80) d_X12_hopeless_80 rfl ?_
        refine wp_iload_n (pc := 81) d_X12_hopeless_81 rfl ?_
        refine wp_iload (pc := 82) d_X12_hopeless_82 rfl ?_
        refine wp_invV (pc := 84) (N := M_X12_isAllowed) (As := [vi _, vi _]) (rest := []) (r := (cn_12, ct_12, 95)) d_X12_hopeless_84 ml_X12_559 mk_X12_isAllowed mv_X12_isAllowed h0 ho1 rfl rfl (Nat.le_of_ble_eq_true rfl) ?_
        refine wpM.mono h (fun rr G7 hr => ?_)
        obtain ⟨r6, rfl, h⟩ := hr
        show wp E d M_X12_hopeless 87 [some (vr _), some (vi _), some (vi _), some (vi _), some (vi _)] [vi _] G7 Q
        refine wp_if_eq (pc := 87) (tgt := 94) d_X12_hopeless_87 (by decide) (fun hc => ?_) (fun hc => ?_)
        · have h := h.1 hc
          refine wp_sub ?_ h
          exact ⟨rfl, ⟨rfl, ⟨rfl, ⟨rfl, ⟨rfl, trivial⟩⟩⟩⟩⟩
        · have h := h.2 hc
          refine wp_iconst (pc := 90) (v := 1) d_X12_hopeless_90 rfl ?_
          refine wp_goto (pc := 91) (tgt := 95) d_X12_hopeless_91 (by decide) ?_
          refine wp_sub ?_ h
          exact ⟨rfl, ⟨rfl, ⟨rfl, ⟨rfl, ⟨rfl, trivial⟩⟩⟩⟩⟩
theorem v_X12_hopeless_94 {E : EE} {d : Nat} {Q : Option AV → AH → Prop} {x0 : Nat} {x1 : Int32} {x2 : Int32} {x3 : Int32} {x4 : Int32} {G : AH} (h : wp E d M_X12_hopeless 95 [some (vr x0), some (vi x1), some (vi x2), some (vi x3), some (vi x4)] [vi 0] G Q) : wp E d M_X12_hopeless 94 [some (vr x0), some (vi x1), some (vi x2), some (vi x3), some (vi x4)] [] G Q := by
  refine wp_iconst (pc := 94) (v := 0) d_X12_hopeless_94 rfl ?_
  refine wp_sub ?_ h
  exact ⟨rfl, ⟨rfl, ⟨rfl, ⟨rfl, ⟨rfl, trivial⟩⟩⟩⟩⟩
theorem v_X12_hopeless_95 {E : EE} {d : Nat} {Q : Option AV → AH → Prop} {x0 : Nat} {x1 : Int32} {x2 : Int32} {x3 : Int32} {x4 : Int32} {t0 : Int32} {G : AH} (h : wp E d M_X12_hopeless 49 [some (vr x0), some (vi x1), some (vi x2), some (vi t0), some (vi (x4 + 1))] [] G Q) : wp E d M_X12_hopeless 95 [some (vr x0), some (vi x1), some (vi x2), some (vi x3), some (vi x4)] [vi t0] G Q := by
  refine wp_istore_n (pc := 95) (lv' := [some (vr _), some (vi _), some (vi _), some (vi _), some (vi _)]) d_X12_hopeless_95 (by decide) rfl ?_
  refine wp_iinc (pc := 96) (v := 1) (lv' := [some (vr _), some (vi _), some (vi _), some (vi _), some (vi _)]) d_X12_hopeless_96 (by decide) rfl rfl rfl ?_
  refine wp_goto (pc := 99) (tgt := 49) d_X12_hopeless_99 (by decide) ?_
  refine wp_sub ?_ h
  exact ⟨rfl, ⟨rfl, ⟨rfl, ⟨rfl, ⟨rfl, trivial⟩⟩⟩⟩⟩
theorem v_X12_hopeless_102 {E : EE} {d : Nat} {Q : Option AV → AH → Prop} {x0 : Nat} {x1 : Int32} {x2 : Int32} {x3 : Int32} {x4 : Int32} {G : AH} (h : (¬ x3 = 0 → wp E d M_X12_hopeless 17 [some (vr x0), some (vi x1), some (vi (x2 + 1)), none, none] [] G Q) ∧ (x3 = 0 → Q (some (vi x2)) G)) : wp E d M_X12_hopeless 102 [some (vr x0), some (vi x1), some (vi x2), some (vi x3), some (vi x4)] [] G Q := by
  refine wp_iload_n (pc := 102) d_X12_hopeless_102 rfl ?_
  refine wp_if_ne (pc := 103) (tgt := 108) d_X12_hopeless_103 (by decide) (fun hc => ?_) (fun hc => ?_)
  · have h := h.1 hc
    refine wp_iinc (pc := 108) (v := 1) (lv' := [some (vr _), some (vi _), some (vi _), some (vi _), some (vi _)]) d_X12_hopeless_108 (by decide) rfl rfl rfl ?_
    refine wp_goto (pc := 111) (tgt := 17) d_X12_hopeless_111 (by decide) ?_
    refine wp_sub ?_ h
    exact ⟨rfl, ⟨rfl, ⟨rfl, trivial⟩⟩⟩
  · have h := h.2 hc
    refine wp_iload_n (pc := 106) d_X12_hopeless_106 rfl ?_
    exact wp_iret (pc := 107) d_X12_hopeless_107 rfl h
theorem d_X12_isLeft_0 : decode prog_14_method_113_code 0 = .ok (.aload_n 0, 1) := by decide +kernel
theorem d_X12_isLeft_1 : decode prog_14_method_113_code 1 = .ok (.iload_n 1, 1) := by decide +kernel
theorem d_X12_isLeft_2 : decode prog_14_method_113_code 2 = .ok (.iload_n 2, 1) := by decide +kernel
theorem d_X12_isLeft_3 : decode prog_14_method_113_code 3 = .ok (.invokevirtual 462, 3) := by decide +kernel
theorem d_X12_isLeft_6 : decode prog_14_method_113_code 6 = .ok (.ifCond .eq 22, 3) := by decide +kernel
theorem d_X12_isLeft_9 : decode prog_14_method_113_code 9 = .ok (.iload_n 3, 1) := by decide +kernel
theorem d_X12_isLeft_10 : decode prog_14_method_113_code 10 = .ok (.ifCond .lt 18, 3) := by decide +kernel
theorem d_X12_isLeft_13 : decode prog_14_method_113_code 13 = .ok (.iload_n 3, 1) := by decide +kernel
theorem d_X12_isLeft_14 : decode prog_14_method_113_code 14 = .ok (.aload_n 0, 1) := by decide +kernel
theorem d_X12_isLeft_15 : decode prog_14_method_113_code 15 = .ok (.getfield 64, 3) := by decide +kernel
theorem d_X12_isLeft_18 : decode prog_14_method_113_code 18 = .ok (.bipush 12, 2) := by decide +kernel
theorem d_X12_isLeft_20 : decode prog_14_method_113_code 20 = .ok (.iload_n 1, 1) := by decide +kernel
theorem d_X12_isLeft_21 : decode prog_14_method_113_code 21 = .ok (.imul, 1) := by decide +kernel
theorem d_X12_isLeft_22 : decode prog_14_method_113_code 22 = .ok (.iload_n 2, 1) := by decide +kernel
theorem d_X12_isLeft_23 : decode prog_14_method_113_code 23 = .ok (.iadd, 1) := by decide +kernel
theorem d_X12_isLeft_24 : decode prog_14_method_113_code 24 = .ok (.iaload, 1) := by decide +kernel
theorem d_X12_isLeft_25 : decode prog_14_method_113_code 25 = .ok (.if_icmp .lt 5, 3) := by decide +kernel
theorem d_X12_isLeft_28 : decode prog_14_method_113_code 28 = .ok (.iconst 0, 1) := by decide +kernel
theorem d_X12_isLeft_29 : decode prog_14_method_113_code 29 = .ok (.ireturn, 1) := by decide +kernel
theorem d_X12_isLeft_30 : decode prog_14_method_113_code 30 = .ok (.aload_n 0, 1) := by decide +kernel
theorem d_X12_isLeft_31 : decode prog_14_method_113_code 31 = .ok (.iload_n 1, 1) := by decide +kernel
theorem d_X12_isLeft_32 : decode prog_14_method_113_code 32 = .ok (.invokevirtual 589, 3) := by decide +kernel
theorem d_X12_isLeft_35 : decode prog_14_method_113_code 35 = .ok (.aload_n 0, 1) := by decide +kernel
theorem d_X12_isLeft_36 : decode prog_14_method_113_code 36 = .ok (.getfield 162, 3) := by decide +kernel
theorem d_X12_isLeft_39 : decode prog_14_method_113_code 39 = .ok (.bipush 20, 2) := by decide +kernel
theorem d_X12_isLeft_41 : decode prog_14_method_113_code 41 = .ok (.iload_n 2, 1) := by decide +kernel
theorem d_X12_isLeft_42 : decode prog_14_method_113_code 42 = .ok (.imul, 1) := by decide +kernel
theorem d_X12_isLeft_43 : decode prog_14_method_113_code 43 = .ok (.iload_n 3, 1) := by decide +kernel
theorem d_X12_isLeft_44 : decode prog_14_method_113_code 44 = .ok (.iadd, 1) := by decide +kernel
theorem d_X12_isLeft_45 : decode prog_14_method_113_code 45 = .ok (.baload, 1) := by decide +kernel
theorem d_X12_isLeft_46 : decode prog_14_method_113_code 46 = .ok (.ireturn, 1) := by decide +kernel
theorem v_X12_isLeft_0 {E : EE} {d : Nat} {Q : Option AV → AH → Prop} {x0 : Nat} {x1 : Int32} {x2 : Int32} {x3 : Int32} {G : AH} (h0 : 0 < d) (h : isO E G x0 12 ∧ (wpI E (d - 1) M_X12_isVar [vr x0, vi x1, vi x2] G (fun r1 G2 => (r1 = 0 → Q (some (vi 0)) G2) ∧ (¬ (r1 = 0) → (x3 < 0 → Q (some (vi 0)) G2) ∧ (¬ (x3 < 0) → isO E G2 x0 12 ∧ (isO E G2 (gR G2 x0 19) 14 ∧ (vp_in ((12 * x1) + x2) (gN G2 (gR G2 x0 19)) ∧ ((x3 < (gI G2 (gR G2 x0 19) (Int32.toNatClampNeg ((12 * x1) + x2))) → wpV E (d - 1) M_X12_findLeft [vr x0, vi x1] G2 (fun G6 => isO E G6 x0 12 ∧ (isO E G6 (gR G6 x0 67) 16 ∧ (vp_in ((20 * x2) + x3) (gN G6 (gR G6 x0 67)) ∧ (okI .boolean (gI G6 (gR G6 x0 67) (Int32.toNatClampNeg ((20 * x2) + x3))) ∧ Q (some (vi (gI G6 (gR G6 x0 67) (Int32.toNatClampNeg ((20 * x2) + x3))))) G6))))) ∧ (¬ (x3 < (gI G2 (gR G2 x0 19) (Int32.toNatClampNeg ((12 * x1) + x2)))) → Q (some (vi 0)) G2))))))))) : wp E d M_X12_isLeft 0 [some (vr x0), some (vi x1), some (vi x2), some (vi x3)] [] G Q := by
  refine wp_aload_n (pc := 0) d_X12_isLeft_0 rfl ?_
  refine wp_iload_n (pc := 1) d_X12_isLeft_1 rfl ?_
  refine wp_iload_n (pc := 2) d_X12_isLeft_2 rfl ?_
  obtain ⟨ho10, h⟩ := h
  refine wp_invV (pc := 3) (N := M_X12_isVar) (As := [vi _, vi _]) (rest := []) (r := (cn_12, ct_12, 95)) d_X12_isLeft_3 ml_X12_462 mk_X12_isVar mv_X12_isVar h0 ho10 rfl rfl (Nat.le_of_ble_eq_true rfl) ?_
  refine wpM.mono h (fun rr G2 hr => ?_)
  obtain ⟨r1, rfl, h⟩ := hr
  show wp E d M_X12_isLeft 6 [some (vr _), some (vi _), some (vi _), some (vi _)] [vi _] G2 Q
  refine wp_if_eq (pc := 6) (tgt := 28) d_X12_isLeft_6 (by decide) (fun hc => ?_) (fun hc => ?_)
  · have h := h.1 hc
    refine wp_iconst (pc := 28) (v := 0) d_X12_isLeft_28 rfl ?_
    exact wp_zret (pc := 29) d_X12_isLeft_29 rfl rfl h
  · have h := h.2 hc
    refine wp_iload_n (pc := 9) d_X12_isLeft_9 rfl ?_
    refine wp_if_lt (pc := 10) (tgt := 28) d_X12_isLeft_10 (by decide) (fun hc => ?_) (fun hc => ?_)
    · have h := h.1 hc
      refine wp_iconst (pc := 28) (v := 0) d_X12_isLeft_28 rfl ?_
      exact wp_zret (pc := 29) d_X12_isLeft_29 rfl rfl h
    · have h := h.2 hc
      refine wp_iload_n (pc := 13) d_X12_isLeft_13 rfl ?_
      refine wp_aload_n (pc := 14) d_X12_isLeft_14 rfl ?_
      obtain ⟨ho3, h⟩ := h
      refine wp_getR (pc := 15) d_X12_isLeft_15 fl_X12_64 (fun _ _ _ => rfl) ho3 ?_
      refine wp_bipush (pc := 18) (v := 12) d_X12_isLeft_18 rfl ?_
      refine wp_iload_n (pc := 20) d_X12_isLeft_20 rfl ?_
      refine wp_imul (pc := 21) d_X12_isLeft_21 ?_
      refine wp_iload_n (pc := 22) d_X12_isLeft_22 rfl ?_
      refine wp_iadd (pc := 23) d_X12_isLeft_23 ?_
      obtain ⟨ho4, h⟩ := h
      obtain ⟨hi5, h⟩ := h
      refine wp_iald (pc := 24) d_X12_isLeft_24 ho4 hi5 ?_
      refine wp_icmp_lt (pc := 25) (tgt := 30) d_X12_isLeft_25 (by decide) (fun hc => ?_) (fun hc => ?_)
      · have h := h.1 hc
        refine wp_aload_n (pc := 30) d_X12_isLeft_30 rfl ?_
        refine wp_iload_n (pc := 31) d_X12_isLeft_31 rfl ?_
        refine wp_invV (pc := 32) (N := M_X12_findLeft) (As := [vi _]) (rest := []) (r := (cn_12, ct_12, 95)) d_X12_isLeft_32 ml_X12_589 mk_X12_findLeft mv_X12_findLeft h0 ho3 rfl rfl (Nat.le_of_ble_eq_true rfl) ?_
        refine wpM.mono h (fun rr G6 hr => ?_)
        obtain ⟨rfl, h⟩ := hr
        show wp E d M_X12_isLeft 35 [some (vr _), some (vi _), some (vi _), some (vi _)] [] G6 Q
        refine wp_aload_n (pc := 35) d_X12_isLeft_35 rfl ?_
        obtain ⟨ho7, h⟩ := h
        refine wp_getR (pc := 36) d_X12_isLeft_36 fl_X12_162 (fun _ _ _ => rfl) ho7 ?_
        refine wp_bipush (pc := 39) (v := 20) d_X12_isLeft_39 rfl ?_
        refine wp_iload_n (pc := 41) d_X12_isLeft_41 rfl ?_
        refine wp_imul (pc := 42) d_X12_isLeft_42 ?_
        refine wp_iload_n (pc := 43) d_X12_isLeft_43 rfl ?_
        refine wp_iadd (pc := 44) d_X12_isLeft_44 ?_
        obtain ⟨ho8, h⟩ := h
        obtain ⟨hi9, h⟩ := h
        refine wp_zald (pc := 45) d_X12_isLeft_45 ho8 hi9 ?_
        exact wp_zret (pc := 46) d_X12_isLeft_46 rfl h.1.1 h.2
      · have h := h.2 hc
        refine wp_iconst (pc := 28) (v := 0) d_X12_isLeft_28 rfl ?_
        exact wp_zret (pc := 29) d_X12_isLeft_29 rfl rfl h
theorem d_X12_findLeft_0 : decode prog_14_method_111_code 0 = .ok (.aload_n 0, 1) := by decide +kernel
theorem d_X12_findLeft_1 : decode prog_14_method_111_code 1 = .ok (.iload_n 1, 1) := by decide +kernel
theorem d_X12_findLeft_2 : decode prog_14_method_111_code 2 = .ok (.invokevirtual 571, 3) := by decide +kernel
theorem d_X12_findLeft_5 : decode prog_14_method_111_code 5 = .ok (.iconst 0, 1) := by decide +kernel
theorem d_X12_findLeft_6 : decode prog_14_method_111_code 6 = .ok (.istore_n 2, 1) := by decide +kernel
theorem d_X12_findLeft_7 : decode prog_14_method_111_code 7 = .ok (.iload_n 2, 1) := by decide +kernel
theorem d_X12_findLeft_8 : decode prog_14_method_111_code 8 = .ok (.aload_n 0, 1) := by decide +kernel
theorem d_X12_findLeft_9 : decode prog_14_method_111_code 9 = .ok (.iload_n 1, 1) := by decide +kernel
theorem d_X12_findLeft_10 : decode prog_14_method_111_code 10 = .ok (.invokevirtual 456, 3) := by decide +kernel
theorem d_X12_findLeft_13 : decode prog_14_method_111_code 13 = .ok (.if_icmp .ge 77, 3) := by decide +kernel
theorem d_X12_findLeft_16 : decode prog_14_method_111_code 16 = .ok (.iconst 0, 1) := by decide +kernel
theorem d_X12_findLeft_17 : decode prog_14_method_111_code 17 = .ok (.istore_n 3, 1) := by decide +kernel
theorem d_X12_findLeft_18 : decode prog_14_method_111_code 18 = .ok (.iload_n 3, 1) := by decide +kernel
theorem d_X12_findLeft_19 : decode prog_14_method_111_code 19 = .ok (.aload_n 0, 1) := by decide +kernel
theorem d_X12_findLeft_20 : decode prog_14_method_111_code 20 = .ok (.getfield 64, 3) := by decide +kernel
theorem d_X12_findLeft_23 : decode prog_14_method_111_code 23 = .ok (.bipush 12, 2) := by decide +kernel
theorem d_X12_findLeft_25 : decode prog_14_method_111_code 25 = .ok (.iload_n 1, 1) := by decide +kernel
theorem d_X12_findLeft_26 : decode prog_14_method_111_code 26 = .ok (.imul, 1) := by decide +kernel
theorem d_X12_findLeft_27 : decode prog_14_method_111_code 27 = .ok (.iload_n 2, 1) := by decide +kernel
theorem d_X12_findLeft_28 : decode prog_14_method_111_code 28 = .ok (.iadd, 1) := by decide +kernel
theorem d_X12_findLeft_29 : decode prog_14_method_111_code 29 = .ok (.iaload, 1) := by decide +kernel
theorem d_X12_findLeft_30 : decode prog_14_method_111_code 30 = .ok (.if_icmp .ge 54, 3) := by decide +kernel
theorem d_X12_findLeft_33 : decode prog_14_method_111_code 33 = .ok (.aload_n 0, 1) := by decide +kernel
theorem d_X12_findLeft_34 : decode prog_14_method_111_code 34 = .ok (.getfield 162, 3) := by decide +kernel
theorem d_X12_findLeft_37 : decode prog_14_method_111_code 37 = .ok (.bipush 20, 2) := by decide +kernel
theorem d_X12_findLeft_39 : decode prog_14_method_111_code 39 = .ok (.iload_n 2, 1) := by decide +kernel
theorem d_X12_findLeft_40 : decode prog_14_method_111_code 40 = .ok (.imul, 1) := by decide +kernel
theorem d_X12_findLeft_41 : decode prog_14_method_111_code 41 = .ok (.iload_n 3, 1) := by decide +kernel
theorem d_X12_findLeft_42 : decode prog_14_method_111_code 42 = .ok (.iadd, 1) := by decide +kernel
theorem d_X12_findLeft_43 : decode prog_14_method_111_code 43 = .ok (.aload_n 0, 1) := by decide +kernel
theorem d_X12_findLeft_44 : decode prog_14_method_111_code 44 = .ok (.getfield 79, 3) := by decide +kernel
theorem d_X12_findLeft_47 : decode prog_14_method_111_code 47 = .ok (.bipush 12, 2) := by decide +kernel
theorem d_X12_findLeft_49 : decode prog_14_method_111_code 49 = .ok (.iload_n 1, 1) := by decide +kernel
theorem d_X12_findLeft_50 : decode prog_14_method_111_code 50 = .ok (.imul, 1) := by decide +kernel
theorem d_X12_findLeft_51 : decode prog_14_method_111_code 51 = .ok (.iload_n 2, 1) := by decide +kernel
theorem d_X12_findLeft_52 : decode prog_14_method_111_code 52 = .ok (.iadd, 1) := by decide +kernel
theorem d_X12_findLeft_53 : decode prog_14_method_111_code 53 = .ok (.baload, 1) := by decide +kernel
theorem d_X12_findLeft_54 : decode prog_14_method_111_code 54 = .ok (.ifCond .eq 18, 3) := by decide +kernel
theorem d_X12_findLeft_57 : decode prog_14_method_111_code 57 = .ok (.iload_n 3, 1) := by decide +kernel
theorem d_X12_findLeft_58 : decode prog_14_method_111_code 58 = .ok (.aload_n 0, 1) := by decide +kernel
theorem d_X12_findLeft_59 : decode prog_14_method_111_code 59 = .ok (.getfield 73, 3) := by decide +kernel
theorem d_X12_findLeft_62 : decode prog_14_method_111_code 62 = .ok (.bipush 12, 2) := by decide +kernel
theorem d_X12_findLeft_64 : decode prog_14_method_111_code 64 = .ok (.iload_n 1, 1) := by decide +kernel
theorem d_X12_findLeft_65 : decode prog_14_method_111_code 65 = .ok (.imul, 1) := by decide +kernel
theorem d_X12_findLeft_66 : decode prog_14_method_111_code 66 = .ok (.iload_n 2, 1) := by decide +kernel
theorem d_X12_findLeft_67 : decode prog_14_method_111_code 67 = .ok (.iadd, 1) := by decide +kernel
theorem d_X12_findLeft_68 : decode prog_14_method_111_code 68 = .ok (.iaload, 1) := by decide +kernel
theorem d_X12_findLeft_69 : decode prog_14_method_111_code 69 = .ok (.if_icmp .ne 7, 3) := by decide +kernel
theorem d_X12_findLeft_72 : decode prog_14_method_111_code 72 = .ok (.iconst 1, 1) := by decide +kernel
theorem d_X12_findLeft_73 : decode prog_14_method_111_code 73 = .ok (.goto 4, 3) := by decide +kernel
theorem d_X12_findLeft_76 : decode prog_14_method_111_code 76 = .ok (.iconst 0, 1) := by decide +kernel
theorem d_X12_findLeft_77 : decode prog_14_method_111_code 77 = .ok (.bastore, 1) := by decide +kernel
theorem d_X12_findLeft_78 : decode prog_14_method_111_code 78 = .ok (.iinc 3 1, 3) := by decide +kernel
theorem d_X12_findLeft_81 : decode prog_14_method_111_code 81 = .ok (.goto (-63), 3) := by decide +kernel
theorem d_X12_findLeft_84 : decode prog_14_method_111_code 84 = .ok (.iinc 2 1, 3) := by decide +kernel
theorem d_X12_findLeft_87 : decode prog_14_method_111_code 87 = .ok (.goto (-80), 3) := by decide +kernel
theorem d_X12_findLeft_90 : decode prog_14_method_111_code 90 = .ok (.iconst 1, 1) := by decide +kernel
theorem d_X12_findLeft_91 : decode prog_14_method_111_code 91 = .ok (.istore_n 2, 1) := by decide +kernel
theorem d_X12_findLeft_92 : decode prog_14_method_111_code 92 = .ok (.iload_n 2, 1) := by decide +kernel
theorem d_X12_findLeft_93 : decode prog_14_method_111_code 93 = .ok (.ifCond .eq 290, 3) := by decide +kernel
theorem d_X12_findLeft_96 : decode prog_14_method_111_code 96 = .ok (.iconst 0, 1) := by decide +kernel
theorem d_X12_findLeft_97 : decode prog_14_method_111_code 97 = .ok (.istore_n 2, 1) := by decide +kernel
theorem d_X12_findLeft_98 : decode prog_14_method_111_code 98 = .ok (.iconst 0, 1) := by decide +kernel
theorem d_X12_findLeft_99 : decode prog_14_method_111_code 99 = .ok (.istore_n 3, 1) := by decide +kernel
theorem d_X12_findLeft_100 : decode prog_14_method_111_code 100 = .ok (.iload_n 3, 1) := by decide +kernel
theorem d_X12_findLeft_101 : decode prog_14_method_111_code 101 = .ok (.aload_n 0, 1) := by decide +kernel
theorem d_X12_findLeft_102 : decode prog_14_method_111_code 102 = .ok (.iload_n 1, 1) := by decide +kernel
theorem d_X12_findLeft_103 : decode prog_14_method_111_code 103 = .ok (.invokevirtual 459, 3) := by decide +kernel
theorem d_X12_findLeft_106 : decode prog_14_method_111_code 106 = .ok (.if_icmp .ge 274, 3) := by decide +kernel
theorem d_X12_findLeft_109 : decode prog_14_method_111_code 109 = .ok (.aload_n 0, 1) := by decide +kernel
theorem d_X12_findLeft_110 : decode prog_14_method_111_code 110 = .ok (.getfield 88, 3) := by decide +kernel
theorem d_X12_findLeft_113 : decode prog_14_method_111_code 113 = .ok (.bipush 24, 2) := by decide +kernel
theorem d_X12_findLeft_115 : decode prog_14_method_111_code 115 = .ok (.iload_n 1, 1) := by decide +kernel
theorem d_X12_findLeft_116 : decode prog_14_method_111_code 116 = .ok (.imul, 1) := by decide +kernel
theorem d_X12_findLeft_117 : decode prog_14_method_111_code 117 = .ok (.iload_n 3, 1) := by decide +kernel
theorem d_X12_findLeft_118 : decode prog_14_method_111_code 118 = .ok (.iadd, 1) := by decide +kernel
theorem d_X12_findLeft_119 : decode prog_14_method_111_code 119 = .ok (.iaload, 1) := by decide +kernel
theorem d_X12_findLeft_120 : decode prog_14_method_111_code 120 = .ok (.ifCond .eq 6, 3) := by decide +kernel
theorem d_X12_findLeft_123 : decode prog_14_method_111_code 123 = .ok (.goto 251, 3) := by decide +kernel
theorem d_X12_findLeft_126 : decode prog_14_method_111_code 126 = .ok (.iconst 0, 1) := by decide +kernel
theorem d_X12_findLeft_127 : decode prog_14_method_111_code 127 = .ok (.istore 4, 2) := by decide +kernel
theorem d_X12_findLeft_129 : decode prog_14_method_111_code 129 = .ok (.iload 4, 2) := by decide +kernel
theorem d_X12_findLeft_131 : decode prog_14_method_111_code 131 = .ok (.sipush 240, 3) := by decide +kernel
theorem d_X12_findLeft_134 : decode prog_14_method_111_code 134 = .ok (.if_icmp .ge 17, 3) := by decide +kernel
theorem d_X12_findLeft_137 : decode prog_14_method_111_code 137 = .ok (.aload_n 0, 1) := by decide +kernel
theorem d_X12_findLeft_138 : decode prog_14_method_111_code 138 = .ok (.getfield 165, 3) := by decide +kernel
theorem d_X12_findLeft_141 : decode prog_14_method_111_code 141 = .ok (.iload 4, 2) := by decide +kernel
theorem d_X12_findLeft_143 : decode prog_14_method_111_code 143 = .ok (.iconst 0, 1) := by decide +kernel
theorem d_X12_findLeft_144 : decode prog_14_method_111_code 144 = .ok (.bastore, 1) := by decide +kernel
theorem d_X12_findLeft_145 : decode prog_14_method_111_code 145 = .ok (.iinc 4 1, 3) := by decide +kernel
theorem d_X12_findLeft_148 : decode prog_14_method_111_code 148 = .ok (.goto (-19), 3) := by decide +kernel
theorem d_X12_findLeft_151 : decode prog_14_method_111_code 151 = .ok (.iconst 0, 1) := by decide +kernel
theorem d_X12_findLeft_152 : decode prog_14_method_111_code 152 = .ok (.istore 4, 2) := by decide +kernel
theorem d_X12_findLeft_154 : decode prog_14_method_111_code 154 = .ok (.iload 4, 2) := by decide +kernel
theorem d_X12_findLeft_156 : decode prog_14_method_111_code 156 = .ok (.aload_n 0, 1) := by decide +kernel
theorem d_X12_findLeft_157 : decode prog_14_method_111_code 157 = .ok (.getfield 82, 3) := by decide +kernel
theorem d_X12_findLeft_160 : decode prog_14_method_111_code 160 = .ok (.iload_n 1, 1) := by decide +kernel
theorem d_X12_findLeft_161 : decode prog_14_method_111_code 161 = .ok (.iaload, 1) := by decide +kernel
theorem d_X12_findLeft_162 : decode prog_14_method_111_code 162 = .ok (.if_icmp .ge 75, 3) := by decide +kernel
theorem d_X12_findLeft_165 : decode prog_14_method_111_code 165 = .ok (.aload_n 0, 1) := by decide +kernel
theorem d_X12_findLeft_166 : decode prog_14_method_111_code 166 = .ok (.getfield 151, 3) := by decide +kernel
theorem d_X12_findLeft_169 : decode prog_14_method_111_code 169 = .ok (.sipush 20000, 3) := by decide +kernel
theorem d_X12_findLeft_172 : decode prog_14_method_111_code 172 = .ok (.iload_n 3, 1) := by decide +kernel
theorem d_X12_findLeft_173 : decode prog_14_method_111_code 173 = .ok (.imul, 1) := by decide +kernel
theorem d_X12_findLeft_174 : decode prog_14_method_111_code 174 = .ok (.iload 4, 2) := by decide +kernel
theorem d_X12_findLeft_176 : decode prog_14_method_111_code 176 = .ok (.iadd, 1) := by decide +kernel
theorem d_X12_findLeft_177 : decode prog_14_method_111_code 177 = .ok (.iaload, 1) := by decide +kernel
theorem d_X12_findLeft_178 : decode prog_14_method_111_code 178 = .ok (.ifCond .ne 53, 3) := by decide +kernel
theorem d_X12_findLeft_181 : decode prog_14_method_111_code 181 = .ok (.aload_n 0, 1) := by decide +kernel
theorem d_X12_findLeft_182 : decode prog_14_method_111_code 182 = .ok (.iload_n 1, 1) := by decide +kernel
theorem d_X12_findLeft_183 : decode prog_14_method_111_code 183 = .ok (.iload 4, 2) := by decide +kernel
theorem d_X12_findLeft_185 : decode prog_14_method_111_code 185 = .ok (.invokevirtual 586, 3) := by decide +kernel
theorem d_X12_findLeft_188 : decode prog_14_method_111_code 188 = .ok (.ifCond .eq 43, 3) := by decide +kernel
theorem d_X12_findLeft_191 : decode prog_14_method_111_code 191 = .ok (.iconst 0, 1) := by decide +kernel
theorem d_X12_findLeft_192 : decode prog_14_method_111_code 192 = .ok (.istore 5, 2) := by decide +kernel
theorem d_X12_findLeft_194 : decode prog_14_method_111_code 194 = .ok (.iload 5, 2) := by decide +kernel
theorem d_X12_findLeft_196 : decode prog_14_method_111_code 196 = .ok (.aload_n 0, 1) := by decide +kernel
theorem d_X12_findLeft_197 : decode prog_14_method_111_code 197 = .ok (.iload_n 1, 1) := by decide +kernel
theorem d_X12_findLeft_198 : decode prog_14_method_111_code 198 = .ok (.invokevirtual 456, 3) := by decide +kernel
theorem d_X12_findLeft_201 : decode prog_14_method_111_code 201 = .ok (.if_icmp .ge 30, 3) := by decide +kernel
theorem d_X12_findLeft_204 : decode prog_14_method_111_code 204 = .ok (.aload_n 0, 1) := by decide +kernel
theorem d_X12_findLeft_205 : decode prog_14_method_111_code 205 = .ok (.getfield 165, 3) := by decide +kernel
theorem d_X12_findLeft_208 : decode prog_14_method_111_code 208 = .ok (.bipush 20, 2) := by decide +kernel
theorem d_X12_findLeft_210 : decode prog_14_method_111_code 210 = .ok (.iload 5, 2) := by decide +kernel
theorem d_X12_findLeft_212 : decode prog_14_method_111_code 212 = .ok (.imul, 1) := by decide +kernel
theorem d_X12_findLeft_213 : decode prog_14_method_111_code 213 = .ok (.aload_n 0, 1) := by decide +kernel
theorem d_X12_findLeft_214 : decode prog_14_method_111_code 214 = .ok (.iload_n 1, 1) := by decide +kernel
theorem d_X12_findLeft_215 : decode prog_14_method_111_code 215 = .ok (.iload 4, 2) := by decide +kernel
theorem d_X12_findLeft_217 : decode prog_14_method_111_code 217 = .ok (.iload 5, 2) := by decide +kernel
theorem d_X12_findLeft_219 : decode prog_14_method_111_code 219 = .ok (.invokevirtual 537, 3) := by decide +kernel
theorem d_X12_findLeft_222 : decode prog_14_method_111_code 222 = .ok (.iadd, 1) := by decide +kernel
theorem d_X12_findLeft_223 : decode prog_14_method_111_code 223 = .ok (.iconst 1, 1) := by decide +kernel
theorem d_X12_findLeft_224 : decode prog_14_method_111_code 224 = .ok (.bastore, 1) := by decide +kernel
theorem d_X12_findLeft_225 : decode prog_14_method_111_code 225 = .ok (.iinc 5 1, 3) := by decide +kernel
theorem d_X12_findLeft_228 : decode prog_14_method_111_code 228 = .ok (.goto (-34), 3) := by decide +kernel
theorem d_X12_findLeft_231 : decode prog_14_method_111_code 231 = .ok (.iinc 4 1, 3) := by decide +kernel
theorem d_X12_findLeft_234 : decode prog_14_method_111_code 234 = .ok (.goto (-80), 3) := by decide +kernel
theorem d_X12_findLeft_237 : decode prog_14_method_111_code 237 = .ok (.iconst 0, 1) := by decide +kernel
theorem d_X12_findLeft_238 : decode prog_14_method_111_code 238 = .ok (.istore 4, 2) := by decide +kernel
theorem d_X12_findLeft_240 : decode prog_14_method_111_code 240 = .ok (.iload 4, 2) := by decide +kernel
theorem d_X12_findLeft_242 : decode prog_14_method_111_code 242 = .ok (.aload_n 0, 1) := by decide +kernel
theorem d_X12_findLeft_243 : decode prog_14_method_111_code 243 = .ok (.iload_n 1, 1) := by decide +kernel
theorem d_X12_findLeft_244 : decode prog_14_method_111_code 244 = .ok (.invokevirtual 456, 3) := by decide +kernel
theorem d_X12_findLeft_247 : decode prog_14_method_111_code 247 = .ok (.if_icmp .ge 127, 3) := by decide +kernel
theorem d_X12_findLeft_250 : decode prog_14_method_111_code 250 = .ok (.iconst 0, 1) := by decide +kernel
theorem d_X12_findLeft_251 : decode prog_14_method_111_code 251 = .ok (.istore 5, 2) := by decide +kernel
theorem d_X12_findLeft_253 : decode prog_14_method_111_code 253 = .ok (.iload 5, 2) := by decide +kernel
theorem d_X12_findLeft_255 : decode prog_14_method_111_code 255 = .ok (.aload_n 0, 1) := by decide +kernel
theorem d_X12_findLeft_256 : decode prog_14_method_111_code 256 = .ok (.getfield 64, 3) := by decide +kernel
theorem d_X12_findLeft_259 : decode prog_14_method_111_code 259 = .ok (.bipush 12, 2) := by decide +kernel
theorem d_X12_findLeft_261 : decode prog_14_method_111_code 261 = .ok (.iload_n 1, 1) := by decide +kernel
theorem d_X12_findLeft_262 : decode prog_14_method_111_code 262 = .ok (.imul, 1) := by decide +kernel
theorem d_X12_findLeft_263 : decode prog_14_method_111_code 263 = .ok (.iload 4, 2) := by decide +kernel
theorem d_X12_findLeft_265 : decode prog_14_method_111_code 265 = .ok (.iadd, 1) := by decide +kernel
theorem d_X12_findLeft_266 : decode prog_14_method_111_code 266 = .ok (.iaload, 1) := by decide +kernel
theorem d_X12_findLeft_267 : decode prog_14_method_111_code 267 = .ok (.if_icmp .ge 101, 3) := by decide +kernel
theorem d_X12_findLeft_270 : decode prog_14_method_111_code 270 = .ok (.iload_n 2, 1) := by decide +kernel
theorem d_X12_findLeft_271 : decode prog_14_method_111_code 271 = .ok (.ifCond .ne 35, 3) := by decide +kernel
theorem d_X12_findLeft_274 : decode prog_14_method_111_code 274 = .ok (.aload_n 0, 1) := by decide +kernel
theorem d_X12_findLeft_275 : decode prog_14_method_111_code 275 = .ok (.getfield 162, 3) := by decide +kernel
theorem d_X12_findLeft_278 : decode prog_14_method_111_code 278 = .ok (.bipush 20, 2) := by decide +kernel
theorem d_X12_findLeft_280 : decode prog_14_method_111_code 280 = .ok (.iload 4, 2) := by decide +kernel
theorem d_X12_findLeft_282 : decode prog_14_method_111_code 282 = .ok (.imul, 1) := by decide +kernel
theorem d_X12_findLeft_283 : decode prog_14_method_111_code 283 = .ok (.iload 5, 2) := by decide +kernel
theorem d_X12_findLeft_285 : decode prog_14_method_111_code 285 = .ok (.iadd, 1) := by decide +kernel
theorem d_X12_findLeft_286 : decode prog_14_method_111_code 286 = .ok (.baload, 1) := by decide +kernel
theorem d_X12_findLeft_287 : decode prog_14_method_111_code 287 = .ok (.ifCond .eq 23, 3) := by decide +kernel
theorem d_X12_findLeft_290 : decode prog_14_method_111_code 290 = .ok (.aload_n 0, 1) := by decide +kernel
theorem d_X12_findLeft_291 : decode prog_14_method_111_code 291 = .ok (.getfield 165, 3) := by decide +kernel
theorem d_X12_findLeft_294 : decode prog_14_method_111_code 294 = .ok (.bipush 20, 2) := by decide +kernel
theorem d_X12_findLeft_296 : decode prog_14_method_111_code 296 = .ok (.iload 4, 2) := by decide +kernel
theorem d_X12_findLeft_298 : decode prog_14_method_111_code 298 = .ok (.imul, 1) := by decide +kernel
theorem d_X12_findLeft_299 : decode prog_14_method_111_code 299 = .ok (.iload 5, 2) := by decide +kernel
theorem d_X12_findLeft_301 : decode prog_14_method_111_code 301 = .ok (.iadd, 1) := by decide +kernel
theorem d_X12_findLeft_302 : decode prog_14_method_111_code 302 = .ok (.baload, 1) := by decide +kernel
theorem d_X12_findLeft_303 : decode prog_14_method_111_code 303 = .ok (.ifCond .ne 7, 3) := by decide +kernel
theorem d_X12_findLeft_306 : decode prog_14_method_111_code 306 = .ok (.iconst 1, 1) := by decide +kernel
theorem d_X12_findLeft_307 : decode prog_14_method_111_code 307 = .ok (.goto 4, 3) := by decide +kernel
theorem d_X12_findLeft_310 : decode prog_14_method_111_code 310 = .ok (.iconst 0, 1) := by decide +kernel
theorem d_X12_findLeft_311 : decode prog_14_method_111_code 311 = .ok (.istore_n 2, 1) := by decide +kernel
theorem d_X12_findLeft_312 : decode prog_14_method_111_code 312 = .ok (.aload_n 0, 1) := by decide +kernel
theorem d_X12_findLeft_313 : decode prog_14_method_111_code 313 = .ok (.getfield 162, 3) := by decide +kernel
theorem d_X12_findLeft_316 : decode prog_14_method_111_code 316 = .ok (.bipush 20, 2) := by decide +kernel
theorem d_X12_findLeft_318 : decode prog_14_method_111_code 318 = .ok (.iload 4, 2) := by decide +kernel
theorem d_X12_findLeft_320 : decode prog_14_method_111_code 320 = .ok (.imul, 1) := by decide +kernel
theorem d_X12_findLeft_321 : decode prog_14_method_111_code 321 = .ok (.iload 5, 2) := by decide +kernel
theorem d_X12_findLeft_323 : decode prog_14_method_111_code 323 = .ok (.iadd, 1) := by decide +kernel
theorem d_X12_findLeft_324 : decode prog_14_method_111_code 324 = .ok (.aload_n 0, 1) := by decide +kernel
theorem d_X12_findLeft_325 : decode prog_14_method_111_code 325 = .ok (.getfield 162, 3) := by decide +kernel
theorem d_X12_findLeft_328 : decode prog_14_method_111_code 328 = .ok (.bipush 20, 2) := by decide +kernel
theorem d_X12_findLeft_330 : decode prog_14_method_111_code 330 = .ok (.iload 4, 2) := by decide +kernel
theorem d_X12_findLeft_332 : decode prog_14_method_111_code 332 = .ok (.imul, 1) := by decide +kernel
theorem d_X12_findLeft_333 : decode prog_14_method_111_code 333 = .ok (.iload 5, 2) := by decide +kernel
theorem d_X12_findLeft_335 : decode prog_14_method_111_code 335 = .ok (.iadd, 1) := by decide +kernel
theorem d_X12_findLeft_336 : decode prog_14_method_111_code 336 = .ok (.baload, 1) := by decide +kernel
theorem d_X12_findLeft_337 : decode prog_14_method_111_code 337 = .ok (.ifCond .eq 23, 3) := by decide +kernel
theorem d_X12_findLeft_340 : decode prog_14_method_111_code 340 = .ok (.aload_n 0, 1) := by decide +kernel
theorem d_X12_findLeft_341 : decode prog_14_method_111_code 341 = .ok (.getfield 165, 3) := by decide +kernel
theorem d_X12_findLeft_344 : decode prog_14_method_111_code 344 = .ok (.bipush 20, 2) := by decide +kernel
theorem d_X12_findLeft_346 : decode prog_14_method_111_code 346 = .ok (.iload 4, 2) := by decide +kernel
theorem d_X12_findLeft_348 : decode prog_14_method_111_code 348 = .ok (.imul, 1) := by decide +kernel
theorem d_X12_findLeft_349 : decode prog_14_method_111_code 349 = .ok (.iload 5, 2) := by decide +kernel
theorem d_X12_findLeft_351 : decode prog_14_method_111_code 351 = .ok (.iadd, 1) := by decide +kernel
theorem d_X12_findLeft_352 : decode prog_14_method_111_code 352 = .ok (.baload, 1) := by decide +kernel
theorem d_X12_findLeft_353 : decode prog_14_method_111_code 353 = .ok (.ifCond .eq 7, 3) := by decide +kernel
theorem d_X12_findLeft_356 : decode prog_14_method_111_code 356 = .ok (.iconst 1, 1) := by decide +kernel
theorem d_X12_findLeft_357 : decode prog_14_method_111_code 357 = .ok (.goto 4, 3) := by decide +kernel
theorem d_X12_findLeft_360 : decode prog_14_method_111_code 360 = .ok (.iconst 0, 1) := by decide +kernel
theorem d_X12_findLeft_361 : decode prog_14_method_111_code 361 = .ok (.bastore, 1) := by decide +kernel
theorem d_X12_findLeft_362 : decode prog_14_method_111_code 362 = .ok (.iinc 5 1, 3) := by decide +kernel
theorem d_X12_findLeft_365 : decode prog_14_method_111_code 365 = .ok (.goto (-112), 3) := by decide +kernel
theorem d_X12_findLeft_368 : decode prog_14_method_111_code 368 = .ok (.iinc 4 1, 3) := by decide +kernel
theorem d_X12_findLeft_371 : decode prog_14_method_111_code 371 = .ok (.goto (-131), 3) := by decide +kernel
theorem d_X12_findLeft_374 : decode prog_14_method_111_code 374 = .ok (.iinc 3 1, 3) := by decide +kernel
theorem d_X12_findLeft_377 : decode prog_14_method_111_code 377 = .ok (.goto (-277), 3) := by decide +kernel
theorem d_X12_findLeft_380 : decode prog_14_method_111_code 380 = .ok (.goto (-288), 3) := by decide +kernel
theorem d_X12_findLeft_383 : decode prog_14_method_111_code 383 = .ok (.return_, 1) := by decide +kernel
theorem v_X12_findLeft_0 {E : EE} {d : Nat} {Q : Option AV → AH → Prop} {x0 : Nat} {x1 : Int32} {G : AH} (h0 : 0 < d) (h : isO E G x0 12 ∧ (wpV E (d - 1) M_X12_know [vr x0, vi x1] G (fun G1 => wp E d M_X12_findLeft 7 [some (vr x0), some (vi x1), some (vi 0), none, none, none] [] G1 Q))) : wp E d M_X12_findLeft 0 [some (vr x0), some (vi x1), none, none, none, none] [] G Q := by
  refine wp_aload_n (pc := 0) d_X12_findLeft_0 rfl ?_
  refine wp_iload_n (pc := 1) d_X12_findLeft_1 rfl ?_
  obtain ⟨ho2, h⟩ := h
  refine wp_invV (pc := 2) (N := M_X12_know) (As := [vi _]) (rest := []) (r := (cn_12, ct_12, 95)) d_X12_findLeft_2 ml_X12_571 mk_X12_know mv_X12_know h0 ho2 rfl rfl (Nat.le_of_ble_eq_true rfl) ?_
  refine wpM.mono h (fun rr G1 hr => ?_)
  obtain ⟨rfl, h⟩ := hr
  show wp E d M_X12_findLeft 5 [some (vr _), some (vi _), none, none, none, none] [] G1 Q
  refine wp_iconst (pc := 5) (v := 0) d_X12_findLeft_5 rfl ?_
  refine wp_istore_n (pc := 6) (lv' := [some (vr _), some (vi _), some (vi _), none, none, none]) d_X12_findLeft_6 (by decide) rfl ?_
  refine wp_sub ?_ h
  exact ⟨rfl, ⟨rfl, ⟨rfl, trivial⟩⟩⟩
theorem v_X12_findLeft_7 {E : EE} {d : Nat} {Q : Option AV → AH → Prop} {x0 : Nat} {x1 : Int32} {x2 : Int32} {G : AH} (h0 : 0 < d) (h : isO E G x0 12 ∧ (wpI E (d - 1) M_X12_vars [vr x0, vi x1] G (fun r1 G2 => (r1 ≤ x2 → wp E d M_X12_findLeft 92 [some (vr x0), some (vi x1), some (vi 1), none, none, none] [] G2 Q) ∧ (¬ (r1 ≤ x2) → wp E d M_X12_findLeft 18 [some (vr x0), some (vi x1), some (vi x2), some (vi 0), none, none] [] G2 Q)))) : wp E d M_X12_findLeft 7 [some (vr x0), some (vi x1), some (vi x2), none, none, none] [] G Q := by
  refine wp_iload_n (pc := 7) d_X12_findLeft_7 rfl ?_
  refine wp_aload_n (pc := 8) d_X12_findLeft_8 rfl ?_
  refine wp_iload_n (pc := 9) d_X12_findLeft_9 rfl ?_
  obtain ⟨ho3, h⟩ := h
  refine wp_invV (pc := 10) (N := M_X12_vars) (As := [vi _]) (rest := [vi _]) (r := (cn_12, ct_12, 95)) d_X12_findLeft_10 ml_X12_456 mk_X12_vars mv_X12_vars h0 ho3 rfl rfl (Nat.le_of_ble_eq_true rfl) ?_
  refine wpM.mono h (fun rr G2 hr => ?_)
  obtain ⟨r1, rfl, h⟩ := hr
  show wp E d M_X12_findLeft 13 [some (vr _), some (vi _), some (vi _), none, none, none] [vi _, vi _] G2 Q
  refine wp_icmp_ge (pc := 13) (tgt := 90) d_X12_findLeft_13 (by decide) (fun hc => ?_) (fun hc => ?_)
  · have h := h.1 hc
    refine wp_iconst (pc := 90) (v := 1) d_X12_findLeft_90 rfl ?_
    refine wp_istore_n (pc := 91) (lv' := [some (vr _), some (vi _), some (vi _), none, none, none]) d_X12_findLeft_91 (by decide) rfl ?_
    refine wp_sub ?_ h
    exact ⟨rfl, ⟨rfl, ⟨rfl, trivial⟩⟩⟩
  · have h := h.2 hc
    refine wp_iconst (pc := 16) (v := 0) d_X12_findLeft_16 rfl ?_
    refine wp_istore_n (pc := 17) (lv' := [some (vr _), some (vi _), some (vi _), some (vi _), none, none]) d_X12_findLeft_17 (by decide) rfl ?_
    refine wp_sub ?_ h
    exact ⟨rfl, ⟨rfl, ⟨rfl, ⟨rfl, trivial⟩⟩⟩⟩
theorem v_X12_findLeft_18 {E : EE} {d : Nat} {Q : Option AV → AH → Prop} {x0 : Nat} {x1 : Int32} {x2 : Int32} {x3 : Int32} {G : AH} (h : isO E G x0 12 ∧ (isO E G (gR G x0 19) 14 ∧ (vp_in ((12 * x1) + x2) (gN G (gR G x0 19)) ∧ (((gI G (gR G x0 19) (Int32.toNatClampNeg ((12 * x1) + x2))) ≤ x3 → wp E d M_X12_findLeft 7 [some (vr x0), some (vi x1), some (vi (x2 + 1)), none, none, none] [] G Q) ∧ (¬ ((gI G (gR G x0 19) (Int32.toNatClampNeg ((12 * x1) + x2))) ≤ x3) → isO E G (gR G x0 24) 16 ∧ (vp_in ((12 * x1) + x2) (gN G (gR G x0 24)) ∧ (((gI G (gR G x0 24) (Int32.toNatClampNeg ((12 * x1) + x2))) = 0 → wp E d M_X12_findLeft 72 [some (vr x0), some (vi x1), some (vi x2), some (vi x3), none, none] [vi ((20 * x2) + x3), vr (gR G x0 67)] G Q) ∧ (¬ ((gI G (gR G x0 24) (Int32.toNatClampNeg ((12 * x1) + x2))) = 0) → isO E G (gR G x0 22) 14 ∧ (vp_in ((12 * x1) + x2) (gN G (gR G x0 22)) ∧ ((¬ x3 = (gI G (gR G x0 22) (Int32.toNatClampNeg ((12 * x1) + x2))) → wp E d M_X12_findLeft 77 [some (vr x0), some (vi x1), some (vi x2), some (vi x3), none, none] [vi 0, vi ((20 * x2) + x3), vr (gR G x0 67)] G Q) ∧ (x3 = (gI G (gR G x0 22) (Int32.toNatClampNeg ((12 * x1) + x2))) → wp E d M_X12_findLeft 72 [some (vr x0), some (vi x1), some (vi x2), some (vi x3), none, none] [vi ((20 * x2) + x3), vr (gR G x0 67)] G Q))))))))))) : wp E d M_X12_findLeft 18 [some (vr x0), some (vi x1), some (vi x2), some (vi x3), none, none] [] G Q := by
  refine wp_iload_n (pc := 18) d_X12_findLeft_18 rfl ?_
  refine wp_aload_n (pc := 19) d_X12_findLeft_19 rfl ?_
  obtain ⟨ho1, h⟩ := h
  refine wp_getR (pc := 20) d_X12_findLeft_20 fl_X12_64 (fun _ _ _ => rfl) ho1 ?_
  refine wp_bipush (pc := 23) (v := 12) d_X12_findLeft_23 rfl ?_
  refine wp_iload_n (pc := 25) d_X12_findLeft_25 rfl ?_
  refine wp_imul (pc := 26) d_X12_findLeft_26 ?_
  refine wp_iload_n (pc := 27) d_X12_findLeft_27 rfl ?_
  refine wp_iadd (pc := 28) d_X12_findLeft_28 ?_
  obtain ⟨ho2, h⟩ := h
  obtain ⟨hi3, h⟩ := h
  refine wp_iald (pc := 29) d_X12_findLeft_29 ho2 hi3 ?_
  refine wp_icmp_ge (pc := 30) (tgt := 84) d_X12_findLeft_30 (by decide) (fun hc => ?_) (fun hc => ?_)
  · have h := h.1 hc
    refine wp_iinc (pc := 84) (v := 1) (lv' := [some (vr _), some (vi _), some (vi _), some (vi _), none, none]) d_X12_findLeft_84 (by decide) rfl rfl rfl ?_
    refine wp_goto (pc := 87) (tgt := 7) d_X12_findLeft_87 (by decide) ?_
    refine wp_sub ?_ h
    exact ⟨rfl, ⟨rfl, ⟨rfl, trivial⟩⟩⟩
  · have h := h.2 hc
    refine wp_aload_n (pc := 33) d_X12_findLeft_33 rfl ?_
    refine wp_getR (pc := 34) d_X12_findLeft_34 fl_X12_162 (fun _ _ _ => rfl) ho1 ?_
    refine wp_bipush (pc := 37) (v := 20) d_X12_findLeft_37 rfl ?_
    refine wp_iload_n (pc := 39) d_X12_findLeft_39 rfl ?_
    refine wp_imul (pc := 40) d_X12_findLeft_40 ?_
    refine wp_iload_n (pc := 41) d_X12_findLeft_41 rfl ?_
    refine wp_iadd (pc := 42) d_X12_findLeft_42 ?_
    refine wp_aload_n (pc := 43) d_X12_findLeft_43 rfl ?_
    refine wp_getR (pc := 44) d_X12_findLeft_44 fl_X12_79 (fun _ _ _ => rfl) ho1 ?_
    refine wp_bipush (pc := 47) (v := 12) d_X12_findLeft_47 rfl ?_
    refine wp_iload_n (pc := 49) d_X12_findLeft_49 rfl ?_
    refine wp_imul (pc := 50) d_X12_findLeft_50 ?_
    refine wp_iload_n (pc := 51) d_X12_findLeft_51 rfl ?_
    refine wp_iadd (pc := 52) d_X12_findLeft_52 ?_
    obtain ⟨ho4, h⟩ := h
    obtain ⟨hi5, h⟩ := h
    refine wp_zald (pc := 53) d_X12_findLeft_53 ho4 hi5 ?_
    refine wp_if_eq (pc := 54) (tgt := 72) d_X12_findLeft_54 (by decide) (fun hc => ?_) (fun hc => ?_)
    · have h := h.1 hc
      refine wp_sub ?_ h
      exact ⟨rfl, ⟨rfl, ⟨rfl, ⟨rfl, trivial⟩⟩⟩⟩
    · have h := h.2 hc
      refine wp_iload_n (pc := 57) d_X12_findLeft_57 rfl ?_
      refine wp_aload_n (pc := 58) d_X12_findLeft_58 rfl ?_
      refine wp_getR (pc := 59) d_X12_findLeft_59 fl_X12_73 (fun _ _ _ => rfl) ho1 ?_
      refine wp_bipush (pc := 62) (v := 12) d_X12_findLeft_62 rfl ?_
      refine wp_iload_n (pc := 64) d_X12_findLeft_64 rfl ?_
      refine wp_imul (pc := 65) d_X12_findLeft_65 ?_
      refine wp_iload_n (pc := 66) d_X12_findLeft_66 rfl ?_
      refine wp_iadd (pc := 67) d_X12_findLeft_67 ?_
      obtain ⟨ho6, h⟩ := h
      obtain ⟨hi7, h⟩ := h
      refine wp_iald (pc := 68) d_X12_findLeft_68 ho6 hi7 ?_
      refine wp_icmp_ne (pc := 69) (tgt := 76) d_X12_findLeft_69 (by decide) (fun hc => ?_) (fun hc => ?_)
      · have h := h.1 hc
        refine wp_iconst (pc := 76) (v := 0) d_X12_findLeft_76 rfl ?_
        refine wp_sub ?_ h
        exact ⟨rfl, ⟨rfl, ⟨rfl, ⟨rfl, trivial⟩⟩⟩⟩
      · have h := h.2 hc
        refine wp_sub ?_ h
        exact ⟨rfl, ⟨rfl, ⟨rfl, ⟨rfl, trivial⟩⟩⟩⟩
theorem v_X12_findLeft_72 {E : EE} {d : Nat} {Q : Option AV → AH → Prop} {x0 : Nat} {x1 : Int32} {x2 : Int32} {x3 : Int32} {t0 : Nat} {t1 : Int32} {G : AH} (h : wp E d M_X12_findLeft 77 [some (vr x0), some (vi x1), some (vi x2), some (vi x3), none, none] [vi 1, vi t1, vr t0] G Q) : wp E d M_X12_findLeft 72 [some (vr x0), some (vi x1), some (vi x2), some (vi x3), none, none] [vi t1, vr t0] G Q := by
  refine wp_iconst (pc := 72) (v := 1) d_X12_findLeft_72 rfl ?_
  refine wp_goto (pc := 73) (tgt := 77) d_X12_findLeft_73 (by decide) ?_
  refine wp_sub ?_ h
  exact ⟨rfl, ⟨rfl, ⟨rfl, ⟨rfl, trivial⟩⟩⟩⟩
theorem v_X12_findLeft_77 {E : EE} {d : Nat} {Q : Option AV → AH → Prop} {x0 : Nat} {x1 : Int32} {x2 : Int32} {x3 : Int32} {t0 : Nat} {t1 : Int32} {t2 : Int32} {G : AH} (h : isO E G t0 16 ∧ (vp_in t1 (gN G t0) ∧ (wp E d M_X12_findLeft 18 [some (vr x0), some (vi x1), some (vi x2), some (vi (x3 + 1)), none, none] [] (sI G t0 (Int32.toNatClampNeg t1) (nz t2)) Q))) : wp E d M_X12_findLeft 77 [some (vr x0), some (vi x1), some (vi x2), some (vi x3), none, none] [vi t2, vi t1, vr t0] G Q := by
  obtain ⟨ho1, h⟩ := h
  obtain ⟨hi2, h⟩ := h
  refine wp_zast (pc := 77) d_X12_findLeft_77 ho1 hi2 ?_
  refine wp_iinc (pc := 78) (v := 1) (lv' := [some (vr _), some (vi _), some (vi _), some (vi _), none, none]) d_X12_findLeft_78 (by decide) rfl rfl rfl ?_
  refine wp_goto (pc := 81) (tgt := 18) d_X12_findLeft_81 (by decide) ?_
  refine wp_sub ?_ h
  exact ⟨rfl, ⟨rfl, ⟨rfl, ⟨rfl, trivial⟩⟩⟩⟩
theorem v_X12_findLeft_92 {E : EE} {d : Nat} {Q : Option AV → AH → Prop} {x0 : Nat} {x1 : Int32} {x2 : Int32} {G : AH} (h : (x2 = 0 → Q none G) ∧ (¬ (x2 = 0) → wp E d M_X12_findLeft 100 [some (vr x0), some (vi x1), some (vi 0), some (vi 0), none, none] [] G Q)) : wp E d M_X12_findLeft 92 [some (vr x0), some (vi x1), some (vi x2), none, none, none] [] G Q := by
  refine wp_iload_n (pc := 92) d_X12_findLeft_92 rfl ?_
  refine wp_if_eq (pc := 93) (tgt := 383) d_X12_findLeft_93 (by decide) (fun hc => ?_) (fun hc => ?_)
  · have h := h.1 hc
    exact wp_vret (pc := 383) d_X12_findLeft_383 rfl h
  · have h := h.2 hc
    refine wp_iconst (pc := 96) (v := 0) d_X12_findLeft_96 rfl ?_
    refine wp_istore_n (pc := 97) (lv' := [some (vr _), some (vi _), some (vi _), none, none, none]) d_X12_findLeft_97 (by decide) rfl ?_
    refine wp_iconst (pc := 98) (v := 0) d_X12_findLeft_98 rfl ?_
    refine wp_istore_n (pc := 99) (lv' := [some (vr _), some (vi _), some (vi _), some (vi _), none, none]) d_X12_findLeft_99 (by decide) rfl ?_
    refine wp_sub ?_ h
    exact ⟨rfl, ⟨rfl, ⟨rfl, ⟨rfl, trivial⟩⟩⟩⟩
theorem v_X12_findLeft_100 {E : EE} {d : Nat} {Q : Option AV → AH → Prop} {x0 : Nat} {x1 : Int32} {x2 : Int32} {x3 : Int32} {G : AH} (h0 : 0 < d) (h : isO E G x0 12 ∧ (wpI E (d - 1) M_X12_rulesOf [vr x0, vi x1] G (fun r1 G2 => (r1 ≤ x3 → wp E d M_X12_findLeft 92 [some (vr x0), some (vi x1), some (vi x2), none, none, none] [] G2 Q) ∧ (¬ (r1 ≤ x3) → isO E G2 x0 12 ∧ (isO E G2 (gR G2 x0 27) 14 ∧ (vp_in ((24 * x1) + x3) (gN G2 (gR G2 x0 27)) ∧ (((gI G2 (gR G2 x0 27) (Int32.toNatClampNeg ((24 * x1) + x3))) = 0 → wp E d M_X12_findLeft 129 [some (vr x0), some (vi x1), some (vi x2), some (vi x3), some (vi 0), none] [] G2 Q) ∧ (¬ ((gI G2 (gR G2 x0 27) (Int32.toNatClampNeg ((24 * x1) + x3))) = 0) → wp E d M_X12_findLeft 374 [some (vr x0), some (vi x1), some (vi x2), some (vi x3), none, none] [] G2 Q)))))))) : wp E d M_X12_findLeft 100 [some (vr x0), some (vi x1), some (vi x2), some (vi x3), none, none] [] G Q := by
  refine wp_iload_n (pc := 100) d_X12_findLeft_100 rfl ?_
  refine wp_aload_n (pc := 101) d_X12_findLeft_101 rfl ?_
  refine wp_iload_n (pc := 102) d_X12_findLeft_102 rfl ?_
  obtain ⟨ho6, h⟩ := h
  refine wp_invV (pc := 103) (N := M_X12_rulesOf) (As := [vi _]) (rest := [vi _]) (r := (cn_12, ct_12, 95)) d_X12_findLeft_103 ml_X12_459 mk_X12_rulesOf mv_X12_rulesOf h0 ho6 rfl rfl (Nat.le_of_ble_eq_true rfl) ?_
  refine wpM.mono h (fun rr G2 hr => ?_)
  obtain ⟨r1, rfl, h⟩ := hr
  show wp E d M_X12_findLeft 106 [some (vr _), some (vi _), some (vi _), some (vi _), none, none] [vi _, vi _] G2 Q
  refine wp_icmp_ge (pc := 106) (tgt := 380) d_X12_findLeft_106 (by decide) (fun hc => ?_) (fun hc => ?_)
  · have h := h.1 hc
    refine wp_goto (pc := 380) (tgt := 92) d_X12_findLeft_380 (by decide) ?_
    refine wp_sub ?_ h
    exact ⟨rfl, ⟨rfl, ⟨rfl, trivial⟩⟩⟩
  · have h := h.2 hc
    refine wp_aload_n (pc := 109) d_X12_findLeft_109 rfl ?_
    obtain ⟨ho3, h⟩ := h
    refine wp_getR (pc := 110) d_X12_findLeft_110 fl_X12_88 (fun _ _ _ => rfl) ho3 ?_
    refine wp_bipush (pc := 113) (v := 24) d_X12_findLeft_113 rfl ?_
    refine wp_iload_n (pc := 115) d_X12_findLeft_115 rfl ?_
    refine wp_imul (pc := 116) d_X12_findLeft_116 ?_
    refine wp_iload_n (pc := 117) d_X12_findLeft_117 rfl ?_
    refine wp_iadd (pc := 118) d_X12_findLeft_118 ?_
    obtain ⟨ho4, h⟩ := h
    obtain ⟨hi5, h⟩ := h
    refine wp_iald (pc := 119) d_X12_findLeft_119 ho4 hi5 ?_
    refine wp_if_eq (pc := 120) (tgt := 126) d_X12_findLeft_120 (by decide) (fun hc => ?_) (fun hc => ?_)
    · have h := h.1 hc
      refine wp_iconst (pc := 126) (v := 0) d_X12_findLeft_126 rfl ?_
      refine wp_istore (pc := 127) (lv' := [some (vr _), some (vi _), some (vi _), some (vi _), some (vi _), none]) d_X12_findLeft_127 (by decide) rfl ?_
      refine wp_sub ?_ h
      exact ⟨rfl, ⟨rfl, ⟨rfl, ⟨rfl, ⟨rfl, trivial⟩⟩⟩⟩⟩
    · have h := h.2 hc
      refine wp_goto (pc := 123) (tgt := 374) d_X12_findLeft_123 (by decide) ?_
      refine wp_sub ?_ h
      exact ⟨rfl, ⟨rfl, ⟨rfl, ⟨rfl, trivial⟩⟩⟩⟩
theorem v_X12_findLeft_129 {E : EE} {d : Nat} {Q : Option AV → AH → Prop} {x0 : Nat} {x1 : Int32} {x2 : Int32} {x3 : Int32} {x4 : Int32} {G : AH} (h : (240 ≤ x4 → wp E d M_X12_findLeft 154 [some (vr x0), some (vi x1), some (vi x2), some (vi x3), some (vi 0), none] [] G Q) ∧ (¬ (240 ≤ x4) → isO E G x0 12 ∧ (isO E G (gR G x0 68) 16 ∧ (vp_in x4 (gN G (gR G x0 68)) ∧ (wp E d M_X12_findLeft 129 [some (vr x0), some (vi x1), some (vi x2), some (vi x3), some (vi (x4 + 1)), none] [] (sI G (gR G x0 68) (Int32.toNatClampNeg x4) (nz 0)) Q))))) : wp E d M_X12_findLeft 129 [some (vr x0), some (vi x1), some (vi x2), some (vi x3), some (vi x4), none] [] G Q := by
  refine wp_iload (pc := 129) d_X12_findLeft_129 rfl ?_
  refine wp_sipush (pc := 131) (v := 240) d_X12_findLeft_131 rfl ?_
  refine wp_icmp_ge (pc := 134) (tgt := 151) d_X12_findLeft_134 (by decide) (fun hc => ?_) (fun hc => ?_)
  · have h := h.1 hc
    refine wp_iconst (pc := 151) (v := 0) d_X12_findLeft_151 rfl ?_
    refine wp_istore (pc := 152) (lv' := [some (vr _), some (vi _), some (vi _), some (vi _), some (vi _), none]) d_X12_findLeft_152 (by decide) rfl ?_
    refine wp_sub ?_ h
    exact ⟨rfl, ⟨rfl, ⟨rfl, ⟨rfl, ⟨rfl, trivial⟩⟩⟩⟩⟩
  · have h := h.2 hc
    refine wp_aload_n (pc := 137) d_X12_findLeft_137 rfl ?_
    obtain ⟨ho1, h⟩ := h
    refine wp_getR (pc := 138) d_X12_findLeft_138 fl_X12_165 (fun _ _ _ => rfl) ho1 ?_
    refine wp_iload (pc := 141) d_X12_findLeft_141 rfl ?_
    refine wp_iconst (pc := 143) (v := 0) d_X12_findLeft_143 rfl ?_
    obtain ⟨ho2, h⟩ := h
    obtain ⟨hi3, h⟩ := h
    refine wp_zast (pc := 144) d_X12_findLeft_144 ho2 hi3 ?_
    refine wp_iinc (pc := 145) (v := 1) (lv' := [some (vr _), some (vi _), some (vi _), some (vi _), some (vi _), none]) d_X12_findLeft_145 (by decide) rfl rfl rfl ?_
    refine wp_goto (pc := 148) (tgt := 129) d_X12_findLeft_148 (by decide) ?_
    refine wp_sub ?_ h
    exact ⟨rfl, ⟨rfl, ⟨rfl, ⟨rfl, ⟨rfl, trivial⟩⟩⟩⟩⟩
theorem v_X12_findLeft_154 {E : EE} {d : Nat} {Q : Option AV → AH → Prop} {x0 : Nat} {x1 : Int32} {x2 : Int32} {x3 : Int32} {x4 : Int32} {G : AH} (h0 : 0 < d) (h : isO E G x0 12 ∧ (isO E G (gR G x0 25) 14 ∧ (vp_in x1 (gN G (gR G x0 25)) ∧ (((gI G (gR G x0 25) (Int32.toNatClampNeg x1)) ≤ x4 → wp E d M_X12_findLeft 240 [some (vr x0), some (vi x1), some (vi x2), some (vi x3), some (vi 0), none] [] G Q) ∧ (¬ ((gI G (gR G x0 25) (Int32.toNatClampNeg x1)) ≤ x4) → isO E G (gR G x0 64) 14 ∧ (vp_in ((20000 * x3) + x4) (gN G (gR G x0 64)) ∧ ((¬ (gI G (gR G x0 64) (Int32.toNatClampNeg ((20000 * x3) + x4))) = 0 → wp E d M_X12_findLeft 231 [some (vr x0), some (vi x1), some (vi x2), some (vi x3), some (vi x4), none] [] G Q) ∧ ((gI G (gR G x0 64) (Int32.toNatClampNeg ((20000 * x3) + x4))) = 0 → wpI E (d - 1) M_X12_isOfLeft [vr x0, vi x1, vi x4] G (fun r6 G7 => (r6 = 0 → wp E d M_X12_findLeft 231 [some (vr x0), some (vi x1), some (vi x2), some (vi x3), some (vi x4), none] [] G7 Q) ∧ (¬ (r6 = 0) → wp E d M_X12_findLeft 194 [some (vr x0), some (vi x1), some (vi x2), some (vi x3), some (vi x4), some (vi 0)] [] G7 Q)))))))))) : wp E d M_X12_findLeft 154 [some (vr x0), some (vi x1), some (vi x2), some (vi x3), some (vi x4), none] [] G Q := by
  refine wp_iload (pc := 154) d_X12_findLeft_154 rfl ?_
  refine wp_aload_n (pc := 156) d_X12_findLeft_156 rfl ?_
  obtain ⟨ho1, h⟩ := h
  refine wp_getR (pc := 157) d_X12_findLeft_157 fl_X12_82 (fun _ _ _ => rfl) ho1 ?_
  refine wp_iload_n (pc := 160) d_X12_findLeft_160 rfl ?_
  obtain ⟨ho2, h⟩ := h
  obtain ⟨hi3, h⟩ := h
  refine wp_iald (pc := 161) d_X12_findLeft_161 ho2 hi3 ?_
  refine wp_icmp_ge (pc := 162) (tgt := 237) d_X12_findLeft_162 (by decide) (fun hc => ?_) (fun hc => ?_)
  · have h := h.1 hc
    refine wp_iconst (pc := 237) (v := 0) d_X12_findLeft_237 rfl ?_
    refine wp_istore (pc := 238) (lv' := [some (vr _), some (vi _), some (vi _), some (vi _), some (vi _), none]) d_X12_findLeft_238 (by decide) rfl ?_
    refine wp_sub ?_ h
    exact ⟨rfl, ⟨rfl, ⟨rfl, ⟨rfl, ⟨rfl, trivial⟩⟩⟩⟩⟩
  · have h := h.2 hc
    refine wp_aload_n (pc := 165) d_X12_findLeft_165 rfl ?_
    refine wp_getR (pc := 166) d_X12_findLeft_166 fl_X12_151 (fun _ _ _ => rfl) ho1 ?_
    refine wp_sipush (pc := 169) (v := 20000) d_X12_findLeft_169 rfl ?_
    refine wp_iload_n (pc := 172) d_X12_findLeft_172 rfl ?_
    refine wp_imul (pc := 173) d_X12_findLeft_173 ?_
    refine wp_iload (pc := 174) d_X12_findLeft_174 rfl ?_
    refine wp_iadd (pc := 176) d_X12_findLeft_176 ?_
    obtain ⟨ho4, h⟩ := h
    obtain ⟨hi5, h⟩ := h
    refine wp_iald (pc := 177) d_X12_findLeft_177 ho4 hi5 ?_
    refine wp_if_ne (pc := 178) (tgt := 231) d_X12_findLeft_178 (by decide) (fun hc => ?_) (fun hc => ?_)
    · have h := h.1 hc
      refine wp_sub ?_ h
      exact ⟨rfl, ⟨rfl, ⟨rfl, ⟨rfl, ⟨rfl, trivial⟩⟩⟩⟩⟩
    · have h := h.2 hc
      refine wp_aload_n (pc := 181) d_X12_findLeft_181 rfl ?_
      refine wp_iload_n (pc := 182) d_X12_findLeft_182 rfl ?_
      refine wp_iload (pc := 183) d_X12_findLeft_183 rfl ?_
      refine wp_invV (pc := 185) (N := M_X12_isOfLeft) (As := [vi _, vi _]) (rest := []) (r := (cn_12, ct_12, 95)) d_X12_findLeft_185 ml_X12_586 mk_X12_isOfLeft mv_X12_isOfLeft h0 ho1 rfl rfl (Nat.le_of_ble_eq_true rfl) ?_
      refine wpM.mono h (fun rr G7 hr => ?_)
      obtain ⟨r6, rfl, h⟩ := hr
      show wp E d M_X12_findLeft 188 [some (vr _), some (vi _), some (vi _), some (vi _), some (vi _), none] [vi _] G7 Q
      refine wp_if_eq (pc := 188) (tgt := 231) d_X12_findLeft_188 (by decide) (fun hc => ?_) (fun hc => ?_)
      · have h := h.1 hc
        refine wp_sub ?_ h
        exact ⟨rfl, ⟨rfl, ⟨rfl, ⟨rfl, ⟨rfl, trivial⟩⟩⟩⟩⟩
      · have h := h.2 hc
        refine wp_iconst (pc := 191) (v := 0) d_X12_findLeft_191 rfl ?_
        refine wp_istore (pc := 192) (lv' := [some (vr _), some (vi _), some (vi _), some (vi _), some (vi _), some (vi _)]) d_X12_findLeft_192 (by decide) rfl ?_
        refine wp_sub ?_ h
        exact ⟨rfl, ⟨rfl, ⟨rfl, ⟨rfl, ⟨rfl, ⟨rfl, trivial⟩⟩⟩⟩⟩⟩
theorem v_X12_findLeft_194 {E : EE} {d : Nat} {Q : Option AV → AH → Prop} {x0 : Nat} {x1 : Int32} {x2 : Int32} {x3 : Int32} {x4 : Int32} {x5 : Int32} {G : AH} (h0 : 0 < d) (h : isO E G x0 12 ∧ (wpI E (d - 1) M_X12_vars [vr x0, vi x1] G (fun r1 G2 => (r1 ≤ x5 → wp E d M_X12_findLeft 231 [some (vr x0), some (vi x1), some (vi x2), some (vi x3), some (vi x4), none] [] G2 Q) ∧ (¬ (r1 ≤ x5) → isO E G2 x0 12 ∧ (wpI E (d - 1) M_X12_place [vr x0, vi x1, vi x4, vi x5] G2 (fun r4 G5 => isO E G5 (gR G2 x0 68) 16 ∧ (vp_in ((20 * x5) + r4) (gN G5 (gR G2 x0 68)) ∧ (wp E d M_X12_findLeft 194 [some (vr x0), some (vi x1), some (vi x2), some (vi x3), some (vi x4), some (vi (x5 + 1))] [] (sI G5 (gR G2 x0 68) (Int32.toNatClampNeg ((20 * x5) + r4)) (nz 1)) Q)))))))) : wp E d M_X12_findLeft 194 [some (vr x0), some (vi x1), some (vi x2), some (vi x3), some (vi x4), some (vi x5)] [] G Q := by
  refine wp_iload (pc := 194) d_X12_findLeft_194 rfl ?_
  refine wp_aload_n (pc := 196) d_X12_findLeft_196 rfl ?_
  refine wp_iload_n (pc := 197) d_X12_findLeft_197 rfl ?_
  obtain ⟨ho8, h⟩ := h
  refine wp_invV (pc := 198) (N := M_X12_vars) (As := [vi _]) (rest := [vi _]) (r := (cn_12, ct_12, 95)) d_X12_findLeft_198 ml_X12_456 mk_X12_vars mv_X12_vars h0 ho8 rfl rfl (Nat.le_of_ble_eq_true rfl) ?_
  refine wpM.mono h (fun rr G2 hr => ?_)
  obtain ⟨r1, rfl, h⟩ := hr
  show wp E d M_X12_findLeft 201 [some (vr _), some (vi _), some (vi _), some (vi _), some (vi _), some (vi _)] [vi _, vi _] G2 Q
  refine wp_icmp_ge (pc := 201) (tgt := 231) d_X12_findLeft_201 (by decide) (fun hc => ?_) (fun hc => ?_)
  · have h := h.1 hc
    refine wp_sub ?_ h
    exact ⟨rfl, ⟨rfl, ⟨rfl, ⟨rfl, ⟨rfl, trivial⟩⟩⟩⟩⟩
  · have h := h.2 hc
    refine wp_aload_n (pc := 204) d_X12_findLeft_204 rfl ?_
    obtain ⟨ho3, h⟩ := h
    refine wp_getR (pc := 205) d_X12_findLeft_205 fl_X12_165 (fun _ _ _ => rfl) ho3 ?_
    refine wp_bipush (pc := 208) (v := 20) d_X12_findLeft_208 rfl ?_
    refine wp_iload (pc := 210) d_X12_findLeft_210 rfl ?_
    refine wp_imul (pc := 212) d_X12_findLeft_212 ?_
    refine wp_aload_n (pc := 213) d_X12_findLeft_213 rfl ?_
    refine wp_iload_n (pc := 214) d_X12_findLeft_214 rfl ?_
    refine wp_iload (pc := 215) d_X12_findLeft_215 rfl ?_
    refine wp_iload (pc := 217) d_X12_findLeft_217 rfl ?_
    refine wp_invV (pc := 219) (N := M_X12_place) (As := [vi _, vi _, vi _]) (rest := [vi _, vr _]) (r := (cn_12, ct_12, 95)) d_X12_findLeft_219 ml_X12_537 mk_X12_place mv_X12_place h0 ho3 rfl rfl (Nat.le_of_ble_eq_true rfl) ?_
    refine wpM.mono h (fun rr G5 hr => ?_)
    obtain ⟨r4, rfl, h⟩ := hr
    show wp E d M_X12_findLeft 222 [some (vr _), some (vi _), some (vi _), some (vi _), some (vi _), some (vi _)] [vi _, vi _, vr _] G5 Q
    refine wp_iadd (pc := 222) d_X12_findLeft_222 ?_
    refine wp_iconst (pc := 223) (v := 1) d_X12_findLeft_223 rfl ?_
    obtain ⟨ho6, h⟩ := h
    obtain ⟨hi7, h⟩ := h
    refine wp_zast (pc := 224) d_X12_findLeft_224 ho6 hi7 ?_
    refine wp_iinc (pc := 225) (v := 1) (lv' := [some (vr _), some (vi _), some (vi _), some (vi _), some (vi _), some (vi _)]) d_X12_findLeft_225 (by decide) rfl rfl rfl ?_
    refine wp_goto (pc := 228) (tgt := 194) d_X12_findLeft_228 (by decide) ?_
    refine wp_sub ?_ h
    exact ⟨rfl, ⟨rfl, ⟨rfl, ⟨rfl, ⟨rfl, ⟨rfl, trivial⟩⟩⟩⟩⟩⟩
theorem v_X12_findLeft_231 {E : EE} {d : Nat} {Q : Option AV → AH → Prop} {x0 : Nat} {x1 : Int32} {x2 : Int32} {x3 : Int32} {x4 : Int32} {G : AH} (h : wp E d M_X12_findLeft 154 [some (vr x0), some (vi x1), some (vi x2), some (vi x3), some (vi (x4 + 1)), none] [] G Q) : wp E d M_X12_findLeft 231 [some (vr x0), some (vi x1), some (vi x2), some (vi x3), some (vi x4), none] [] G Q := by
  refine wp_iinc (pc := 231) (v := 1) (lv' := [some (vr _), some (vi _), some (vi _), some (vi _), some (vi _), none]) d_X12_findLeft_231 (by decide) rfl rfl rfl ?_
  refine wp_goto (pc := 234) (tgt := 154) d_X12_findLeft_234 (by decide) ?_
  refine wp_sub ?_ h
  exact ⟨rfl, ⟨rfl, ⟨rfl, ⟨rfl, ⟨rfl, trivial⟩⟩⟩⟩⟩
theorem v_X12_findLeft_240 {E : EE} {d : Nat} {Q : Option AV → AH → Prop} {x0 : Nat} {x1 : Int32} {x2 : Int32} {x3 : Int32} {x4 : Int32} {G : AH} (h0 : 0 < d) (h : isO E G x0 12 ∧ (wpI E (d - 1) M_X12_vars [vr x0, vi x1] G (fun r1 G2 => (r1 ≤ x4 → wp E d M_X12_findLeft 374 [some (vr x0), some (vi x1), some (vi x2), some (vi x3), none, none] [] G2 Q) ∧ (¬ (r1 ≤ x4) → wp E d M_X12_findLeft 253 [some (vr x0), some (vi x1), some (vi x2), some (vi x3), some (vi x4), some (vi 0)] [] G2 Q)))) : wp E d M_X12_findLeft 240 [some (vr x0), some (vi x1), some (vi x2), some (vi x3), some (vi x4), none] [] G Q := by
  refine wp_iload (pc := 240) d_X12_findLeft_240 rfl ?_
  refine wp_aload_n (pc := 242) d_X12_findLeft_242 rfl ?_
  refine wp_iload_n (pc := 243) d_X12_findLeft_243 rfl ?_
  obtain ⟨ho3, h⟩ := h
  refine wp_invV (pc := 244) (N := M_X12_vars) (As := [vi _]) (rest := [vi _]) (r := (cn_12, ct_12, 95)) d_X12_findLeft_244 ml_X12_456 mk_X12_vars mv_X12_vars h0 ho3 rfl rfl (Nat.le_of_ble_eq_true rfl) ?_
  refine wpM.mono h (fun rr G2 hr => ?_)
  obtain ⟨r1, rfl, h⟩ := hr
  show wp E d M_X12_findLeft 247 [some (vr _), some (vi _), some (vi _), some (vi _), some (vi _), none] [vi _, vi _] G2 Q
  refine wp_icmp_ge (pc := 247) (tgt := 374) d_X12_findLeft_247 (by decide) (fun hc => ?_) (fun hc => ?_)
  · have h := h.1 hc
    refine wp_sub ?_ h
    exact ⟨rfl, ⟨rfl, ⟨rfl, ⟨rfl, trivial⟩⟩⟩⟩
  · have h := h.2 hc
    refine wp_iconst (pc := 250) (v := 0) d_X12_findLeft_250 rfl ?_
    refine wp_istore (pc := 251) (lv' := [some (vr _), some (vi _), some (vi _), some (vi _), some (vi _), some (vi _)]) d_X12_findLeft_251 (by decide) rfl ?_
    refine wp_sub ?_ h
    exact ⟨rfl, ⟨rfl, ⟨rfl, ⟨rfl, ⟨rfl, ⟨rfl, trivial⟩⟩⟩⟩⟩⟩
theorem v_X12_findLeft_253 {E : EE} {d : Nat} {Q : Option AV → AH → Prop} {x0 : Nat} {x1 : Int32} {x2 : Int32} {x3 : Int32} {x4 : Int32} {x5 : Int32} {G : AH} (h : isO E G x0 12 ∧ (isO E G (gR G x0 19) 14 ∧ (vp_in ((12 * x1) + x4) (gN G (gR G x0 19)) ∧ (((gI G (gR G x0 19) (Int32.toNatClampNeg ((12 * x1) + x4))) ≤ x5 → wp E d M_X12_findLeft 240 [some (vr x0), some (vi x1), some (vi x2), some (vi x3), some (vi (x4 + 1)), none] [] G Q) ∧ (¬ ((gI G (gR G x0 19) (Int32.toNatClampNeg ((12 * x1) + x4))) ≤ x5) → (¬ x2 = 0 → wp E d M_X12_findLeft 306 [some (vr x0), some (vi x1), some (vi x2), some (vi x3), some (vi x4), some (vi x5)] [] G Q) ∧ (x2 = 0 → isO E G (gR G x0 67) 16 ∧ (vp_in ((20 * x4) + x5) (gN G (gR G x0 67)) ∧ (((gI G (gR G x0 67) (Int32.toNatClampNeg ((20 * x4) + x5))) = 0 → wp E d M_X12_findLeft 310 [some (vr x0), some (vi x1), some (vi x2), some (vi x3), some (vi x4), some (vi x5)] [] G Q) ∧ (¬ ((gI G (gR G x0 67) (Int32.toNatClampNeg ((20 * x4) + x5))) = 0) → isO E G (gR G x0 68) 16 ∧ (vp_in ((20 * x4) + x5) (gN G (gR G x0 68)) ∧ ((¬ (gI G (gR G x0 68) (Int32.toNatClampNeg ((20 * x4) + x5))) = 0 → wp E d M_X12_findLeft 310 [some (vr x0), some (vi x1), some (vi x2), some (vi x3), some (vi x4), some (vi x5)] [] G Q) ∧ ((gI G (gR G x0 68) (Int32.toNatClampNeg ((20 * x4) + x5))) = 0 → wp E d M_X12_findLeft 306 [some (vr x0), some (vi x1), some (vi x2), some (vi x3), some (vi x4), some (vi x5)] [] G Q)))))))))))) : wp E d M_X12_findLeft 253 [some (vr x0), some (vi x1), some (vi x2), some (vi x3), some (vi x4), some (vi x5)] [] G Q := by
  refine wp_iload (pc := 253) d_X12_findLeft_253 rfl ?_
  refine wp_aload_n (pc := 255) d_X12_findLeft_255 rfl ?_
  obtain ⟨ho1, h⟩ := h
  refine wp_getR (pc := 256) d_X12_findLeft_256 fl_X12_64 (fun _ _ _ => rfl) ho1 ?_
  refine wp_bipush (pc := 259) (v := 12) d_X12_findLeft_259 rfl ?_
  refine wp_iload_n (pc := 261) d_X12_findLeft_261 rfl ?_
  refine wp_imul (pc := 262) d_X12_findLeft_262 ?_
  refine wp_iload (pc := 263) d_X12_findLeft_263 rfl ?_
  refine wp_iadd (pc := 265) d_X12_findLeft_265 ?_
  obtain ⟨ho2, h⟩ := h
  obtain ⟨hi3, h⟩ := h
  refine wp_iald (pc := 266) d_X12_findLeft_266 ho2 hi3 ?_
  refine wp_icmp_ge (pc := 267) (tgt := 368) d_X12_findLeft_267 (by decide) (fun hc => ?_) (fun hc => ?_)
  · have h := h.1 hc
    refine wp_iinc (pc := 368) (v := 1) (lv' := [some (vr _), some (vi _), some (vi _), some (vi _), some (vi _), some (vi _)]) d_X12_findLeft_368 (by decide) rfl rfl rfl ?_
    refine wp_goto (pc := 371) (tgt := 240) d_X12_findLeft_371 (by decide) ?_
    refine wp_sub ?_ h
    exact ⟨rfl, ⟨rfl, ⟨rfl, ⟨rfl, ⟨rfl, trivial⟩⟩⟩⟩⟩
  · have h := h.2 hc
    refine wp_iload_n (pc := 270) d_X12_findLeft_270 rfl ?_
    refine wp_if_ne (pc := 271) (tgt := 306) d_X12_findLeft_271 (by decide) (fun hc => ?_) (fun hc => ?_)
    · have h := h.1 hc
      refine wp_sub ?_ h
      exact ⟨rfl, ⟨rfl, ⟨rfl, ⟨rfl, ⟨rfl, ⟨rfl, trivial⟩⟩⟩⟩⟩⟩
    · have h := h.2 hc
      refine wp_aload_n (pc := 274) d_X12_findLeft_274 rfl ?_
      refine wp_getR (pc := 275) d_X12_findLeft_275 fl_X12_162 (fun _ _ _ => rfl) ho1 ?_
      refine wp_bipush (pc := 278) (v := 20) d_X12_findLeft_278 rfl ?_
      refine wp_iload (pc := 280) d_X12_findLeft_280 rfl ?_
      refine wp_imul (pc := 282) d_X12_findLeft_282 ?_
      refine wp_iload (pc := 283) d_X12_findLeft_283 rfl ?_
      refine wp_iadd (pc := 285) d_X12_findLeft_285 ?_
      obtain ⟨ho4, h⟩ := h
      obtain ⟨hi5, h⟩ := h
      refine wp_zald (pc := 286) d_X12_findLeft_286 ho4 hi5 ?_
      refine wp_if_eq (pc := 287) (tgt := 310) d_X12_findLeft_287 (by decide) (fun hc => ?_) (fun hc => ?_)
      · have h := h.1 hc
        refine wp_sub ?_ h
        exact ⟨rfl, ⟨rfl, ⟨rfl, ⟨rfl, ⟨rfl, ⟨rfl, trivial⟩⟩⟩⟩⟩⟩
      · have h := h.2 hc
        refine wp_aload_n (pc := 290) d_X12_findLeft_290 rfl ?_
        refine wp_getR (pc := 291) d_X12_findLeft_291 fl_X12_165 (fun _ _ _ => rfl) ho1 ?_
        refine wp_bipush (pc := 294) (v := 20) d_X12_findLeft_294 rfl ?_
        refine wp_iload (pc := 296) d_X12_findLeft_296 rfl ?_
        refine wp_imul (pc := 298) d_X12_findLeft_298 ?_
        refine wp_iload (pc := 299) d_X12_findLeft_299 rfl ?_
        refine wp_iadd (pc := 301) d_X12_findLeft_301 ?_
        obtain ⟨ho6, h⟩ := h
        obtain ⟨hi7, h⟩ := h
        refine wp_zald (pc := 302) d_X12_findLeft_302 ho6 hi7 ?_
        refine wp_if_ne (pc := 303) (tgt := 310) d_X12_findLeft_303 (by decide) (fun hc => ?_) (fun hc => ?_)
        · have h := h.1 hc
          refine wp_sub ?_ h
          exact ⟨rfl, ⟨rfl, ⟨rfl, ⟨rfl, ⟨rfl, ⟨rfl, trivial⟩⟩⟩⟩⟩⟩
        · have h := h.2 hc
          refine wp_sub ?_ h
          exact ⟨rfl, ⟨rfl, ⟨rfl, ⟨rfl, ⟨rfl, ⟨rfl, trivial⟩⟩⟩⟩⟩⟩
theorem v_X12_findLeft_306 {E : EE} {d : Nat} {Q : Option AV → AH → Prop} {x0 : Nat} {x1 : Int32} {x2 : Int32} {x3 : Int32} {x4 : Int32} {x5 : Int32} {G : AH} (h : wp E d M_X12_findLeft 311 [some (vr x0), some (vi x1), some (vi x2), some (vi x3), some (vi x4), some (vi x5)] [vi 1] G Q) : wp E d M_X12_findLeft 306 [some (vr x0), some (vi x1), some (vi x2), some (vi x3), some (vi x4), some (vi x5)] [] G Q := by
  refine wp_iconst (pc := 306) (v := 1) d_X12_findLeft_306 rfl ?_
  refine wp_goto (pc := 307) (tgt := 311) d_X12_findLeft_307 (by decide) ?_
  refine wp_sub ?_ h
  exact ⟨rfl, ⟨rfl, ⟨rfl, ⟨rfl, ⟨rfl, ⟨rfl, trivial⟩⟩⟩⟩⟩⟩
theorem v_X12_findLeft_310 {E : EE} {d : Nat} {Q : Option AV → AH → Prop} {x0 : Nat} {x1 : Int32} {x2 : Int32} {x3 : Int32} {x4 : Int32} {x5 : Int32} {G : AH} (h : wp E d M_X12_findLeft 311 [some (vr x0), some (vi x1), some (vi x2), some (vi x3), some (vi x4), some (vi x5)] [vi 0] G Q) : wp E d M_X12_findLeft 310 [some (vr x0), some (vi x1), some (vi x2), some (vi x3), some (vi x4), some (vi x5)] [] G Q := by
  refine wp_iconst (pc := 310) (v := 0) d_X12_findLeft_310 rfl ?_
  refine wp_sub ?_ h
  exact ⟨rfl, ⟨rfl, ⟨rfl, ⟨rfl, ⟨rfl, ⟨rfl, trivial⟩⟩⟩⟩⟩⟩
theorem v_X12_findLeft_311 {E : EE} {d : Nat} {Q : Option AV → AH → Prop} {x0 : Nat} {x1 : Int32} {x2 : Int32} {x3 : Int32} {x4 : Int32} {x5 : Int32} {t0 : Int32} {G : AH} (h : isO E G x0 12 ∧ (isO E G (gR G x0 67) 16 ∧ (vp_in ((20 * x4) + x5) (gN G (gR G x0 67)) ∧ (((gI G (gR G x0 67) (Int32.toNatClampNeg ((20 * x4) + x5))) = 0 → wp E d M_X12_findLeft 360 [some (vr x0), some (vi x1), some (vi t0), some (vi x3), some (vi x4), some (vi x5)] [vi ((20 * x4) + x5), vr (gR G x0 67)] G Q) ∧ (¬ ((gI G (gR G x0 67) (Int32.toNatClampNeg ((20 * x4) + x5))) = 0) → isO E G (gR G x0 68) 16 ∧ (vp_in ((20 * x4) + x5) (gN G (gR G x0 68)) ∧ (((gI G (gR G x0 68) (Int32.toNatClampNeg ((20 * x4) + x5))) = 0 → wp E d M_X12_findLeft 360 [some (vr x0), some (vi x1), some (vi t0), some (vi x3), some (vi x4), some (vi x5)] [vi ((20 * x4) + x5), vr (gR G x0 67)] G Q) ∧ (¬ ((gI G (gR G x0 68) (Int32.toNatClampNeg ((20 * x4) + x5))) = 0) → wp E d M_X12_findLeft 361 [some (vr x0), some (vi x1), some (vi t0), some (vi x3), some (vi x4), some (vi x5)] [vi 1, vi ((20 * x4) + x5), vr (gR G x0 67)] G Q)))))))) : wp E d M_X12_findLeft 311 [some (vr x0), some (vi x1), some (vi x2), some (vi x3), some (vi x4), some (vi x5)] [vi t0] G Q := by
  refine wp_istore_n (pc := 311) (lv' := [some (vr _), some (vi _), some (vi _), some (vi _), some (vi _), some (vi _)]) d_X12_findLeft_311 (by decide) rfl ?_
  refine wp_aload_n (pc := 312) d_X12_findLeft_312 rfl ?_
  obtain ⟨ho1, h⟩ := h
  refine wp_getR (pc := 313) d_X12_findLeft_313 fl_X12_162 (fun _ _ _ => rfl) ho1 ?_
  refine wp_bipush (pc := 316) (v := 20) d_X12_findLeft_316 rfl ?_
  refine wp_iload (pc := 318) d_X12_findLeft_318 rfl ?_
  refine wp_imul (pc := 320) d_X12_findLeft_320 ?_
  refine wp_iload (pc := 321) d_X12_findLeft_321 rfl ?_
  refine wp_iadd (pc := 323) d_X12_findLeft_323 ?_
  refine wp_aload_n (pc := 324) d_X12_findLeft_324 rfl ?_
  refine wp_getR (pc := 325) d_X12_findLeft_325 fl_X12_162 (fun _ _ _ => rfl) ho1 ?_
  refine wp_bipush (pc := 328) (v := 20) d_X12_findLeft_328 rfl ?_
  refine wp_iload (pc := 330) d_X12_findLeft_330 rfl ?_
  refine wp_imul (pc := 332) d_X12_findLeft_332 ?_
  refine wp_iload (pc := 333) d_X12_findLeft_333 rfl ?_
  refine wp_iadd (pc := 335) d_X12_findLeft_335 ?_
  obtain ⟨ho2, h⟩ := h
  obtain ⟨hi3, h⟩ := h
  refine wp_zald (pc := 336) d_X12_findLeft_336 ho2 hi3 ?_
  refine wp_if_eq (pc := 337) (tgt := 360) d_X12_findLeft_337 (by decide) (fun hc => ?_) (fun hc => ?_)
  · have h := h.1 hc
    refine wp_sub ?_ h
    exact ⟨rfl, ⟨rfl, ⟨rfl, ⟨rfl, ⟨rfl, ⟨rfl, trivial⟩⟩⟩⟩⟩⟩
  · have h := h.2 hc
    refine wp_aload_n (pc := 340) d_X12_findLeft_340 rfl ?_
    refine wp_getR (pc := 341) d_X12_findLeft_341 fl_X12_165 (fun _ _ _ => rfl) ho1 ?_
    refine wp_bipush (pc := 344) (v := 20) d_X12_findLeft_344 rfl ?_
    refine wp_iload (pc := 346) d_X12_findLeft_346 rfl ?_
    refine wp_imul (pc := 348) d_X12_findLeft_348 ?_
    refine wp_iload (pc := 349) d_X12_findLeft_349 rfl ?_
    refine wp_iadd (pc := 351) d_X12_findLeft_351 ?_
    obtain ⟨ho4, h⟩ := h
    obtain ⟨hi5, h⟩ := h
    refine wp_zald (pc := 352) d_X12_findLeft_352 ho4 hi5 ?_
    refine wp_if_eq (pc := 353) (tgt := 360) d_X12_findLeft_353 (by decide) (fun hc => ?_) (fun hc => ?_)
    · have h := h.1 hc
      refine wp_sub ?_ h
      exact ⟨rfl, ⟨rfl, ⟨rfl, ⟨rfl, ⟨rfl, ⟨rfl, trivial⟩⟩⟩⟩⟩⟩
    · have h := h.2 hc
      refine wp_iconst (pc := 356) (v := 1) d_X12_findLeft_356 rfl ?_
      refine wp_goto (pc := 357) (tgt := 361) d_X12_findLeft_357 (by decide) ?_
      refine wp_sub ?_ h
      exact ⟨rfl, ⟨rfl, ⟨rfl, ⟨rfl, ⟨rfl, ⟨rfl, trivial⟩⟩⟩⟩⟩⟩
theorem v_X12_findLeft_360 {E : EE} {d : Nat} {Q : Option AV → AH → Prop} {x0 : Nat} {x1 : Int32} {x2 : Int32} {x3 : Int32} {x4 : Int32} {x5 : Int32} {t0 : Nat} {t1 : Int32} {G : AH} (h : wp E d M_X12_findLeft 361 [some (vr x0), some (vi x1), some (vi x2), some (vi x3), some (vi x4), some (vi x5)] [vi 0, vi t1, vr t0] G Q) : wp E d M_X12_findLeft 360 [some (vr x0), some (vi x1), some (vi x2), some (vi x3), some (vi x4), some (vi x5)] [vi t1, vr t0] G Q := by
  refine wp_iconst (pc := 360) (v := 0) d_X12_findLeft_360 rfl ?_
  refine wp_sub ?_ h
  exact ⟨rfl, ⟨rfl, ⟨rfl, ⟨rfl, ⟨rfl, ⟨rfl, trivial⟩⟩⟩⟩⟩⟩
theorem v_X12_findLeft_361 {E : EE} {d : Nat} {Q : Option AV → AH → Prop} {x0 : Nat} {x1 : Int32} {x2 : Int32} {x3 : Int32} {x4 : Int32} {x5 : Int32} {t0 : Nat} {t1 : Int32} {t2 : Int32} {G : AH} (h : isO E G t0 16 ∧ (vp_in t1 (gN G t0) ∧ (wp E d M_X12_findLeft 253 [some (vr x0), some (vi x1), some (vi x2), some (vi x3), some (vi x4), some (vi (x5 + 1))] [] (sI G t0 (Int32.toNatClampNeg t1) (nz t2)) Q))) : wp E d M_X12_findLeft 361 [some (vr x0), some (vi x1), some (vi x2), some (vi x3), some (vi x4), some (vi x5)] [vi t2, vi t1, vr t0] G Q := by
  obtain ⟨ho1, h⟩ := h
  obtain ⟨hi2, h⟩ := h
  refine wp_zast (pc := 361) d_X12_findLeft_361 ho1 hi2 ?_
  refine wp_iinc (pc := 362) (v := 1) (lv' := [some (vr _), some (vi _), some (vi _), some (vi _), some (vi _), some (vi _)]) d_X12_findLeft_362 (by decide) rfl rfl rfl ?_
  refine wp_goto (pc := 365) (tgt := 253) d_X12_findLeft_365 (by decide) ?_
  refine wp_sub ?_ h
  exact ⟨rfl, ⟨rfl, ⟨rfl, ⟨rfl, ⟨rfl, ⟨rfl, trivial⟩⟩⟩⟩⟩⟩
theorem v_X12_findLeft_374 {E : EE} {d : Nat} {Q : Option AV → AH → Prop} {x0 : Nat} {x1 : Int32} {x2 : Int32} {x3 : Int32} {G : AH} (h : wp E d M_X12_findLeft 100 [some (vr x0), some (vi x1), some (vi x2), some (vi (x3 + 1)), none, none] [] G Q) : wp E d M_X12_findLeft 374 [some (vr x0), some (vi x1), some (vi x2), some (vi x3), none, none] [] G Q := by
  refine wp_iinc (pc := 374) (v := 1) (lv' := [some (vr _), some (vi _), some (vi _), some (vi _), none, none]) d_X12_findLeft_374 (by decide) rfl rfl rfl ?_
  refine wp_goto (pc := 377) (tgt := 100) d_X12_findLeft_377 (by decide) ?_
  refine wp_sub ?_ h
  exact ⟨rfl, ⟨rfl, ⟨rfl, ⟨rfl, trivial⟩⟩⟩⟩
theorem d_X12_isOfLeft_0 : decode prog_14_method_110_code 0 = .ok (.iconst 1, 1) := by decide +kernel
theorem d_X12_isOfLeft_1 : decode prog_14_method_110_code 1 = .ok (.istore_n 3, 1) := by decide +kernel
theorem d_X12_isOfLeft_2 : decode prog_14_method_110_code 2 = .ok (.iconst 0, 1) := by decide +kernel
theorem d_X12_isOfLeft_3 : decode prog_14_method_110_code 3 = .ok (.istore 4, 2) := by decide +kernel
theorem d_X12_isOfLeft_5 : decode prog_14_method_110_code 5 = .ok (.iload_n 3, 1) := by decide +kernel
theorem d_X12_isOfLeft_6 : decode prog_14_method_110_code 6 = .ok (.ifCond .eq 39, 3) := by decide +kernel
theorem d_X12_isOfLeft_9 : decode prog_14_method_110_code 9 = .ok (.iload 4, 2) := by decide +kernel
theorem d_X12_isOfLeft_11 : decode prog_14_method_110_code 11 = .ok (.aload_n 0, 1) := by decide +kernel
theorem d_X12_isOfLeft_12 : decode prog_14_method_110_code 12 = .ok (.iload_n 1, 1) := by decide +kernel
theorem d_X12_isOfLeft_13 : decode prog_14_method_110_code 13 = .ok (.invokevirtual 456, 3) := by decide +kernel
theorem d_X12_isOfLeft_16 : decode prog_14_method_110_code 16 = .ok (.if_icmp .ge 29, 3) := by decide +kernel
theorem d_X12_isOfLeft_19 : decode prog_14_method_110_code 19 = .ok (.aload_n 0, 1) := by decide +kernel
theorem d_X12_isOfLeft_20 : decode prog_14_method_110_code 20 = .ok (.getfield 162, 3) := by decide +kernel
theorem d_X12_isOfLeft_23 : decode prog_14_method_110_code 23 = .ok (.bipush 20, 2) := by decide +kernel
theorem d_X12_isOfLeft_25 : decode prog_14_method_110_code 25 = .ok (.iload 4, 2) := by decide +kernel
theorem d_X12_isOfLeft_27 : decode prog_14_method_110_code 27 = .ok (.imul, 1) := by decide +kernel
theorem d_X12_isOfLeft_28 : decode prog_14_method_110_code 28 = .ok (.aload_n 0, 1) := by decide +kernel
theorem d_X12_isOfLeft_29 : decode prog_14_method_110_code 29 = .ok (.iload_n 1, 1) := by decide +kernel
theorem d_X12_isOfLeft_30 : decode prog_14_method_110_code 30 = .ok (.iload_n 2, 1) := by decide +kernel
theorem d_X12_isOfLeft_31 : decode prog_14_method_110_code 31 = .ok (.iload 4, 2) := by decide +kernel
theorem d_X12_isOfLeft_33 : decode prog_14_method_110_code 33 = .ok (.invokevirtual 537, 3) := by decide +kernel
theorem d_X12_isOfLeft_36 : decode prog_14_method_110_code 36 = .ok (.iadd, 1) := by decide +kernel
theorem d_X12_isOfLeft_37 : decode prog_14_method_110_code 37 = .ok (.baload, 1) := by decide +kernel
theorem d_X12_isOfLeft_38 : decode prog_14_method_110_code 38 = .ok (.istore_n 3, 1) := by decide +kernel
theorem d_X12_isOfLeft_39 : decode prog_14_method_110_code 39 = .ok (.iinc 4 1, 3) := by decide +kernel
theorem d_X12_isOfLeft_42 : decode prog_14_method_110_code 42 = .ok (.goto (-37), 3) := by decide +kernel
theorem d_X12_isOfLeft_45 : decode prog_14_method_110_code 45 = .ok (.iload_n 3, 1) := by decide +kernel
theorem d_X12_isOfLeft_46 : decode prog_14_method_110_code 46 = .ok (.ireturn, 1) := by decide +kernel
theorem v_X12_isOfLeft_0 {E : EE} {d : Nat} {Q : Option AV → AH → Prop} {x0 : Nat} {x1 : Int32} {x2 : Int32} {G : AH} (h : wp E d M_X12_isOfLeft 5 [some (vr x0), some (vi x1), some (vi x2), some (vi 1), some (vi 0)] [] G Q) : wp E d M_X12_isOfLeft 0 [some (vr x0), some (vi x1), some (vi x2), none, none] [] G Q := by
  refine wp_iconst (pc := 0) (v := 1) d_X12_isOfLeft_0 rfl ?_
  refine wp_istore_n (pc := 1) (lv' := [some (vr _), some (vi _), some (vi _), some (vi _), none]) d_X12_isOfLeft_1 (by decide) rfl ?_
  refine wp_iconst (pc := 2) (v := 0) d_X12_isOfLeft_2 rfl ?_
  refine wp_istore (pc := 3) (lv' := [some (vr _), some (vi _), some (vi _), some (vi _), some (vi _)]) d_X12_isOfLeft_3 (by decide) rfl ?_
  refine wp_sub ?_ h
  exact ⟨rfl, ⟨rfl, ⟨rfl, ⟨rfl, ⟨rfl, trivial⟩⟩⟩⟩⟩
theorem v_X12_isOfLeft_5 {E : EE} {d : Nat} {Q : Option AV → AH → Prop} {x0 : Nat} {x1 : Int32} {x2 : Int32} {x3 : Int32} {x4 : Int32} {G : AH} (h0 : 0 < d) (h : (x3 = 0 → okI .boolean x3 ∧ Q (some (vi x3)) G) ∧ (¬ (x3 = 0) → isO E G x0 12 ∧ (wpI E (d - 1) M_X12_vars [vr x0, vi x1] G (fun r1 G2 => (r1 ≤ x4 → okI .boolean x3 ∧ Q (some (vi x3)) G2) ∧ (¬ (r1 ≤ x4) → isO E G2 x0 12 ∧ (wpI E (d - 1) M_X12_place [vr x0, vi x1, vi x2, vi x4] G2 (fun r4 G5 => isO E G5 (gR G2 x0 67) 16 ∧ (vp_in ((20 * x4) + r4) (gN G5 (gR G2 x0 67)) ∧ (wp E d M_X12_isOfLeft 5 [some (vr x0), some (vi x1), some (vi x2), some (vi (gI G5 (gR G2 x0 67) (Int32.toNatClampNeg ((20 * x4) + r4)))), some (vi (x4 + 1))] [] G5 Q))))))))) : wp E d M_X12_isOfLeft 5 [some (vr x0), some (vi x1), some (vi x2), some (vi x3), some (vi x4)] [] G Q := by
  refine wp_iload_n (pc := 5) d_X12_isOfLeft_5 rfl ?_
  refine wp_if_eq (pc := 6) (tgt := 45) d_X12_isOfLeft_6 (by decide) (fun hc => ?_) (fun hc => ?_)
  · have h := h.1 hc
    refine wp_iload_n (pc := 45) d_X12_isOfLeft_45 rfl ?_
    exact wp_zret (pc := 46) d_X12_isOfLeft_46 rfl h.1.1 h.2
  · have h := h.2 hc
    refine wp_iload (pc := 9) d_X12_isOfLeft_9 rfl ?_
    refine wp_aload_n (pc := 11) d_X12_isOfLeft_11 rfl ?_
    refine wp_iload_n (pc := 12) d_X12_isOfLeft_12 rfl ?_
    obtain ⟨ho8, h⟩ := h
    refine wp_invV (pc := 13) (N := M_X12_vars) (As := [vi _]) (rest := [vi _]) (r := (cn_12, ct_12, 95)) d_X12_isOfLeft_13 ml_X12_456 mk_X12_vars mv_X12_vars h0 ho8 rfl rfl (Nat.le_of_ble_eq_true rfl) ?_
    refine wpM.mono h (fun rr G2 hr => ?_)
    obtain ⟨r1, rfl, h⟩ := hr
    show wp E d M_X12_isOfLeft 16 [some (vr _), some (vi _), some (vi _), some (vi _), some (vi _)] [vi _, vi _] G2 Q
    refine wp_icmp_ge (pc := 16) (tgt := 45) d_X12_isOfLeft_16 (by decide) (fun hc => ?_) (fun hc => ?_)
    · have h := h.1 hc
      refine wp_iload_n (pc := 45) d_X12_isOfLeft_45 rfl ?_
      exact wp_zret (pc := 46) d_X12_isOfLeft_46 rfl h.1.1 h.2
    · have h := h.2 hc
      refine wp_aload_n (pc := 19) d_X12_isOfLeft_19 rfl ?_
      obtain ⟨ho3, h⟩ := h
      refine wp_getR (pc := 20) d_X12_isOfLeft_20 fl_X12_162 (fun _ _ _ => rfl) ho3 ?_
      refine wp_bipush (pc := 23) (v := 20) d_X12_isOfLeft_23 rfl ?_
      refine wp_iload (pc := 25) d_X12_isOfLeft_25 rfl ?_
      refine wp_imul (pc := 27) d_X12_isOfLeft_27 ?_
      refine wp_aload_n (pc := 28) d_X12_isOfLeft_28 rfl ?_
      refine wp_iload_n (pc := 29) d_X12_isOfLeft_29 rfl ?_
      refine wp_iload_n (pc := 30) d_X12_isOfLeft_30 rfl ?_
      refine wp_iload (pc := 31) d_X12_isOfLeft_31 rfl ?_
      refine wp_invV (pc := 33) (N := M_X12_place) (As := [vi _, vi _, vi _]) (rest := [vi _, vr _]) (r := (cn_12, ct_12, 95)) d_X12_isOfLeft_33 ml_X12_537 mk_X12_place mv_X12_place h0 ho3 rfl rfl (Nat.le_of_ble_eq_true rfl) ?_
      refine wpM.mono h (fun rr G5 hr => ?_)
      obtain ⟨r4, rfl, h⟩ := hr
      show wp E d M_X12_isOfLeft 36 [some (vr _), some (vi _), some (vi _), some (vi _), some (vi _)] [vi _, vi _, vr _] G5 Q
      refine wp_iadd (pc := 36) d_X12_isOfLeft_36 ?_
      obtain ⟨ho6, h⟩ := h
      obtain ⟨hi7, h⟩ := h
      refine wp_zald (pc := 37) d_X12_isOfLeft_37 ho6 hi7 ?_
      refine wp_istore_n (pc := 38) (lv' := [some (vr _), some (vi _), some (vi _), some (vi _), some (vi _)]) d_X12_isOfLeft_38 (by decide) rfl ?_
      refine wp_iinc (pc := 39) (v := 1) (lv' := [some (vr _), some (vi _), some (vi _), some (vi _), some (vi _)]) d_X12_isOfLeft_39 (by decide) rfl rfl rfl ?_
      refine wp_goto (pc := 42) (tgt := 5) d_X12_isOfLeft_42 (by decide) ?_
      refine wp_sub ?_ h
      exact ⟨rfl, ⟨rfl, ⟨rfl, ⟨rfl, ⟨rfl, trivial⟩⟩⟩⟩⟩
theorem d_X12_reach_0 : decode prog_14_method_112_code 0 = .ok (.aload_n 0, 1) := by decide +kernel
theorem d_X12_reach_1 : decode prog_14_method_112_code 1 = .ok (.iload_n 1, 1) := by decide +kernel
theorem d_X12_reach_2 : decode prog_14_method_112_code 2 = .ok (.invokevirtual 453, 3) := by decide +kernel
theorem d_X12_reach_5 : decode prog_14_method_112_code 5 = .ok (.ifCond .ne 5, 3) := by decide +kernel
theorem d_X12_reach_8 : decode prog_14_method_112_code 8 = .ok (.iconst (-1), 1) := by decide +kernel
theorem d_X12_reach_9 : decode prog_14_method_112_code 9 = .ok (.ireturn, 1) := by decide +kernel
theorem d_X12_reach_10 : decode prog_14_method_112_code 10 = .ok (.aload_n 0, 1) := by decide +kernel
theorem d_X12_reach_11 : decode prog_14_method_112_code 11 = .ok (.iload_n 1, 1) := by decide +kernel
theorem d_X12_reach_12 : decode prog_14_method_112_code 12 = .ok (.invokevirtual 589, 3) := by decide +kernel
theorem d_X12_reach_15 : decode prog_14_method_112_code 15 = .ok (.iconst 0, 1) := by decide +kernel
theorem d_X12_reach_16 : decode prog_14_method_112_code 16 = .ok (.istore_n 2, 1) := by decide +kernel
theorem d_X12_reach_17 : decode prog_14_method_112_code 17 = .ok (.iconst 0, 1) := by decide +kernel
theorem d_X12_reach_18 : decode prog_14_method_112_code 18 = .ok (.istore_n 3, 1) := by decide +kernel
theorem d_X12_reach_19 : decode prog_14_method_112_code 19 = .ok (.iload_n 3, 1) := by decide +kernel
theorem d_X12_reach_20 : decode prog_14_method_112_code 20 = .ok (.aload_n 0, 1) := by decide +kernel
theorem d_X12_reach_21 : decode prog_14_method_112_code 21 = .ok (.iload_n 1, 1) := by decide +kernel
theorem d_X12_reach_22 : decode prog_14_method_112_code 22 = .ok (.invokevirtual 456, 3) := by decide +kernel
theorem d_X12_reach_25 : decode prog_14_method_112_code 25 = .ok (.if_icmp .ge 57, 3) := by decide +kernel
theorem d_X12_reach_28 : decode prog_14_method_112_code 28 = .ok (.iconst 0, 1) := by decide +kernel
theorem d_X12_reach_29 : decode prog_14_method_112_code 29 = .ok (.istore 4, 2) := by decide +kernel
theorem d_X12_reach_31 : decode prog_14_method_112_code 31 = .ok (.iload 4, 2) := by decide +kernel
theorem d_X12_reach_33 : decode prog_14_method_112_code 33 = .ok (.aload_n 0, 1) := by decide +kernel
theorem d_X12_reach_34 : decode prog_14_method_112_code 34 = .ok (.getfield 64, 3) := by decide +kernel
theorem d_X12_reach_37 : decode prog_14_method_112_code 37 = .ok (.bipush 12, 2) := by decide +kernel
theorem d_X12_reach_39 : decode prog_14_method_112_code 39 = .ok (.iload_n 1, 1) := by decide +kernel
theorem d_X12_reach_40 : decode prog_14_method_112_code 40 = .ok (.imul, 1) := by decide +kernel
theorem d_X12_reach_41 : decode prog_14_method_112_code 41 = .ok (.iload_n 3, 1) := by decide +kernel
theorem d_X12_reach_42 : decode prog_14_method_112_code 42 = .ok (.iadd, 1) := by decide +kernel
theorem d_X12_reach_43 : decode prog_14_method_112_code 43 = .ok (.iaload, 1) := by decide +kernel
theorem d_X12_reach_44 : decode prog_14_method_112_code 44 = .ok (.if_icmp .ge 32, 3) := by decide +kernel
theorem d_X12_reach_47 : decode prog_14_method_112_code 47 = .ok (.iload_n 2, 1) := by decide +kernel
theorem d_X12_reach_48 : decode prog_14_method_112_code 48 = .ok (.aload_n 0, 1) := by decide +kernel
theorem d_X12_reach_49 : decode prog_14_method_112_code 49 = .ok (.getfield 162, 3) := by decide +kernel
theorem d_X12_reach_52 : decode prog_14_method_112_code 52 = .ok (.bipush 20, 2) := by decide +kernel
theorem d_X12_reach_54 : decode prog_14_method_112_code 54 = .ok (.iload_n 3, 1) := by decide +kernel
theorem d_X12_reach_55 : decode prog_14_method_112_code 55 = .ok (.imul, 1) := by decide +kernel
theorem d_X12_reach_56 : decode prog_14_method_112_code 56 = .ok (.iload 4, 2) := by decide +kernel
theorem d_X12_reach_58 : decode prog_14_method_112_code 58 = .ok (.iadd, 1) := by decide +kernel
theorem d_X12_reach_59 : decode prog_14_method_112_code 59 = .ok (.baload, 1) := by decide +kernel
theorem d_X12_reach_60 : decode prog_14_method_112_code 60 = .ok (.ifCond .eq 7, 3) := by decide +kernel
theorem d_X12_reach_63 : decode prog_14_method_112_code 63 = .ok (.iconst 1, 1) := by decide +kernel
theorem d_X12_reach_64 : decode prog_14_method_112_code 64 = .ok (.goto 4, 3) := by decide +kernel
theorem d_X12_reach_67 : decode prog_14_method_112_code 67 = .ok (.iconst 0, 1) := by decide +kernel
theorem d_X12_reach_68 : decode prog_14_method_112_code 68 = .ok (.iadd, 1) := by decide +kernel
theorem d_X12_reach_69 : decode prog_14_method_112_code 69 = .ok (.istore_n 2, 1) := by decide +kernel
theorem d_X12_reach_70 : decode prog_14_method_112_code 70 = .ok (.iinc 4 1, 3) := by decide +kernel
theorem d_X12_reach_73 : decode prog_14_method_112_code 73 = .ok (.goto (-42), 3) := by decide +kernel
theorem d_X12_reach_76 : decode prog_14_method_112_code 76 = .ok (.iinc 3 1, 3) := by decide +kernel
theorem d_X12_reach_79 : decode prog_14_method_112_code 79 = .ok (.goto (-60), 3) := by decide +kernel
theorem d_X12_reach_82 : decode prog_14_method_112_code 82 = .ok (.iload_n 2, 1) := by decide +kernel
theorem d_X12_reach_83 : decode prog_14_method_112_code 83 = .ok (.ireturn, 1) := by decide +kernel
theorem v_X12_reach_0 {E : EE} {d : Nat} {Q : Option AV → AH → Prop} {x0 : Nat} {x1 : Int32} {G : AH} (h0 : 0 < d) (h : isO E G x0 12 ∧ (wpI E (d - 1) M_X12_isProblem [vr x0, vi x1] G (fun r1 G2 => (¬ r1 = 0 → isO E G2 x0 12 ∧ (wpV E (d - 1) M_X12_findLeft [vr x0, vi x1] G2 (fun G3 => wp E d M_X12_reach 19 [some (vr x0), some (vi x1), some (vi 0), some (vi 0), none] [] G3 Q))) ∧ (r1 = 0 → Q (some (vi (-1))) G2)))) : wp E d M_X12_reach 0 [some (vr x0), some (vi x1), none, none, none] [] G Q := by
  refine wp_aload_n (pc := 0) d_X12_reach_0 rfl ?_
  refine wp_iload_n (pc := 1) d_X12_reach_1 rfl ?_
  obtain ⟨ho5, h⟩ := h
  refine wp_invV (pc := 2) (N := M_X12_isProblem) (As := [vi _]) (rest := []) (r := (cn_12, ct_12, 95)) d_X12_reach_2 ml_X12_453 mk_X12_isProblem mv_X12_isProblem h0 ho5 rfl rfl (Nat.le_of_ble_eq_true rfl) ?_
  refine wpM.mono h (fun rr G2 hr => ?_)
  obtain ⟨r1, rfl, h⟩ := hr
  show wp E d M_X12_reach 5 [some (vr _), some (vi _), none, none, none] [vi _] G2 Q
  refine wp_if_ne (pc := 5) (tgt := 10) d_X12_reach_5 (by decide) (fun hc => ?_) (fun hc => ?_)
  · have h := h.1 hc
    refine wp_aload_n (pc := 10) d_X12_reach_10 rfl ?_
    refine wp_iload_n (pc := 11) d_X12_reach_11 rfl ?_
    obtain ⟨ho4, h⟩ := h
    refine wp_invV (pc := 12) (N := M_X12_findLeft) (As := [vi _]) (rest := []) (r := (cn_12, ct_12, 95)) d_X12_reach_12 ml_X12_589 mk_X12_findLeft mv_X12_findLeft h0 ho4 rfl rfl (Nat.le_of_ble_eq_true rfl) ?_
    refine wpM.mono h (fun rr G3 hr => ?_)
    obtain ⟨rfl, h⟩ := hr
    show wp E d M_X12_reach 15 [some (vr _), some (vi _), none, none, none] [] G3 Q
    refine wp_iconst (pc := 15) (v := 0) d_X12_reach_15 rfl ?_
    refine wp_istore_n (pc := 16) (lv' := [some (vr _), some (vi _), some (vi _), none, none]) d_X12_reach_16 (by decide) rfl ?_
    refine wp_iconst (pc := 17) (v := 0) d_X12_reach_17 rfl ?_
    refine wp_istore_n (pc := 18) (lv' := [some (vr _), some (vi _), some (vi _), some (vi _), none]) d_X12_reach_18 (by decide) rfl ?_
    refine wp_sub ?_ h
    exact ⟨rfl, ⟨rfl, ⟨rfl, ⟨rfl, trivial⟩⟩⟩⟩
  · have h := h.2 hc
    refine wp_iconst (pc := 8) (v := (-1)) d_X12_reach_8 rfl ?_
    exact wp_iret (pc := 9) d_X12_reach_9 rfl h
theorem v_X12_reach_19 {E : EE} {d : Nat} {Q : Option AV → AH → Prop} {x0 : Nat} {x1 : Int32} {x2 : Int32} {x3 : Int32} {G : AH} (h0 : 0 < d) (h : isO E G x0 12 ∧ (wpI E (d - 1) M_X12_vars [vr x0, vi x1] G (fun r1 G2 => (r1 ≤ x3 → Q (some (vi x2)) G2) ∧ (¬ (r1 ≤ x3) → wp E d M_X12_reach 31 [some (vr x0), some (vi x1), some (vi x2), some (vi x3), some (vi 0)] [] G2 Q)))) : wp E d M_X12_reach 19 [some (vr x0), some (vi x1), some (vi x2), some (vi x3), none] [] G Q := by
  refine wp_iload_n (pc := 19) d_X12_reach_19 rfl ?_
  refine wp_aload_n (pc := 20) d_X12_reach_20 rfl ?_
  refine wp_iload_n (pc := 21) d_X12_reach_21 rfl ?_
  obtain ⟨ho3, h⟩ := h
  refine wp_invV (pc := 22) (N := M_X12_vars) (As := [vi _]) (rest := [vi _]) (r := (cn_12, ct_12, 95)) d_X12_reach_22 ml_X12_456 mk_X12_vars mv_X12_vars h0 ho3 rfl rfl (Nat.le_of_ble_eq_true rfl) ?_
  refine wpM.mono h (fun rr G2 hr => ?_)
  obtain ⟨r1, rfl, h⟩ := hr
  show wp E d M_X12_reach 25 [some (vr _), some (vi _), some (vi _), some (vi _), none] [vi _, vi _] G2 Q
  refine wp_icmp_ge (pc := 25) (tgt := 82) d_X12_reach_25 (by decide) (fun hc => ?_) (fun hc => ?_)
  · have h := h.1 hc
    refine wp_iload_n (pc := 82) d_X12_reach_82 rfl ?_
    exact wp_iret (pc := 83) d_X12_reach_83 rfl h
  · have h := h.2 hc
    refine wp_iconst (pc := 28) (v := 0) d_X12_reach_28 rfl ?_
    refine wp_istore (pc := 29) (lv' := [some (vr _), some (vi _), some (vi _), some (vi _), some (vi _)]) d_X12_reach_29 (by decide) rfl ?_
    refine wp_sub ?_ h
    exact ⟨rfl, ⟨rfl, ⟨rfl, ⟨rfl, ⟨rfl, trivial⟩⟩⟩⟩⟩
theorem v_X12_reach_31 {E : EE} {d : Nat} {Q : Option AV → AH → Prop} {x0 : Nat} {x1 : Int32} {x2 : Int32} {x3 : Int32} {x4 : Int32} {G : AH} (h : isO E G x0 12 ∧ (isO E G (gR G x0 19) 14 ∧ (vp_in ((12 * x1) + x3) (gN G (gR G x0 19)) ∧ (((gI G (gR G x0 19) (Int32.toNatClampNeg ((12 * x1) + x3))) ≤ x4 → wp E d M_X12_reach 19 [some (vr x0), some (vi x1), some (vi x2), some (vi (x3 + 1)), none] [] G Q) ∧ (¬ ((gI G (gR G x0 19) (Int32.toNatClampNeg ((12 * x1) + x3))) ≤ x4) → isO E G (gR G x0 67) 16 ∧ (vp_in ((20 * x3) + x4) (gN G (gR G x0 67)) ∧ (((gI G (gR G x0 67) (Int32.toNatClampNeg ((20 * x3) + x4))) = 0 → wp E d M_X12_reach 68 [some (vr x0), some (vi x1), some (vi x2), some (vi x3), some (vi x4)] [vi 0, vi x2] G Q) ∧ (¬ ((gI G (gR G x0 67) (Int32.toNatClampNeg ((20 * x3) + x4))) = 0) → wp E d M_X12_reach 68 [some (vr x0), some (vi x1), some (vi x2), some (vi x3), some (vi x4)] [vi 1, vi x2] G Q)))))))) : wp E d M_X12_reach 31 [some (vr x0), some (vi x1), some (vi x2), some (vi x3), some (vi x4)] [] G Q := by
  refine wp_iload (pc := 31) d_X12_reach_31 rfl ?_
  refine wp_aload_n (pc := 33) d_X12_reach_33 rfl ?_
  obtain ⟨ho1, h⟩ := h
  refine wp_getR (pc := 34) d_X12_reach_34 fl_X12_64 (fun _ _ _ => rfl) ho1 ?_
  refine wp_bipush (pc := 37) (v := 12) d_X12_reach_37 rfl ?_
  refine wp_iload_n (pc := 39) d_X12_reach_39 rfl ?_
  refine wp_imul (pc := 40) d_X12_reach_40 ?_
  refine wp_iload_n (pc := 41) d_X12_reach_41 rfl ?_
  refine wp_iadd (pc := 42) d_X12_reach_42 ?_
  obtain ⟨ho2, h⟩ := h
  obtain ⟨hi3, h⟩ := h
  refine wp_iald (pc := 43) d_X12_reach_43 ho2 hi3 ?_
  refine wp_icmp_ge (pc := 44) (tgt := 76) d_X12_reach_44 (by decide) (fun hc => ?_) (fun hc => ?_)
  · have h := h.1 hc
    refine wp_iinc (pc := 76) (v := 1) (lv' := [some (vr _), some (vi _), some (vi _), some (vi _), some (vi _)]) d_X12_reach_76 (by decide) rfl rfl rfl ?_
    refine wp_goto (pc := 79) (tgt := 19) d_X12_reach_79 (by decide) ?_
    refine wp_sub ?_ h
    exact ⟨rfl, ⟨rfl, ⟨rfl, ⟨rfl, trivial⟩⟩⟩⟩
  · have h := h.2 hc
    refine wp_iload_n (pc := 47) d_X12_reach_47 rfl ?_
    refine wp_aload_n (pc := 48) d_X12_reach_48 rfl ?_
    refine wp_getR (pc := 49) d_X12_reach_49 fl_X12_162 (fun _ _ _ => rfl) ho1 ?_
    refine wp_bipush (pc := 52) (v := 20) d_X12_reach_52 rfl ?_
    refine wp_iload_n (pc := 54) d_X12_reach_54 rfl ?_
    refine wp_imul (pc := 55) d_X12_reach_55 ?_
    refine wp_iload (pc := 56) d_X12_reach_56 rfl ?_
    refine wp_iadd (pc := 58) d_X12_reach_58 ?_
    obtain ⟨ho4, h⟩ := h
    obtain ⟨hi5, h⟩ := h
    refine wp_zald (pc := 59) d_X12_reach_59 ho4 hi5 ?_
    refine wp_if_eq (pc := 60) (tgt := 67) d_X12_reach_60 (by decide) (fun hc => ?_) (fun hc => ?_)
    · have h := h.1 hc
      refine wp_iconst (pc := 67) (v := 0) d_X12_reach_67 rfl ?_
      refine wp_sub ?_ h
      exact ⟨rfl, ⟨rfl, ⟨rfl, ⟨rfl, ⟨rfl, trivial⟩⟩⟩⟩⟩
    · have h := h.2 hc
      refine wp_iconst (pc := 63) (v := 1) d_X12_reach_63 rfl ?_
      refine wp_goto (pc := 64) (tgt := 68) d_X12_reach_64 (by decide) ?_
      refine wp_sub ?_ h
      exact ⟨rfl, ⟨rfl, ⟨rfl, ⟨rfl, ⟨rfl, trivial⟩⟩⟩⟩⟩
theorem v_X12_reach_68 {E : EE} {d : Nat} {Q : Option AV → AH → Prop} {x0 : Nat} {x1 : Int32} {x2 : Int32} {x3 : Int32} {x4 : Int32} {t0 : Int32} {t1 : Int32} {G : AH} (h : wp E d M_X12_reach 31 [some (vr x0), some (vi x1), some (vi (t0 + t1)), some (vi x3), some (vi (x4 + 1))] [] G Q) : wp E d M_X12_reach 68 [some (vr x0), some (vi x1), some (vi x2), some (vi x3), some (vi x4)] [vi t1, vi t0] G Q := by
  refine wp_iadd (pc := 68) d_X12_reach_68 ?_
  refine wp_istore_n (pc := 69) (lv' := [some (vr _), some (vi _), some (vi _), some (vi _), some (vi _)]) d_X12_reach_69 (by decide) rfl ?_
  refine wp_iinc (pc := 70) (v := 1) (lv' := [some (vr _), some (vi _), some (vi _), some (vi _), some (vi _)]) d_X12_reach_70 (by decide) rfl rfl rfl ?_
  refine wp_goto (pc := 73) (tgt := 31) d_X12_reach_73 (by decide) ?_
  refine wp_sub ?_ h
  exact ⟨rfl, ⟨rfl, ⟨rfl, ⟨rfl, ⟨rfl, trivial⟩⟩⟩⟩⟩
theorem d_X12_feasible_0 : decode prog_14_method_109_code 0 = .ok (.aload_n 0, 1) := by decide +kernel
theorem d_X12_feasible_1 : decode prog_14_method_109_code 1 = .ok (.iload_n 1, 1) := by decide +kernel
theorem d_X12_feasible_2 : decode prog_14_method_109_code 2 = .ok (.invokevirtual 453, 3) := by decide +kernel
theorem d_X12_feasible_5 : decode prog_14_method_109_code 5 = .ok (.ifCond .ne 5, 3) := by decide +kernel
theorem d_X12_feasible_8 : decode prog_14_method_109_code 8 = .ok (.iconst 0, 1) := by decide +kernel
theorem d_X12_feasible_9 : decode prog_14_method_109_code 9 = .ok (.ireturn, 1) := by decide +kernel
theorem d_X12_feasible_10 : decode prog_14_method_109_code 10 = .ok (.aload_n 0, 1) := by decide +kernel
theorem d_X12_feasible_11 : decode prog_14_method_109_code 11 = .ok (.iload_n 1, 1) := by decide +kernel
theorem d_X12_feasible_12 : decode prog_14_method_109_code 12 = .ok (.invokevirtual 571, 3) := by decide +kernel
theorem d_X12_feasible_15 : decode prog_14_method_109_code 15 = .ok (.aload_n 0, 1) := by decide +kernel
theorem d_X12_feasible_16 : decode prog_14_method_109_code 16 = .ok (.aload_n 0, 1) := by decide +kernel
theorem d_X12_feasible_17 : decode prog_14_method_109_code 17 = .ok (.iload_n 1, 1) := by decide +kernel
theorem d_X12_feasible_18 : decode prog_14_method_109_code 18 = .ok (.invokevirtual 580, 3) := by decide +kernel
theorem d_X12_feasible_21 : decode prog_14_method_109_code 21 = .ok (.invokevirtual 556, 3) := by decide +kernel
theorem d_X12_feasible_24 : decode prog_14_method_109_code 24 = .ok (.ireturn, 1) := by decide +kernel
theorem v_X12_feasible_0 {E : EE} {d : Nat} {Q : Option AV → AH → Prop} {x0 : Nat} {x1 : Int32} {G : AH} (h0 : 0 < d) (h : isO E G x0 12 ∧ (wpI E (d - 1) M_X12_isProblem [vr x0, vi x1] G (fun r1 G2 => (¬ r1 = 0 → isO E G2 x0 12 ∧ (wpV E (d - 1) M_X12_know [vr x0, vi x1] G2 (fun G3 => isO E G3 x0 12 ∧ (wpI E (d - 1) M_X12_handOf [vr x0, vi x1] G3 (fun r4 G5 => isO E G5 x0 12 ∧ (wpI E (d - 1) M_X12_isFeasible [vr x0, vi r4] G5 (fun r6 G7 => okI .boolean r6 ∧ Q (some (vi r6)) G7))))))) ∧ (r1 = 0 → Q (some (vi 0)) G2)))) : wp E d M_X12_feasible 0 [some (vr x0), some (vi x1)] [] G Q := by
  refine wp_aload_n (pc := 0) d_X12_feasible_0 rfl ?_
  refine wp_iload_n (pc := 1) d_X12_feasible_1 rfl ?_
  obtain ⟨ho11, h⟩ := h
  refine wp_invV (pc := 2) (N := M_X12_isProblem) (As := [vi _]) (rest := []) (r := (cn_12, ct_12, 95)) d_X12_feasible_2 ml_X12_453 mk_X12_isProblem mv_X12_isProblem h0 ho11 rfl rfl (Nat.le_of_ble_eq_true rfl) ?_
  refine wpM.mono h (fun rr G2 hr => ?_)
  obtain ⟨r1, rfl, h⟩ := hr
  show wp E d M_X12_feasible 5 [some (vr _), some (vi _)] [vi _] G2 Q
  refine wp_if_ne (pc := 5) (tgt := 10) d_X12_feasible_5 (by decide) (fun hc => ?_) (fun hc => ?_)
  · have h := h.1 hc
    refine wp_aload_n (pc := 10) d_X12_feasible_10 rfl ?_
    refine wp_iload_n (pc := 11) d_X12_feasible_11 rfl ?_
    obtain ⟨ho10, h⟩ := h
    refine wp_invV (pc := 12) (N := M_X12_know) (As := [vi _]) (rest := []) (r := (cn_12, ct_12, 95)) d_X12_feasible_12 ml_X12_571 mk_X12_know mv_X12_know h0 ho10 rfl rfl (Nat.le_of_ble_eq_true rfl) ?_
    refine wpM.mono h (fun rr G3 hr => ?_)
    obtain ⟨rfl, h⟩ := hr
    show wp E d M_X12_feasible 15 [some (vr _), some (vi _)] [] G3 Q
    refine wp_aload_n (pc := 15) d_X12_feasible_15 rfl ?_
    refine wp_aload_n (pc := 16) d_X12_feasible_16 rfl ?_
    refine wp_iload_n (pc := 17) d_X12_feasible_17 rfl ?_
    obtain ⟨ho9, h⟩ := h
    refine wp_invV (pc := 18) (N := M_X12_handOf) (As := [vi _]) (rest := [vr _]) (r := (cn_12, ct_12, 95)) d_X12_feasible_18 ml_X12_580 mk_X12_handOf mv_X12_handOf h0 ho9 rfl rfl (Nat.le_of_ble_eq_true rfl) ?_
    refine wpM.mono h (fun rr G5 hr => ?_)
    obtain ⟨r4, rfl, h⟩ := hr
    show wp E d M_X12_feasible 21 [some (vr _), some (vi _)] [vi _, vr _] G5 Q
    obtain ⟨ho8, h⟩ := h
    refine wp_invV (pc := 21) (N := M_X12_isFeasible) (As := [vi _]) (rest := []) (r := (cn_12, ct_12, 95)) d_X12_feasible_21 ml_X12_556 mk_X12_isFeasible mv_X12_isFeasible h0 ho8 rfl rfl (Nat.le_of_ble_eq_true rfl) ?_
    refine wpM.mono h (fun rr G7 hr => ?_)
    obtain ⟨r6, rfl, h⟩ := hr
    show wp E d M_X12_feasible 24 [some (vr _), some (vi _)] [vi _] G7 Q
    exact wp_zret (pc := 24) d_X12_feasible_24 rfl h.1.1 h.2
  · have h := h.2 hc
    refine wp_iconst (pc := 8) (v := 0) d_X12_feasible_8 rfl ?_
    exact wp_zret (pc := 9) d_X12_feasible_9 rfl rfl h
theorem d_X12_score_0 : decode prog_14_method_108_code 0 = .ok (.aload_n 0, 1) := by decide +kernel
theorem d_X12_score_1 : decode prog_14_method_108_code 1 = .ok (.iload_n 1, 1) := by decide +kernel
theorem d_X12_score_2 : decode prog_14_method_108_code 2 = .ok (.invokevirtual 453, 3) := by decide +kernel
theorem d_X12_score_5 : decode prog_14_method_108_code 5 = .ok (.ifCond .eq 10, 3) := by decide +kernel
theorem d_X12_score_8 : decode prog_14_method_108_code 8 = .ok (.iload_n 2, 1) := by decide +kernel
theorem d_X12_score_9 : decode prog_14_method_108_code 9 = .ok (.invokestatic 583, 3) := by decide +kernel
theorem d_X12_score_12 : decode prog_14_method_108_code 12 = .ok (.ifCond .ne 7, 3) := by decide +kernel
theorem d_X12_score_15 : decode prog_14_method_108_code 15 = .ok (.ldc2_w 466, 3) := by decide +kernel
theorem d_X12_score_18 : decode prog_14_method_108_code 18 = .ok (.lreturn, 1) := by decide +kernel
theorem d_X12_score_19 : decode prog_14_method_108_code 19 = .ok (.aload_n 0, 1) := by decide +kernel
theorem d_X12_score_20 : decode prog_14_method_108_code 20 = .ok (.iload_n 1, 1) := by decide +kernel
theorem d_X12_score_21 : decode prog_14_method_108_code 21 = .ok (.invokevirtual 571, 3) := by decide +kernel
theorem d_X12_score_24 : decode prog_14_method_108_code 24 = .ok (.aload_n 0, 1) := by decide +kernel
theorem d_X12_score_25 : decode prog_14_method_108_code 25 = .ok (.getfield 159, 3) := by decide +kernel
theorem d_X12_score_28 : decode prog_14_method_108_code 28 = .ok (.sipush 20000, 3) := by decide +kernel
theorem d_X12_score_31 : decode prog_14_method_108_code 31 = .ok (.iload_n 2, 1) := by decide +kernel
theorem d_X12_score_32 : decode prog_14_method_108_code 32 = .ok (.imul, 1) := by decide +kernel
theorem d_X12_score_33 : decode prog_14_method_108_code 33 = .ok (.aload_n 0, 1) := by decide +kernel
theorem d_X12_score_34 : decode prog_14_method_108_code 34 = .ok (.iload_n 1, 1) := by decide +kernel
theorem d_X12_score_35 : decode prog_14_method_108_code 35 = .ok (.invokevirtual 580, 3) := by decide +kernel
theorem d_X12_score_38 : decode prog_14_method_108_code 38 = .ok (.iadd, 1) := by decide +kernel
theorem d_X12_score_39 : decode prog_14_method_108_code 39 = .ok (.laload, 1) := by decide +kernel
theorem d_X12_score_40 : decode prog_14_method_108_code 40 = .ok (.lreturn, 1) := by decide +kernel
theorem v_X12_score_0 {E : EE} {d : Nat} {Q : Option AV → AH → Prop} {x0 : Nat} {x1 : Int32} {x2 : Int32} {G : AH} (h0 : 0 < d) (h : isO E G x0 12 ∧ (wpI E (d - 1) M_X12_isProblem [vr x0, vi x1] G (fun r1 G2 => (r1 = 0 → Q (some (vj (-9223372036854775808))) G2) ∧ (¬ (r1 = 0) → wpI E (d - 1) M_X12_isLevel [vi x2] G2 (fun r3 G4 => (¬ r3 = 0 → isO E G4 x0 12 ∧ (wpV E (d - 1) M_X12_know [vr x0, vi x1] G4 (fun G5 => isO E G5 x0 12 ∧ (wpI E (d - 1) M_X12_handOf [vr x0, vi x1] G5 (fun r7 G8 => isO E G8 (gR G5 x0 66) 15 ∧ (vp_in ((20000 * x2) + r7) (gN G8 (gR G5 x0 66)) ∧ (Q (some (vj (gJ G8 (gR G5 x0 66) (Int32.toNatClampNeg ((20000 * x2) + r7))))) G8))))))) ∧ (r3 = 0 → Q (some (vj (-9223372036854775808))) G4)))))) : wp E d M_X12_score 0 [some (vr x0), some (vi x1), some (vi x2)] [] G Q := by
  refine wp_aload_n (pc := 0) d_X12_score_0 rfl ?_
  refine wp_iload_n (pc := 1) d_X12_score_1 rfl ?_
  obtain ⟨ho12, h⟩ := h
  refine wp_invV (pc := 2) (N := M_X12_isProblem) (As := [vi _]) (rest := []) (r := (cn_12, ct_12, 95)) d_X12_score_2 ml_X12_453 mk_X12_isProblem mv_X12_isProblem h0 ho12 rfl rfl (Nat.le_of_ble_eq_true rfl) ?_
  refine wpM.mono h (fun rr G2 hr => ?_)
  obtain ⟨r1, rfl, h⟩ := hr
  show wp E d M_X12_score 5 [some (vr _), some (vi _), some (vi _)] [vi _] G2 Q
  refine wp_if_eq (pc := 5) (tgt := 15) d_X12_score_5 (by decide) (fun hc => ?_) (fun hc => ?_)
  · have h := h.1 hc
    refine wp_ldc2 (pc := 15) (v := (-9223372036854775808)) d_X12_score_15 cj_X12_466 ?_
    exact wp_lret (pc := 18) d_X12_score_18 rfl h
  · have h := h.2 hc
    refine wp_iload_n (pc := 8) d_X12_score_8 rfl ?_
    refine wp_invS (pc := 9) (N := M_X12_isLevel) (As := [vi _]) (rest := []) d_X12_score_9 ml_X12_583 mk_X12_isLevel ms_X12_isLevel h0 (Nat.le_of_ble_eq_true rfl) ?_
    refine wpM.mono h (fun rr G4 hr => ?_)
    obtain ⟨r3, rfl, h⟩ := hr
    show wp E d M_X12_score 12 [some (vr _), some (vi _), some (vi _)] [vi _] G4 Q
    refine wp_if_ne (pc := 12) (tgt := 19) d_X12_score_12 (by decide) (fun hc => ?_) (fun hc => ?_)
    · have h := h.1 hc
      refine wp_aload_n (pc := 19) d_X12_score_19 rfl ?_
      refine wp_iload_n (pc := 20) d_X12_score_20 rfl ?_
      obtain ⟨ho11, h⟩ := h
      refine wp_invV (pc := 21) (N := M_X12_know) (As := [vi _]) (rest := []) (r := (cn_12, ct_12, 95)) d_X12_score_21 ml_X12_571 mk_X12_know mv_X12_know h0 ho11 rfl rfl (Nat.le_of_ble_eq_true rfl) ?_
      refine wpM.mono h (fun rr G5 hr => ?_)
      obtain ⟨rfl, h⟩ := hr
      show wp E d M_X12_score 24 [some (vr _), some (vi _), some (vi _)] [] G5 Q
      refine wp_aload_n (pc := 24) d_X12_score_24 rfl ?_
      obtain ⟨ho6, h⟩ := h
      refine wp_getR (pc := 25) d_X12_score_25 fl_X12_159 (fun _ _ _ => rfl) ho6 ?_
      refine wp_sipush (pc := 28) (v := 20000) d_X12_score_28 rfl ?_
      refine wp_iload_n (pc := 31) d_X12_score_31 rfl ?_
      refine wp_imul (pc := 32) d_X12_score_32 ?_
      refine wp_aload_n (pc := 33) d_X12_score_33 rfl ?_
      refine wp_iload_n (pc := 34) d_X12_score_34 rfl ?_
      refine wp_invV (pc := 35) (N := M_X12_handOf) (As := [vi _]) (rest := [vi _, vr _]) (r := (cn_12, ct_12, 95)) d_X12_score_35 ml_X12_580 mk_X12_handOf mv_X12_handOf h0 ho6 rfl rfl (Nat.le_of_ble_eq_true rfl) ?_
      refine wpM.mono h (fun rr G8 hr => ?_)
      obtain ⟨r7, rfl, h⟩ := hr
      show wp E d M_X12_score 38 [some (vr _), some (vi _), some (vi _)] [vi _, vi _, vr _] G8 Q
      refine wp_iadd (pc := 38) d_X12_score_38 ?_
      obtain ⟨ho9, h⟩ := h
      obtain ⟨hi10, h⟩ := h
      refine wp_lald (pc := 39) d_X12_score_39 ho9 hi10 ?_
      exact wp_lret (pc := 40) d_X12_score_40 rfl h
    · have h := h.2 hc
      refine wp_ldc2 (pc := 15) (v := (-9223372036854775808)) d_X12_score_15 cj_X12_466 ?_
      exact wp_lret (pc := 18) d_X12_score_18 rfl h
