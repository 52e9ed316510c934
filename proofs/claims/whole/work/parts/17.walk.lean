/-! decode rows and regions (by program): X6_propose X6_draw X6_isTaken X6_worth X6_settle X4_init X4_fits X4_write X4_writeTree X4_isRight X4_tree X4_branches X4_ruledOut X4_isNoGain X4_isBounded X8_init X8_announced X8_textLength X8_rowEnd X8_stateLength X8_restore X8_noteEnd X8_hasRoom X8_append X8_export X8_lose X8_start X8_add -/
theorem d_X6_propose_0 : decode prog_8_method_6_code 0 = .ok (.aload_n 0, 1) := by decide +kernel
theorem d_X6_propose_1 : decode prog_8_method_6_code 1 = .ok (.aload_n 0, 1) := by decide +kernel
theorem d_X6_propose_2 : decode prog_8_method_6_code 2 = .ok (.iconst 4, 1) := by decide +kernel
theorem d_X6_propose_3 : decode prog_8_method_6_code 3 = .ok (.invokevirtual 114, 3) := by decide +kernel
theorem d_X6_propose_6 : decode prog_8_method_6_code 6 = .ok (.putfield 47, 3) := by decide +kernel
theorem d_X6_propose_9 : decode prog_8_method_6_code 9 = .ok (.aload_n 0, 1) := by decide +kernel
theorem d_X6_propose_10 : decode prog_8_method_6_code 10 = .ok (.aload_n 0, 1) := by decide +kernel
theorem d_X6_propose_11 : decode prog_8_method_6_code 11 = .ok (.getfield 25, 3) := by decide +kernel
theorem d_X6_propose_14 : decode prog_8_method_6_code 14 = .ok (.aload_n 0, 1) := by decide +kernel
theorem d_X6_propose_15 : decode prog_8_method_6_code 15 = .ok (.aload_n 0, 1) := by decide +kernel
theorem d_X6_propose_16 : decode prog_8_method_6_code 16 = .ok (.getfield 29, 3) := by decide +kernel
theorem d_X6_propose_19 : decode prog_8_method_6_code 19 = .ok (.invokevirtual 114, 3) := by decide +kernel
theorem d_X6_propose_22 : decode prog_8_method_6_code 22 = .ok (.iaload, 1) := by decide +kernel
theorem d_X6_propose_23 : decode prog_8_method_6_code 23 = .ok (.putfield 50, 3) := by decide +kernel
theorem d_X6_propose_26 : decode prog_8_method_6_code 26 = .ok (.aload_n 0, 1) := by decide +kernel
theorem d_X6_propose_27 : decode prog_8_method_6_code 27 = .ok (.getfield 47, 3) := by decide +kernel
theorem d_X6_propose_30 : decode prog_8_method_6_code 30 = .ok (.iconst 3, 1) := by decide +kernel
theorem d_X6_propose_31 : decode prog_8_method_6_code 31 = .ok (.if_icmp .ge 68, 3) := by decide +kernel
theorem d_X6_propose_34 : decode prog_8_method_6_code 34 = .ok (.aload_n 0, 1) := by decide +kernel
theorem d_X6_propose_35 : decode prog_8_method_6_code 35 = .ok (.aload_n 0, 1) := by decide +kernel
theorem d_X6_propose_36 : decode prog_8_method_6_code 36 = .ok (.getfield 50, 3) := by decide +kernel
theorem d_X6_propose_39 : decode prog_8_method_6_code 39 = .ok (.putfield 53, 3) := by decide +kernel
theorem d_X6_propose_42 : decode prog_8_method_6_code 42 = .ok (.aload_n 0, 1) := by decide +kernel
theorem d_X6_propose_43 : decode prog_8_method_6_code 43 = .ok (.aload_n 1, 1) := by decide +kernel
theorem d_X6_propose_44 : decode prog_8_method_6_code 44 = .ok (.getfield 109, 3) := by decide +kernel
theorem d_X6_propose_47 : decode prog_8_method_6_code 47 = .ok (.aload_n 0, 1) := by decide +kernel
theorem d_X6_propose_48 : decode prog_8_method_6_code 48 = .ok (.getfield 50, 3) := by decide +kernel
theorem d_X6_propose_51 : decode prog_8_method_6_code 51 = .ok (.iaload, 1) := by decide +kernel
theorem d_X6_propose_52 : decode prog_8_method_6_code 52 = .ok (.iconst 1, 1) := by decide +kernel
theorem d_X6_propose_53 : decode prog_8_method_6_code 53 = .ok (.isub, 1) := by decide +kernel
theorem d_X6_propose_54 : decode prog_8_method_6_code 54 = .ok (.invokevirtual 114, 3) := by decide +kernel
theorem d_X6_propose_57 : decode prog_8_method_6_code 57 = .ok (.istore_n 2, 1) := by decide +kernel
theorem d_X6_propose_58 : decode prog_8_method_6_code 58 = .ok (.aload_n 0, 1) := by decide +kernel
theorem d_X6_propose_59 : decode prog_8_method_6_code 59 = .ok (.aload_n 1, 1) := by decide +kernel
theorem d_X6_propose_60 : decode prog_8_method_6_code 60 = .ok (.aload_n 0, 1) := by decide +kernel
theorem d_X6_propose_61 : decode prog_8_method_6_code 61 = .ok (.getfield 38, 3) := by decide +kernel
theorem d_X6_propose_64 : decode prog_8_method_6_code 64 = .ok (.aload_n 0, 1) := by decide +kernel
theorem d_X6_propose_65 : decode prog_8_method_6_code 65 = .ok (.getfield 50, 3) := by decide +kernel
theorem d_X6_propose_68 : decode prog_8_method_6_code 68 = .ok (.iload_n 2, 1) := by decide +kernel
theorem d_X6_propose_69 : decode prog_8_method_6_code 69 = .ok (.aload_n 1, 1) := by decide +kernel
theorem d_X6_propose_70 : decode prog_8_method_6_code 70 = .ok (.aload_n 0, 1) := by decide +kernel
theorem d_X6_propose_71 : decode prog_8_method_6_code 71 = .ok (.getfield 38, 3) := by decide +kernel
theorem d_X6_propose_74 : decode prog_8_method_6_code 74 = .ok (.aload_n 0, 1) := by decide +kernel
theorem d_X6_propose_75 : decode prog_8_method_6_code 75 = .ok (.getfield 50, 3) := by decide +kernel
theorem d_X6_propose_78 : decode prog_8_method_6_code 78 = .ok (.invokevirtual 118, 3) := by decide +kernel
theorem d_X6_propose_81 : decode prog_8_method_6_code 81 = .ok (.if_icmp .ge 7, 3) := by decide +kernel
theorem d_X6_propose_84 : decode prog_8_method_6_code 84 = .ok (.iload_n 2, 1) := by decide +kernel
theorem d_X6_propose_85 : decode prog_8_method_6_code 85 = .ok (.goto 6, 3) := by decide +kernel
theorem d_X6_propose_88 : decode prog_8_method_6_code 88 = .ok (.iload_n 2, 1) := by decide +kernel
theorem d_X6_propose_89 : decode prog_8_method_6_code 89 = .ok (.iconst 1, 1) := by decide +kernel
theorem d_X6_propose_90 : decode prog_8_method_6_code 90 = .ok (.iadd, 1) := by decide +kernel
theorem d_X6_propose_91 : decode prog_8_method_6_code 91 = .ok (.invokevirtual 122, 3) := by decide +kernel
theorem d_X6_propose_94 : decode prog_8_method_6_code 94 = .ok (.putfield 41, 3) := by decide +kernel
theorem d_X6_propose_97 : decode prog_8_method_6_code 97 = .ok (.iconst 1, 1) := by decide +kernel
theorem d_X6_propose_98 : decode prog_8_method_6_code 98 = .ok (.ireturn, 1) := by decide +kernel
theorem d_X6_propose_99 : decode prog_8_method_6_code 99 = .ok (.aload_n 0, 1) := by decide +kernel
theorem d_X6_propose_100 : decode prog_8_method_6_code 100 = .ok (.aload_n 0, 1) := by decide +kernel
theorem d_X6_propose_101 : decode prog_8_method_6_code 101 = .ok (.getfield 25, 3) := by decide +kernel
theorem d_X6_propose_104 : decode prog_8_method_6_code 104 = .ok (.aload_n 0, 1) := by decide +kernel
theorem d_X6_propose_105 : decode prog_8_method_6_code 105 = .ok (.aload_n 0, 1) := by decide +kernel
theorem d_X6_propose_106 : decode prog_8_method_6_code 106 = .ok (.getfield 29, 3) := by decide +kernel
theorem d_X6_propose_109 : decode prog_8_method_6_code 109 = .ok (.invokevirtual 114, 3) := by decide +kernel
theorem d_X6_propose_112 : decode prog_8_method_6_code 112 = .ok (.iaload, 1) := by decide +kernel
theorem d_X6_propose_113 : decode prog_8_method_6_code 113 = .ok (.putfield 53, 3) := by decide +kernel
theorem d_X6_propose_116 : decode prog_8_method_6_code 116 = .ok (.aload_n 0, 1) := by decide +kernel
theorem d_X6_propose_117 : decode prog_8_method_6_code 117 = .ok (.getfield 50, 3) := by decide +kernel
theorem d_X6_propose_120 : decode prog_8_method_6_code 120 = .ok (.aload_n 0, 1) := by decide +kernel
theorem d_X6_propose_121 : decode prog_8_method_6_code 121 = .ok (.getfield 53, 3) := by decide +kernel
theorem d_X6_propose_124 : decode prog_8_method_6_code 124 = .ok (.if_icmp .ne 5, 3) := by decide +kernel
theorem d_X6_propose_127 : decode prog_8_method_6_code 127 = .ok (.iconst 0, 1) := by decide +kernel
theorem d_X6_propose_128 : decode prog_8_method_6_code 128 = .ok (.ireturn, 1) := by decide +kernel
theorem d_X6_propose_129 : decode prog_8_method_6_code 129 = .ok (.aload_n 1, 1) := by decide +kernel
theorem d_X6_propose_130 : decode prog_8_method_6_code 130 = .ok (.aload_n 0, 1) := by decide +kernel
theorem d_X6_propose_131 : decode prog_8_method_6_code 131 = .ok (.getfield 50, 3) := by decide +kernel
theorem d_X6_propose_134 : decode prog_8_method_6_code 134 = .ok (.aload_n 1, 1) := by decide +kernel
theorem d_X6_propose_135 : decode prog_8_method_6_code 135 = .ok (.aload_n 0, 1) := by decide +kernel
theorem d_X6_propose_136 : decode prog_8_method_6_code 136 = .ok (.getfield 38, 3) := by decide +kernel
theorem d_X6_propose_139 : decode prog_8_method_6_code 139 = .ok (.aload_n 0, 1) := by decide +kernel
theorem d_X6_propose_140 : decode prog_8_method_6_code 140 = .ok (.getfield 53, 3) := by decide +kernel
theorem d_X6_propose_143 : decode prog_8_method_6_code 143 = .ok (.invokevirtual 126, 3) := by decide +kernel
theorem d_X6_propose_146 : decode prog_8_method_6_code 146 = .ok (.invokevirtual 129, 3) := by decide +kernel
theorem d_X6_propose_149 : decode prog_8_method_6_code 149 = .ok (.istore_n 2, 1) := by decide +kernel
theorem d_X6_propose_150 : decode prog_8_method_6_code 150 = .ok (.aload_n 1, 1) := by decide +kernel
theorem d_X6_propose_151 : decode prog_8_method_6_code 151 = .ok (.aload_n 0, 1) := by decide +kernel
theorem d_X6_propose_152 : decode prog_8_method_6_code 152 = .ok (.getfield 53, 3) := by decide +kernel
theorem d_X6_propose_155 : decode prog_8_method_6_code 155 = .ok (.aload_n 1, 1) := by decide +kernel
theorem d_X6_propose_156 : decode prog_8_method_6_code 156 = .ok (.aload_n 0, 1) := by decide +kernel
theorem d_X6_propose_157 : decode prog_8_method_6_code 157 = .ok (.getfield 38, 3) := by decide +kernel
theorem d_X6_propose_160 : decode prog_8_method_6_code 160 = .ok (.aload_n 0, 1) := by decide +kernel
theorem d_X6_propose_161 : decode prog_8_method_6_code 161 = .ok (.getfield 50, 3) := by decide +kernel
theorem d_X6_propose_164 : decode prog_8_method_6_code 164 = .ok (.invokevirtual 126, 3) := by decide +kernel
theorem d_X6_propose_167 : decode prog_8_method_6_code 167 = .ok (.invokevirtual 129, 3) := by decide +kernel
theorem d_X6_propose_170 : decode prog_8_method_6_code 170 = .ok (.istore_n 3, 1) := by decide +kernel
theorem d_X6_propose_171 : decode prog_8_method_6_code 171 = .ok (.iload_n 2, 1) := by decide +kernel
theorem d_X6_propose_172 : decode prog_8_method_6_code 172 = .ok (.ifCond .lt 7, 3) := by decide +kernel
theorem d_X6_propose_175 : decode prog_8_method_6_code 175 = .ok (.iload_n 3, 1) := by decide +kernel
theorem d_X6_propose_176 : decode prog_8_method_6_code 176 = .ok (.ifCond .ge 5, 3) := by decide +kernel
theorem d_X6_propose_179 : decode prog_8_method_6_code 179 = .ok (.iconst 0, 1) := by decide +kernel
theorem d_X6_propose_180 : decode prog_8_method_6_code 180 = .ok (.ireturn, 1) := by decide +kernel
theorem d_X6_propose_181 : decode prog_8_method_6_code 181 = .ok (.aload_n 0, 1) := by decide +kernel
theorem d_X6_propose_182 : decode prog_8_method_6_code 182 = .ok (.aload_n 1, 1) := by decide +kernel
theorem d_X6_propose_183 : decode prog_8_method_6_code 183 = .ok (.aload_n 1, 1) := by decide +kernel
theorem d_X6_propose_184 : decode prog_8_method_6_code 184 = .ok (.aload_n 0, 1) := by decide +kernel
theorem d_X6_propose_185 : decode prog_8_method_6_code 185 = .ok (.getfield 38, 3) := by decide +kernel
theorem d_X6_propose_188 : decode prog_8_method_6_code 188 = .ok (.aload_n 0, 1) := by decide +kernel
theorem d_X6_propose_189 : decode prog_8_method_6_code 189 = .ok (.getfield 50, 3) := by decide +kernel
theorem d_X6_propose_192 : decode prog_8_method_6_code 192 = .ok (.iload_n 2, 1) := by decide +kernel
theorem d_X6_propose_193 : decode prog_8_method_6_code 193 = .ok (.invokevirtual 122, 3) := by decide +kernel
theorem d_X6_propose_196 : decode prog_8_method_6_code 196 = .ok (.aload_n 0, 1) := by decide +kernel
theorem d_X6_propose_197 : decode prog_8_method_6_code 197 = .ok (.getfield 53, 3) := by decide +kernel
theorem d_X6_propose_200 : decode prog_8_method_6_code 200 = .ok (.iload_n 3, 1) := by decide +kernel
theorem d_X6_propose_201 : decode prog_8_method_6_code 201 = .ok (.invokevirtual 122, 3) := by decide +kernel
theorem d_X6_propose_204 : decode prog_8_method_6_code 204 = .ok (.putfield 41, 3) := by decide +kernel
theorem d_X6_propose_207 : decode prog_8_method_6_code 207 = .ok (.iconst 1, 1) := by decide +kernel
theorem d_X6_propose_208 : decode prog_8_method_6_code 208 = .ok (.ireturn, 1) := by decide +kernel
theorem v_X6_propose_0 {E : EE} {d : Nat} {Q : Option AV → AH → Prop} {x0 : Nat} {x1 : Nat} {G : AH} (h0 : 0 < d) (h : isO E G x0 6 ∧ (wpI E (d - 1) M_X6_draw [vr x0, vi 4] G (fun r1 G2 => isO E G2 x0 6 ∧ (∀ G4 : AH, G4 = sI G2 x0 11 r1 → wpI E (d - 1) M_X6_draw [vr x0, vi (gI G4 x0 5)] G4 (fun r6 G7 => isO E G7 (gR G4 x0 4) 14 ∧ (vp_in r6 (gN G7 (gR G4 x0 4)) ∧ (isO E G7 x0 6 ∧ (∀ G11 : AH, G11 = sI G7 x0 12 (gI G7 (gR G4 x0 4) (Int32.toNatClampNeg r6)) → (3 ≤ (gI G11 x0 11) → wpI E (d - 1) M_X6_draw [vr x0, vi (gI G11 x0 5)] G11 (fun r13 G14 => isO E G14 (gR G11 x0 4) 14 ∧ (vp_in r13 (gN G14 (gR G11 x0 4)) ∧ (isO E G14 x0 6 ∧ (∀ G18 : AH, G18 = sI G14 x0 13 (gI G14 (gR G11 x0 4) (Int32.toNatClampNeg r13)) → (¬ (gI G18 x0 12) = (gI G18 x0 13) → isO E G18 x1 7 ∧ (wpI E (d - 1) M_X7_valueOf [vr x1, vi (gI G18 x0 8), vi (gI G18 x0 13)] G18 (fun r20 G21 => isO E G21 x1 7 ∧ (wpI E (d - 1) M_X7_placeOfValue [vr x1, vi (gI G18 x0 12), vi r20] G21 (fun r22 G23 => isO E G23 x0 6 ∧ (isO E G23 x1 7 ∧ (wpI E (d - 1) M_X7_valueOf [vr x1, vi (gI G23 x0 8), vi (gI G23 x0 12)] G23 (fun r25 G26 => isO E G26 x1 7 ∧ (wpI E (d - 1) M_X7_placeOfValue [vr x1, vi (gI G23 x0 13), vi r25] G26 (fun r27 G28 => (r22 < 0 → Q (some (vi 0)) G28) ∧ (¬ (r22 < 0) → (0 ≤ r27 → isO E G28 x0 6 ∧ (isO E G28 x1 7 ∧ (wpI E (d - 1) M_X7_moved [vr x1, vi (gI G28 x0 8), vi (gI G28 x0 12), vi r22] G28 (fun r30 G31 => isO E G31 x0 6 ∧ (isO E G31 x1 7 ∧ (wpI E (d - 1) M_X7_moved [vr x1, vi r30, vi (gI G31 x0 13), vi r27] G31 (fun r33 G34 => isO E G34 x0 6 ∧ (∀ G36 : AH, G36 = sI G34 x0 9 r33 → Q (some (vi 1)) G36)))))))) ∧ (¬ (0 ≤ r27) → Q (some (vi 0)) G28)))))))))))) ∧ ((gI G18 x0 12) = (gI G18 x0 13) → Q (some (vi 0)) G18)))))) ∧ (¬ (3 ≤ (gI G11 x0 11)) → ∀ G44 : AH, G44 = sI G11 x0 13 (gI G11 x0 12) → isO E G44 x1 7 ∧ (isO E G44 (gR G44 x1 2) 14 ∧ (vp_in (gI G44 x0 12) (gN G44 (gR G44 x1 2)) ∧ (wpI E (d - 1) M_X6_draw [vr x0, vi ((gI G44 (gR G44 x1 2) (Int32.toNatClampNeg (gI G44 x0 12))) - 1)] G44 (fun r49 G50 => isO E G50 x0 6 ∧ (isO E G50 x1 7 ∧ (wpI E (d - 1) M_X7_placeOf [vr x1, vi (gI G50 x0 8), vi (gI G50 x0 12)] G50 (fun r52 G53 => (r52 ≤ r49 → wp E d M_X6_propose 91 [some (vr x0), some (vr x1), some (vi r49), none] [vi (r49 + 1), vi (gI G50 x0 12), vi (gI G50 x0 8), vr x1, vr x0] G53 Q) ∧ (¬ (r52 ≤ r49) → wp E d M_X6_propose 91 [some (vr x0), some (vr x1), some (vi r49), none] [vi r49, vi (gI G50 x0 12), vi (gI G50 x0 8), vr x1, vr x0] G53 Q))))))))))))))))) : wp E d M_X6_propose 0 [some (vr x0), some (vr x1), none, none] [] G Q := by
  refine wp_aload_n (pc := 0) d_X6_propose_0 rfl ?_
  refine wp_aload_n (pc := 1) d_X6_propose_1 rfl ?_
  refine wp_iconst (pc := 2) (v := 4) d_X6_propose_2 rfl ?_
  obtain ⟨ho55, h⟩ := h
  refine wp_invV (pc := 3) (N := M_X6_draw) (As := [vi _]) (rest := [vr _]) (r := (cn_6, ct_6, 14)) d_X6_propose_3 ml_X6_114 mk_X6_draw mv_X6_draw h0 ho55 rfl rfl (Nat.le_of_ble_eq_true rfl) ?_
  refine wpM.mono h (fun rr G2 hr => ?_)
  obtain ⟨r1, rfl, h⟩ := hr
  show wp E d M_X6_propose 6 [some (vr _), some (vr _), none, none] [vi _, vr _] G2 Q
  obtain ⟨ho3, h⟩ := h
  refine wp_putI (pc := 6) d_X6_propose_6 fl_X6_47 (fun _ _ _ => rfl) (Or.inl rfl) ho3 (okI_int _) ?_
  refine wp_nm (fun G4 eG4 => ?_)
  have h := h G4 eG4
  have ho5 := isO_sI eG4 ho3
  refine wp_aload_n (pc := 9) d_X6_propose_9 rfl ?_
  refine wp_aload_n (pc := 10) d_X6_propose_10 rfl ?_
  refine wp_getR (pc := 11) d_X6_propose_11 fl_X6_25 (fun _ _ _ => rfl) ho5 ?_
  refine wp_aload_n (pc := 14) d_X6_propose_14 rfl ?_
  refine wp_aload_n (pc := 15) d_X6_propose_15 rfl ?_
  refine wp_getI (pc := 16) d_X6_propose_16 fl_X6_29 (fun _ _ _ => rfl) ho5 ?_
  refine wp_invV (pc := 19) (N := M_X6_draw) (As := [vi _]) (rest := [vr _, vr _]) (r := (cn_6, ct_6, 14)) d_X6_propose_19 ml_X6_114 mk_X6_draw mv_X6_draw h0 ho5 rfl rfl (Nat.le_of_ble_eq_true rfl) ?_
  refine wpM.mono h (fun rr G7 hr => ?_)
  obtain ⟨r6, rfl, h⟩ := hr
  show wp E d M_X6_propose 22 [some (vr _), some (vr _), none, none] [vi _, vr _, vr _] G7 Q
  obtain ⟨ho8, h⟩ := h
  obtain ⟨hi9, h⟩ := h
  refine wp_iald (pc := 22) d_X6_propose_22 ho8 hi9 ?_
  obtain ⟨ho10, h⟩ := h
  refine wp_putI (pc := 23) d_X6_propose_23 fl_X6_50 (fun _ _ _ => rfl) (Or.inl rfl) ho10 (okI_int _) ?_
  refine wp_nm (fun G11 eG11 => ?_)
  have h := h G11 eG11
  have ho12 := isO_sI eG11 ho10
  refine wp_aload_n (pc := 26) d_X6_propose_26 rfl ?_
  refine wp_getI (pc := 27) d_X6_propose_27 fl_X6_47 (fun _ _ _ => rfl) ho12 ?_
  refine wp_iconst (pc := 30) (v := 3) d_X6_propose_30 rfl ?_
  refine wp_icmp_ge (pc := 31) (tgt := 99) d_X6_propose_31 (by decide) (fun hc => ?_) (fun hc => ?_)
  · have h := h.1 hc
    refine wp_aload_n (pc := 99) d_X6_propose_99 rfl ?_
    refine wp_aload_n (pc := 100) d_X6_propose_100 rfl ?_
    refine wp_getR (pc := 101) d_X6_propose_101 fl_X6_25 (fun _ _ _ => rfl) ho12 ?_
    refine wp_aload_n (pc := 104) d_X6_propose_104 rfl ?_
    refine wp_aload_n (pc := 105) d_X6_propose_105 rfl ?_
    refine wp_getI (pc := 106) d_X6_propose_106 fl_X6_29 (fun _ _ _ => rfl) ho12 ?_
    refine wp_invV (pc := 109) (N := M_X6_draw) (As := [vi _]) (rest := [vr _, vr _]) (r := (cn_6, ct_6, 14)) d_X6_propose_109 ml_X6_114 mk_X6_draw mv_X6_draw h0 ho12 rfl rfl (Nat.le_of_ble_eq_true rfl) ?_
    refine wpM.mono h (fun rr G14 hr => ?_)
    obtain ⟨r13, rfl, h⟩ := hr
    show wp E d M_X6_propose 112 [some (vr _), some (vr _), none, none] [vi _, vr _, vr _] G14 Q
    obtain ⟨ho15, h⟩ := h
    obtain ⟨hi16, h⟩ := h
    refine wp_iald (pc := 112) d_X6_propose_112 ho15 hi16 ?_
    obtain ⟨ho17, h⟩ := h
    refine wp_putI (pc := 113) d_X6_propose_113 fl_X6_53 (fun _ _ _ => rfl) (Or.inl rfl) ho17 (okI_int _) ?_
    refine wp_nm (fun G18 eG18 => ?_)
    have h := h G18 eG18
    have ho19 := isO_sI eG18 ho17
    refine wp_aload_n (pc := 116) d_X6_propose_116 rfl ?_
    refine wp_getI (pc := 117) d_X6_propose_117 fl_X6_50 (fun _ _ _ => rfl) ho19 ?_
    refine wp_aload_n (pc := 120) d_X6_propose_120 rfl ?_
    refine wp_getI (pc := 121) d_X6_propose_121 fl_X6_53 (fun _ _ _ => rfl) ho19 ?_
    refine wp_icmp_ne (pc := 124) (tgt := 129) d_X6_propose_124 (by decide) (fun hc => ?_) (fun hc => ?_)
    · have h := h.1 hc
      refine wp_aload_n (pc := 129) d_X6_propose_129 rfl ?_
      refine wp_aload_n (pc := 130) d_X6_propose_130 rfl ?_
      refine wp_getI (pc := 131) d_X6_propose_131 fl_X6_50 (fun _ _ _ => rfl) ho19 ?_
      refine wp_aload_n (pc := 134) d_X6_propose_134 rfl ?_
      refine wp_aload_n (pc := 135) d_X6_propose_135 rfl ?_
      refine wp_getI (pc := 136) d_X6_propose_136 fl_X6_38 (fun _ _ _ => rfl) ho19 ?_
      refine wp_aload_n (pc := 139) d_X6_propose_139 rfl ?_
      refine wp_getI (pc := 140) d_X6_propose_140 fl_X6_53 (fun _ _ _ => rfl) ho19 ?_
      obtain ⟨ho43, h⟩ := h
      refine wp_invV (pc := 143) (N := M_X7_valueOf) (As := [vi _, vi _]) (rest := [vi _, vr _]) (r := (cn_7, ct_7, 5)) d_X6_propose_143 ml_X6_126 mk_X7_valueOf mv_X7_valueOf h0 ho43 rfl rfl (Nat.le_of_ble_eq_true rfl) ?_
      refine wpM.mono h (fun rr G21 hr => ?_)
      obtain ⟨r20, rfl, h⟩ := hr
      show wp E d M_X6_propose 146 [some (vr _), some (vr _), none, none] [vi _, vi _, vr _] G21 Q
      obtain ⟨ho42, h⟩ := h
      refine wp_invV (pc := 146) (N := M_X7_placeOfValue) (As := [vi _, vi _]) (rest := []) (r := (cn_7, ct_7, 5)) d_X6_propose_146 ml_X6_129 mk_X7_placeOfValue mv_X7_placeOfValue h0 ho42 rfl rfl (Nat.le_of_ble_eq_true rfl) ?_
      refine wpM.mono h (fun rr G23 hr => ?_)
      obtain ⟨r22, rfl, h⟩ := hr
      show wp E d M_X6_propose 149 [some (vr _), some (vr _), none, none] [vi _] G23 Q
      refine wp_istore_n (pc := 149) (lv' := [some (vr _), some (vr _), some (vi _), none]) d_X6_propose_149 (by decide) rfl ?_
      refine wp_aload_n (pc := 150) d_X6_propose_150 rfl ?_
      refine wp_aload_n (pc := 151) d_X6_propose_151 rfl ?_
      obtain ⟨ho24, h⟩ := h
      refine wp_getI (pc := 152) d_X6_propose_152 fl_X6_53 (fun _ _ _ => rfl) ho24 ?_
      refine wp_aload_n (pc := 155) d_X6_propose_155 rfl ?_
      refine wp_aload_n (pc := 156) d_X6_propose_156 rfl ?_
      refine wp_getI (pc := 157) d_X6_propose_157 fl_X6_38 (fun _ _ _ => rfl) ho24 ?_
      refine wp_aload_n (pc := 160) d_X6_propose_160 rfl ?_
      refine wp_getI (pc := 161) d_X6_propose_161 fl_X6_50 (fun _ _ _ => rfl) ho24 ?_
      obtain ⟨ho41, h⟩ := h
      refine wp_invV (pc := 164) (N := M_X7_valueOf) (As := [vi _, vi _]) (rest := [vi _, vr _]) (r := (cn_7, ct_7, 5)) d_X6_propose_164 ml_X6_126 mk_X7_valueOf mv_X7_valueOf h0 ho41 rfl rfl (Nat.le_of_ble_eq_true rfl) ?_
      refine wpM.mono h (fun rr G26 hr => ?_)
      obtain ⟨r25, rfl, h⟩ := hr
      show wp E d M_X6_propose 167 [some (vr _), some (vr _), some (vi _), none] [vi _, vi _, vr _] G26 Q
      obtain ⟨ho40, h⟩ := h
      refine wp_invV (pc := 167) (N := M_X7_placeOfValue) (As := [vi _, vi _]) (rest := []) (r := (cn_7, ct_7, 5)) d_X6_propose_167 ml_X6_129 mk_X7_placeOfValue mv_X7_placeOfValue h0 ho40 rfl rfl (Nat.le_of_ble_eq_true rfl) ?_
      refine wpM.mono h (fun rr G28 hr => ?_)
      obtain ⟨r27, rfl, h⟩ := hr
      show wp E d M_X6_propose 170 [some (vr _), some (vr _), some (vi _), none] [vi _] G28 Q
      refine wp_istore_n (pc := 170) (lv' := [some (vr _), some (vr _), some (vi _), some (vi _)]) d_X6_propose_170 (by decide) rfl ?_
      refine wp_iload_n (pc := 171) d_X6_propose_171 rfl ?_
      refine wp_if_lt (pc := 172) (tgt := 179) d_X6_propose_172 (by decide) (fun hc => ?_) (fun hc => ?_)
      · have h := h.1 hc
        refine wp_iconst (pc := 179) (v := 0) d_X6_propose_179 rfl ?_
        exact wp_zret (pc := 180) d_X6_propose_180 rfl rfl h
      · have h := h.2 hc
        refine wp_iload_n (pc := 175) d_X6_propose_175 rfl ?_
        refine wp_if_ge (pc := 176) (tgt := 181) d_X6_propose_176 (by decide) (fun hc => ?_) (fun hc => ?_)
        · have h := h.1 hc
          refine wp_aload_n (pc := 181) d_X6_propose_181 rfl ?_
          refine wp_aload_n (pc := 182) d_X6_propose_182 rfl ?_
          refine wp_aload_n (pc := 183) d_X6_propose_183 rfl ?_
          refine wp_aload_n (pc := 184) d_X6_propose_184 rfl ?_
          obtain ⟨ho29, h⟩ := h
          refine wp_getI (pc := 185) d_X6_propose_185 fl_X6_38 (fun _ _ _ => rfl) ho29 ?_
          refine wp_aload_n (pc := 188) d_X6_propose_188 rfl ?_
          refine wp_getI (pc := 189) d_X6_propose_189 fl_X6_50 (fun _ _ _ => rfl) ho29 ?_
          refine wp_iload_n (pc := 192) d_X6_propose_192 rfl ?_
          obtain ⟨ho39, h⟩ := h
          refine wp_invV (pc := 193) (N := M_X7_moved) (As := [vi _, vi _, vi _]) (rest := [vr _, vr _]) (r := (cn_7, ct_7, 5)) d_X6_propose_193 ml_X6_122 mk_X7_moved mv_X7_moved h0 ho39 rfl rfl (Nat.le_of_ble_eq_true rfl) ?_
          refine wpM.mono h (fun rr G31 hr => ?_)
          obtain ⟨r30, rfl, h⟩ := hr
          show wp E d M_X6_propose 196 [some (vr _), some (vr _), some (vi _), some (vi _)] [vi _, vr _, vr _] G31 Q
          refine wp_aload_n (pc := 196) d_X6_propose_196 rfl ?_
          obtain ⟨ho32, h⟩ := h
          refine wp_getI (pc := 197) d_X6_propose_197 fl_X6_53 (fun _ _ _ => rfl) ho32 ?_
          refine wp_iload_n (pc := 200) d_X6_propose_200 rfl ?_
          obtain ⟨ho38, h⟩ := h
          refine wp_invV (pc := 201) (N := M_X7_moved) (As := [vi _, vi _, vi _]) (rest := [vr _]) (r := (cn_7, ct_7, 5)) d_X6_propose_201 ml_X6_122 mk_X7_moved mv_X7_moved h0 ho38 rfl rfl (Nat.le_of_ble_eq_true rfl) ?_
          refine wpM.mono h (fun rr G34 hr => ?_)
          obtain ⟨r33, rfl, h⟩ := hr
          show wp E d M_X6_propose 204 [some (vr _), some (vr _), some (vi _), some (vi _)] [vi _, vr _] G34 Q
          obtain ⟨ho35, h⟩ := h
          refine wp_putI (pc := 204) d_X6_propose_204 fl_X6_41 (fun _ _ _ => rfl) (Or.inl rfl) ho35 (okI_int _) ?_
          refine wp_nm (fun G36 eG36 => ?_)
          have h := h G36 eG36
          have ho37 := isO_sI eG36 ho35
          refine wp_iconst (pc := 207) (v := 1) d_X6_propose_207 rfl ?_
          exact wp_zret (pc := 208) d_X6_propose_208 rfl rfl h
        · have h := h.2 hc
          refine wp_iconst (pc := 179) (v := 0) d_X6_propose_179 rfl ?_
          exact wp_zret (pc := 180) d_X6_propose_180 rfl rfl h
    · have h := h.2 hc
      refine wp_iconst (pc := 127) (v := 0) d_X6_propose_127 rfl ?_
      exact wp_zret (pc := 128) d_X6_propose_128 rfl rfl h
  · have h := h.2 hc
    refine wp_aload_n (pc := 34) d_X6_propose_34 rfl ?_
    refine wp_aload_n (pc := 35) d_X6_propose_35 rfl ?_
    refine wp_getI (pc := 36) d_X6_propose_36 fl_X6_50 (fun _ _ _ => rfl) ho12 ?_
    refine wp_putI (pc := 39) d_X6_propose_39 fl_X6_53 (fun _ _ _ => rfl) (Or.inl rfl) ho12 (okI_int _) ?_
    refine wp_nm (fun G44 eG44 => ?_)
    have h := h G44 eG44
    have ho45 := isO_sI eG44 ho12
    refine wp_aload_n (pc := 42) d_X6_propose_42 rfl ?_
    refine wp_aload_n (pc := 43) d_X6_propose_43 rfl ?_
    obtain ⟨ho46, h⟩ := h
    refine wp_getR (pc := 44) d_X6_propose_44 fl_X6_109 (fun _ _ _ => rfl) ho46 ?_
    refine wp_aload_n (pc := 47) d_X6_propose_47 rfl ?_
    refine wp_getI (pc := 48) d_X6_propose_48 fl_X6_50 (fun _ _ _ => rfl) ho45 ?_
    obtain ⟨ho47, h⟩ := h
    obtain ⟨hi48, h⟩ := h
    refine wp_iald (pc := 51) d_X6_propose_51 ho47 hi48 ?_
    refine wp_iconst (pc := 52) (v := 1) d_X6_propose_52 rfl ?_
    refine wp_isub (pc := 53) d_X6_propose_53 ?_
    refine wp_invV (pc := 54) (N := M_X6_draw) (As := [vi _]) (rest := []) (r := (cn_6, ct_6, 14)) d_X6_propose_54 ml_X6_114 mk_X6_draw mv_X6_draw h0 ho45 rfl rfl (Nat.le_of_ble_eq_true rfl) ?_
    refine wpM.mono h (fun rr G50 hr => ?_)
    obtain ⟨r49, rfl, h⟩ := hr
    show wp E d M_X6_propose 57 [some (vr _), some (vr _), none, none] [vi _] G50 Q
    refine wp_istore_n (pc := 57) (lv' := [some (vr _), some (vr _), some (vi _), none]) d_X6_propose_57 (by decide) rfl ?_
    refine wp_aload_n (pc := 58) d_X6_propose_58 rfl ?_
    refine wp_aload_n (pc := 59) d_X6_propose_59 rfl ?_
    refine wp_aload_n (pc := 60) d_X6_propose_60 rfl ?_
    obtain ⟨ho51, h⟩ := h
    refine wp_getI (pc := 61) d_X6_propose_61 fl_X6_38 (fun _ _ _ => rfl) ho51 ?_
    refine wp_aload_n (pc := 64) d_X6_propose_64 rfl ?_
    refine wp_getI (pc := 65) d_X6_propose_65 fl_X6_50 (fun _ _ _ => rfl) ho51 ?_
    refine wp_iload_n (pc := 68) d_X6_propose_68 rfl ?_
    refine wp_aload_n (pc := 69) d_X6_propose_69 rfl ?_
    refine wp_aload_n (pc := 70) d_X6_propose_70 rfl ?_
    refine wp_getI (pc := 71) d_X6_propose_71 fl_X6_38 (fun _ _ _ => rfl) ho51 ?_
    refine wp_aload_n (pc := 74) d_X6_propose_74 rfl ?_
    refine wp_getI (pc := 75) d_X6_propose_75 fl_X6_50 (fun _ _ _ => rfl) ho51 ?_
    obtain ⟨ho54, h⟩ := h
    refine wp_invV (pc := 78) (N := M_X7_placeOf) (As := [vi _, vi _]) (rest := [vi _, vi _, vi _, vr _, vr _]) (r := (cn_7, ct_7, 5)) d_X6_propose_78 ml_X6_118 mk_X7_placeOf mv_X7_placeOf h0 ho54 rfl rfl (Nat.le_of_ble_eq_true rfl) ?_
    refine wpM.mono h (fun rr G53 hr => ?_)
    obtain ⟨r52, rfl, h⟩ := hr
    show wp E d M_X6_propose 81 [some (vr _), some (vr _), some (vi _), none] [vi _, vi _, vi _, vi _, vr _, vr _] G53 Q
    refine wp_icmp_ge (pc := 81) (tgt := 88) d_X6_propose_81 (by decide) (fun hc => ?_) (fun hc => ?_)
    · have h := h.1 hc
      refine wp_iload_n (pc := 88) d_X6_propose_88 rfl ?_
      refine wp_iconst (pc := 89) (v := 1) d_X6_propose_89 rfl ?_
      refine wp_iadd (pc := 90) d_X6_propose_90 ?_
      refine wp_sub ?_ h
      exact ⟨rfl, ⟨rfl, ⟨rfl, trivial⟩⟩⟩
    · have h := h.2 hc
      refine wp_iload_n (pc := 84) d_X6_propose_84 rfl ?_
      refine wp_goto (pc := 85) (tgt := 91) d_X6_propose_85 (by decide) ?_
      refine wp_sub ?_ h
      exact ⟨rfl, ⟨rfl, ⟨rfl, trivial⟩⟩⟩
theorem v_X6_propose_91 {E : EE} {d : Nat} {Q : Option AV → AH → Prop} {x0 : Nat} {x1 : Nat} {x2 : Int32} {t0 : Nat} {t1 : Nat} {t2 : Int32} {t3 : Int32} {t4 : Int32} {G : AH} (h0 : 0 < d) (h : isO E G t1 7 ∧ (wpI E (d - 1) M_X7_moved [vr t1, vi t2, vi t3, vi t4] G (fun r1 G2 => isO E G2 t0 6 ∧ (Q (some (vi 1)) (sI G2 t0 9 r1))))) : wp E d M_X6_propose 91 [some (vr x0), some (vr x1), some (vi x2), none] [vi t4, vi t3, vi t2, vr t1, vr t0] G Q := by
  obtain ⟨ho4, h⟩ := h
  refine wp_invV (pc := 91) (N := M_X7_moved) (As := [vi _, vi _, vi _]) (rest := [vr _]) (r := (cn_7, ct_7, 5)) d_X6_propose_91 ml_X6_122 mk_X7_moved mv_X7_moved h0 ho4 rfl rfl (Nat.le_of_ble_eq_true rfl) ?_
  refine wpM.mono h (fun rr G2 hr => ?_)
  obtain ⟨r1, rfl, h⟩ := hr
  show wp E d M_X6_propose 94 [some (vr _), some (vr _), some (vi _), none] [vi _, vr _] G2 Q
  obtain ⟨ho3, h⟩ := h
  refine wp_putI (pc := 94) d_X6_propose_94 fl_X6_41 (fun _ _ _ => rfl) (Or.inl rfl) ho3 (okI_int _) ?_
  refine wp_iconst (pc := 97) (v := 1) d_X6_propose_97 rfl ?_
  exact wp_zret (pc := 98) d_X6_propose_98 rfl rfl h
theorem d_X6_draw_0 : decode prog_8_method_5_code 0 = .ok (.aload_n 0, 1) := by decide +kernel
theorem d_X6_draw_1 : decode prog_8_method_5_code 1 = .ok (.aload_n 0, 1) := by decide +kernel
theorem d_X6_draw_2 : decode prog_8_method_5_code 2 = .ok (.getfield 19, 3) := by decide +kernel
theorem d_X6_draw_5 : decode prog_8_method_5_code 5 = .ok (.ldc 112, 2) := by decide +kernel
theorem d_X6_draw_7 : decode prog_8_method_5_code 7 = .ok (.imul, 1) := by decide +kernel
theorem d_X6_draw_8 : decode prog_8_method_5_code 8 = .ok (.ldc 113, 2) := by decide +kernel
theorem d_X6_draw_10 : decode prog_8_method_5_code 10 = .ok (.iadd, 1) := by decide +kernel
theorem d_X6_draw_11 : decode prog_8_method_5_code 11 = .ok (.putfield 19, 3) := by decide +kernel
theorem d_X6_draw_14 : decode prog_8_method_5_code 14 = .ok (.iload_n 1, 1) := by decide +kernel
theorem d_X6_draw_15 : decode prog_8_method_5_code 15 = .ok (.iconst 1, 1) := by decide +kernel
theorem d_X6_draw_16 : decode prog_8_method_5_code 16 = .ok (.if_icmp .ge 7, 3) := by decide +kernel
theorem d_X6_draw_19 : decode prog_8_method_5_code 19 = .ok (.iconst 0, 1) := by decide +kernel
theorem d_X6_draw_20 : decode prog_8_method_5_code 20 = .ok (.goto 12, 3) := by decide +kernel
theorem d_X6_draw_23 : decode prog_8_method_5_code 23 = .ok (.aload_n 0, 1) := by decide +kernel
theorem d_X6_draw_24 : decode prog_8_method_5_code 24 = .ok (.getfield 19, 3) := by decide +kernel
theorem d_X6_draw_27 : decode prog_8_method_5_code 27 = .ok (.bipush 8, 2) := by decide +kernel
theorem d_X6_draw_29 : decode prog_8_method_5_code 29 = .ok (.iushr, 1) := by decide +kernel
theorem d_X6_draw_30 : decode prog_8_method_5_code 30 = .ok (.iload_n 1, 1) := by decide +kernel
theorem d_X6_draw_31 : decode prog_8_method_5_code 31 = .ok (.irem, 1) := by decide +kernel
theorem d_X6_draw_32 : decode prog_8_method_5_code 32 = .ok (.ireturn, 1) := by decide +kernel
theorem v_X6_draw_0 {E : EE} {d : Nat} {Q : Option AV → AH → Prop} {x0 : Nat} {x1 : Int32} {G : AH} (h : isO E G x0 6 ∧ ((1 ≤ x1 → ¬ x1 = 0 ∧ (Q (some (vi ((iushr (gI (sI G x0 2 (((gI G x0 2) * 1664525) + 1013904223)) x0 2) 8) - (iushr (gI (sI G x0 2 (((gI G x0 2) * 1664525) + 1013904223)) x0 2) 8) / x1 * x1))) (sI G x0 2 (((gI G x0 2) * 1664525) + 1013904223)))) ∧ (¬ (1 ≤ x1) → Q (some (vi 0)) (sI G x0 2 (((gI G x0 2) * 1664525) + 1013904223))))) : wp E d M_X6_draw 0 [some (vr x0), some (vi x1)] [] G Q := by
  refine wp_aload_n (pc := 0) d_X6_draw_0 rfl ?_
  refine wp_aload_n (pc := 1) d_X6_draw_1 rfl ?_
  obtain ⟨ho1, h⟩ := h
  refine wp_getI (pc := 2) d_X6_draw_2 fl_X6_19 (fun _ _ _ => rfl) ho1 ?_
  refine wp_ldc (pc := 5) (v := 1664525) d_X6_draw_5 ci_X6_112 ?_
  refine wp_imul (pc := 7) d_X6_draw_7 ?_
  refine wp_ldc (pc := 8) (v := 1013904223) d_X6_draw_8 ci_X6_113 ?_
  refine wp_iadd (pc := 10) d_X6_draw_10 ?_
  refine wp_putI (pc := 11) d_X6_draw_11 fl_X6_19 (fun _ _ _ => rfl) (Or.inl rfl) ho1 (okI_int _) ?_
  refine wp_iload_n (pc := 14) d_X6_draw_14 rfl ?_
  refine wp_iconst (pc := 15) (v := 1) d_X6_draw_15 rfl ?_
  refine wp_icmp_ge (pc := 16) (tgt := 23) d_X6_draw_16 (by decide) (fun hc => ?_) (fun hc => ?_)
  · have h := h.1 hc
    refine wp_aload_n (pc := 23) d_X6_draw_23 rfl ?_
    refine wp_getI (pc := 24) d_X6_draw_24 fl_X6_19 (fun _ _ _ => rfl) ho1 ?_
    refine wp_bipush (pc := 27) (v := 8) d_X6_draw_27 rfl ?_
    refine wp_iushr (pc := 29) d_X6_draw_29 ?_
    refine wp_iload_n (pc := 30) d_X6_draw_30 rfl ?_
    obtain ⟨hz2, h⟩ := h
    refine wp_irem (pc := 31) d_X6_draw_31 hz2 ?_
    exact wp_iret (pc := 32) d_X6_draw_32 rfl h
  · have h := h.2 hc
    refine wp_iconst (pc := 19) (v := 0) d_X6_draw_19 rfl ?_
    refine wp_goto (pc := 20) (tgt := 32) d_X6_draw_20 (by decide) ?_
    exact wp_iret (pc := 32) d_X6_draw_32 rfl h
theorem d_X6_isTaken_0 : decode prog_8_method_7_code 0 = .ok (.iload_n 2, 1) := by decide +kernel
theorem d_X6_isTaken_1 : decode prog_8_method_7_code 1 = .ok (.iconst 3, 1) := by decide +kernel
theorem d_X6_isTaken_2 : decode prog_8_method_7_code 2 = .ok (.if_icmp .ne 54, 3) := by decide +kernel
theorem d_X6_isTaken_5 : decode prog_8_method_7_code 5 = .ok (.iload 5, 2) := by decide +kernel
theorem d_X6_isTaken_7 : decode prog_8_method_7_code 7 = .ok (.iconst 1, 1) := by decide +kernel
theorem d_X6_isTaken_8 : decode prog_8_method_7_code 8 = .ok (.if_icmp .ge 7, 3) := by decide +kernel
theorem d_X6_isTaken_11 : decode prog_8_method_7_code 11 = .ok (.lconst 0, 1) := by decide +kernel
theorem d_X6_isTaken_12 : decode prog_8_method_7_code 12 = .ok (.goto 13, 3) := by decide +kernel
theorem d_X6_isTaken_15 : decode prog_8_method_7_code 15 = .ok (.iload_n 3, 1) := by decide +kernel
theorem d_X6_isTaken_16 : decode prog_8_method_7_code 16 = .ok (.iload_n 3, 1) := by decide +kernel
theorem d_X6_isTaken_17 : decode prog_8_method_7_code 17 = .ok (.iload 4, 2) := by decide +kernel
theorem d_X6_isTaken_19 : decode prog_8_method_7_code 19 = .ok (.imul, 1) := by decide +kernel
theorem d_X6_isTaken_20 : decode prog_8_method_7_code 20 = .ok (.iload 5, 2) := by decide +kernel
theorem d_X6_isTaken_22 : decode prog_8_method_7_code 22 = .ok (.idiv, 1) := by decide +kernel
theorem d_X6_isTaken_23 : decode prog_8_method_7_code 23 = .ok (.isub, 1) := by decide +kernel
theorem d_X6_isTaken_24 : decode prog_8_method_7_code 24 = .ok (.i2l, 1) := by decide +kernel
theorem d_X6_isTaken_25 : decode prog_8_method_7_code 25 = .ok (.lstore 6, 2) := by decide +kernel
theorem d_X6_isTaken_27 : decode prog_8_method_7_code 27 = .ok (.aload_n 1, 1) := by decide +kernel
theorem d_X6_isTaken_28 : decode prog_8_method_7_code 28 = .ok (.aload_n 0, 1) := by decide +kernel
theorem d_X6_isTaken_29 : decode prog_8_method_7_code 29 = .ok (.getfield 41, 3) := by decide +kernel
theorem d_X6_isTaken_32 : decode prog_8_method_7_code 32 = .ok (.invokestatic 132, 3) := by decide +kernel
theorem d_X6_isTaken_35 : decode prog_8_method_7_code 35 = .ok (.aload_n 1, 1) := by decide +kernel
theorem d_X6_isTaken_36 : decode prog_8_method_7_code 36 = .ok (.aload_n 0, 1) := by decide +kernel
theorem d_X6_isTaken_37 : decode prog_8_method_7_code 37 = .ok (.getfield 38, 3) := by decide +kernel
theorem d_X6_isTaken_40 : decode prog_8_method_7_code 40 = .ok (.invokestatic 132, 3) := by decide +kernel
theorem d_X6_isTaken_43 : decode prog_8_method_7_code 43 = .ok (.lsub, 1) := by decide +kernel
theorem d_X6_isTaken_44 : decode prog_8_method_7_code 44 = .ok (.lload 6, 2) := by decide +kernel
theorem d_X6_isTaken_46 : decode prog_8_method_7_code 46 = .ok (.lcmp, 1) := by decide +kernel
theorem d_X6_isTaken_47 : decode prog_8_method_7_code 47 = .ok (.ifCond .gt 7, 3) := by decide +kernel
theorem d_X6_isTaken_50 : decode prog_8_method_7_code 50 = .ok (.iconst 1, 1) := by decide +kernel
theorem d_X6_isTaken_51 : decode prog_8_method_7_code 51 = .ok (.goto 4, 3) := by decide +kernel
theorem d_X6_isTaken_54 : decode prog_8_method_7_code 54 = .ok (.iconst 0, 1) := by decide +kernel
theorem d_X6_isTaken_55 : decode prog_8_method_7_code 55 = .ok (.ireturn, 1) := by decide +kernel
theorem d_X6_isTaken_56 : decode prog_8_method_7_code 56 = .ok (.iload_n 2, 1) := by decide +kernel
theorem d_X6_isTaken_57 : decode prog_8_method_7_code 57 = .ok (.iconst 2, 1) := by decide +kernel
theorem d_X6_isTaken_58 : decode prog_8_method_7_code 58 = .ok (.if_icmp .ne 35, 3) := by decide +kernel
theorem d_X6_isTaken_61 : decode prog_8_method_7_code 61 = .ok (.iload 4, 2) := by decide +kernel
theorem d_X6_isTaken_63 : decode prog_8_method_7_code 63 = .ok (.aload_n 0, 1) := by decide +kernel
theorem d_X6_isTaken_64 : decode prog_8_method_7_code 64 = .ok (.getfield 35, 3) := by decide +kernel
theorem d_X6_isTaken_67 : decode prog_8_method_7_code 67 = .ok (.aload_n 0, 1) := by decide +kernel
theorem d_X6_isTaken_68 : decode prog_8_method_7_code 68 = .ok (.getfield 50, 3) := by decide +kernel
theorem d_X6_isTaken_71 : decode prog_8_method_7_code 71 = .ok (.iaload, 1) := by decide +kernel
theorem d_X6_isTaken_72 : decode prog_8_method_7_code 72 = .ok (.if_icmp .le 17, 3) := by decide +kernel
theorem d_X6_isTaken_75 : decode prog_8_method_7_code 75 = .ok (.iload 4, 2) := by decide +kernel
theorem d_X6_isTaken_77 : decode prog_8_method_7_code 77 = .ok (.aload_n 0, 1) := by decide +kernel
theorem d_X6_isTaken_78 : decode prog_8_method_7_code 78 = .ok (.getfield 35, 3) := by decide +kernel
theorem d_X6_isTaken_81 : decode prog_8_method_7_code 81 = .ok (.aload_n 0, 1) := by decide +kernel
theorem d_X6_isTaken_82 : decode prog_8_method_7_code 82 = .ok (.getfield 53, 3) := by decide +kernel
theorem d_X6_isTaken_85 : decode prog_8_method_7_code 85 = .ok (.iaload, 1) := by decide +kernel
theorem d_X6_isTaken_86 : decode prog_8_method_7_code 86 = .ok (.if_icmp .gt 7, 3) := by decide +kernel
theorem d_X6_isTaken_89 : decode prog_8_method_7_code 89 = .ok (.iconst 1, 1) := by decide +kernel
theorem d_X6_isTaken_90 : decode prog_8_method_7_code 90 = .ok (.goto 4, 3) := by decide +kernel
theorem d_X6_isTaken_93 : decode prog_8_method_7_code 93 = .ok (.iconst 0, 1) := by decide +kernel
theorem d_X6_isTaken_94 : decode prog_8_method_7_code 94 = .ok (.istore 6, 2) := by decide +kernel
theorem d_X6_isTaken_96 : decode prog_8_method_7_code 96 = .ok (.iload 6, 2) := by decide +kernel
theorem d_X6_isTaken_98 : decode prog_8_method_7_code 98 = .ok (.ifCond .eq 20, 3) := by decide +kernel
theorem d_X6_isTaken_101 : decode prog_8_method_7_code 101 = .ok (.aload_n 1, 1) := by decide +kernel
theorem d_X6_isTaken_102 : decode prog_8_method_7_code 102 = .ok (.aload_n 0, 1) := by decide +kernel
theorem d_X6_isTaken_103 : decode prog_8_method_7_code 103 = .ok (.getfield 41, 3) := by decide +kernel
theorem d_X6_isTaken_106 : decode prog_8_method_7_code 106 = .ok (.aload_n 0, 1) := by decide +kernel
theorem d_X6_isTaken_107 : decode prog_8_method_7_code 107 = .ok (.getfield 44, 3) := by decide +kernel
theorem d_X6_isTaken_110 : decode prog_8_method_7_code 110 = .ok (.invokevirtual 136, 3) := by decide +kernel
theorem d_X6_isTaken_113 : decode prog_8_method_7_code 113 = .ok (.ifCond .ne 5, 3) := by decide +kernel
theorem d_X6_isTaken_116 : decode prog_8_method_7_code 116 = .ok (.iconst 0, 1) := by decide +kernel
theorem d_X6_isTaken_117 : decode prog_8_method_7_code 117 = .ok (.ireturn, 1) := by decide +kernel
theorem d_X6_isTaken_118 : decode prog_8_method_7_code 118 = .ok (.aload_n 1, 1) := by decide +kernel
theorem d_X6_isTaken_119 : decode prog_8_method_7_code 119 = .ok (.aload_n 0, 1) := by decide +kernel
theorem d_X6_isTaken_120 : decode prog_8_method_7_code 120 = .ok (.getfield 38, 3) := by decide +kernel
theorem d_X6_isTaken_123 : decode prog_8_method_7_code 123 = .ok (.aload_n 0, 1) := by decide +kernel
theorem d_X6_isTaken_124 : decode prog_8_method_7_code 124 = .ok (.getfield 41, 3) := by decide +kernel
theorem d_X6_isTaken_127 : decode prog_8_method_7_code 127 = .ok (.invokevirtual 136, 3) := by decide +kernel
theorem d_X6_isTaken_130 : decode prog_8_method_7_code 130 = .ok (.ifCond .ne 5, 3) := by decide +kernel
theorem d_X6_isTaken_133 : decode prog_8_method_7_code 133 = .ok (.iconst 1, 1) := by decide +kernel
theorem d_X6_isTaken_134 : decode prog_8_method_7_code 134 = .ok (.ireturn, 1) := by decide +kernel
theorem d_X6_isTaken_135 : decode prog_8_method_7_code 135 = .ok (.iload_n 2, 1) := by decide +kernel
theorem d_X6_isTaken_136 : decode prog_8_method_7_code 136 = .ok (.iconst 1, 1) := by decide +kernel
theorem d_X6_isTaken_137 : decode prog_8_method_7_code 137 = .ok (.if_icmp .ne 39, 3) := by decide +kernel
theorem d_X6_isTaken_140 : decode prog_8_method_7_code 140 = .ok (.iload_n 3, 1) := by decide +kernel
theorem d_X6_isTaken_141 : decode prog_8_method_7_code 141 = .ok (.ifCond .le 33, 3) := by decide +kernel
theorem d_X6_isTaken_144 : decode prog_8_method_7_code 144 = .ok (.iload_n 3, 1) := by decide +kernel
theorem d_X6_isTaken_145 : decode prog_8_method_7_code 145 = .ok (.bipush 20, 2) := by decide +kernel
theorem d_X6_isTaken_147 : decode prog_8_method_7_code 147 = .ok (.if_icmp .gt 27, 3) := by decide +kernel
theorem d_X6_isTaken_150 : decode prog_8_method_7_code 150 = .ok (.aload_n 1, 1) := by decide +kernel
theorem d_X6_isTaken_151 : decode prog_8_method_7_code 151 = .ok (.aload_n 0, 1) := by decide +kernel
theorem d_X6_isTaken_152 : decode prog_8_method_7_code 152 = .ok (.getfield 32, 3) := by decide +kernel
theorem d_X6_isTaken_155 : decode prog_8_method_7_code 155 = .ok (.iload 4, 2) := by decide +kernel
theorem d_X6_isTaken_157 : decode prog_8_method_7_code 157 = .ok (.iload_n 3, 1) := by decide +kernel
theorem d_X6_isTaken_158 : decode prog_8_method_7_code 158 = .ok (.irem, 1) := by decide +kernel
theorem d_X6_isTaken_159 : decode prog_8_method_7_code 159 = .ok (.iaload, 1) := by decide +kernel
theorem d_X6_isTaken_160 : decode prog_8_method_7_code 160 = .ok (.aload_n 0, 1) := by decide +kernel
theorem d_X6_isTaken_161 : decode prog_8_method_7_code 161 = .ok (.getfield 41, 3) := by decide +kernel
theorem d_X6_isTaken_164 : decode prog_8_method_7_code 164 = .ok (.invokevirtual 136, 3) := by decide +kernel
theorem d_X6_isTaken_167 : decode prog_8_method_7_code 167 = .ok (.ifCond .ne 7, 3) := by decide +kernel
theorem d_X6_isTaken_170 : decode prog_8_method_7_code 170 = .ok (.iconst 1, 1) := by decide +kernel
theorem d_X6_isTaken_171 : decode prog_8_method_7_code 171 = .ok (.goto 4, 3) := by decide +kernel
theorem d_X6_isTaken_174 : decode prog_8_method_7_code 174 = .ok (.iconst 0, 1) := by decide +kernel
theorem d_X6_isTaken_175 : decode prog_8_method_7_code 175 = .ok (.ireturn, 1) := by decide +kernel
theorem d_X6_isTaken_176 : decode prog_8_method_7_code 176 = .ok (.iload_n 2, 1) := by decide +kernel
theorem d_X6_isTaken_177 : decode prog_8_method_7_code 177 = .ok (.iconst 2, 1) := by decide +kernel
theorem d_X6_isTaken_178 : decode prog_8_method_7_code 178 = .ok (.if_icmp .ne 16, 3) := by decide +kernel
theorem d_X6_isTaken_181 : decode prog_8_method_7_code 181 = .ok (.aload_n 0, 1) := by decide +kernel
theorem d_X6_isTaken_182 : decode prog_8_method_7_code 182 = .ok (.bipush 8, 2) := by decide +kernel
theorem d_X6_isTaken_184 : decode prog_8_method_7_code 184 = .ok (.invokevirtual 114, 3) := by decide +kernel
theorem d_X6_isTaken_187 : decode prog_8_method_7_code 187 = .ok (.ifCond .ne 7, 3) := by decide +kernel
theorem d_X6_isTaken_190 : decode prog_8_method_7_code 190 = .ok (.iconst 1, 1) := by decide +kernel
theorem d_X6_isTaken_191 : decode prog_8_method_7_code 191 = .ok (.goto 4, 3) := by decide +kernel
theorem d_X6_isTaken_194 : decode prog_8_method_7_code 194 = .ok (.iconst 0, 1) := by decide +kernel
theorem d_X6_isTaken_195 : decode prog_8_method_7_code 195 = .ok (.ireturn, 1) := by decide +kernel
theorem v_X6_isTaken_0 {E : EE} {d : Nat} {Q : Option AV → AH → Prop} {x0 : Nat} {x1 : Nat} {x2 : Int32} {x3 : Int32} {x4 : Int32} {x5 : Int32} {G : AH} (h : (¬ x2 = 3 → (¬ x2 = 2 → wp E d M_X6_isTaken 93 [some (vr x0), some (vr x1), some (vi x2), some (vi x3), some (vi x4), some (vi x5), none, none] [] G Q) ∧ (x2 = 2 → isO E G x0 6 ∧ (isO E G (gR G x0 7) 14 ∧ (vp_in (gI G x0 12) (gN G (gR G x0 7)) ∧ ((x4 ≤ (gI G (gR G x0 7) (Int32.toNatClampNeg (gI G x0 12))) → wp E d M_X6_isTaken 89 [some (vr x0), some (vr x1), some (vi x2), some (vi x3), some (vi x4), some (vi x5), none, none] [] G Q) ∧ (¬ (x4 ≤ (gI G (gR G x0 7) (Int32.toNatClampNeg (gI G x0 12)))) → vp_in (gI G x0 13) (gN G (gR G x0 7)) ∧ (((gI G (gR G x0 7) (Int32.toNatClampNeg (gI G x0 13))) < x4 → wp E d M_X6_isTaken 93 [some (vr x0), some (vr x1), some (vi x2), some (vi x3), some (vi x4), some (vi x5), none, none] [] G Q) ∧ (¬ ((gI G (gR G x0 7) (Int32.toNatClampNeg (gI G x0 13))) < x4) → wp E d M_X6_isTaken 89 [some (vr x0), some (vr x1), some (vi x2), some (vi x3), some (vi x4), some (vi x5), none, none] [] G Q)))))))) ∧ (x2 = 3 → (1 ≤ x5 → ¬ x5 = 0 ∧ (wp E d M_X6_isTaken 25 [some (vr x0), some (vr x1), some (vi x2), some (vi x3), some (vi x4), some (vi x5), none, none] [vj (Int32.toInt64 (x3 - ((x3 * x4) / x5)))] G Q)) ∧ (¬ (1 ≤ x5) → wp E d M_X6_isTaken 25 [some (vr x0), some (vr x1), some (vi x2), some (vi x3), some (vi x4), some (vi x5), none, none] [vj 0] G Q))) : wp E d M_X6_isTaken 0 [some (vr x0), some (vr x1), some (vi x2), some (vi x3), some (vi x4), some (vi x5), none, none] [] G Q := by
  refine wp_iload_n (pc := 0) d_X6_isTaken_0 rfl ?_
  refine wp_iconst (pc := 1) (v := 3) d_X6_isTaken_1 rfl ?_
  refine wp_icmp_ne (pc := 2) (tgt := 56) d_X6_isTaken_2 (by decide) (fun hc => ?_) (fun hc => ?_)
  · have h := h.1 hc
    refine wp_iload_n (pc := 56) d_X6_isTaken_56 rfl ?_
    refine wp_iconst (pc := 57) (v := 2) d_X6_isTaken_57 rfl ?_
    refine wp_icmp_ne (pc := 58) (tgt := 93) d_X6_isTaken_58 (by decide) (fun hc => ?_) (fun hc => ?_)
    · have h := h.1 hc
      refine wp_sub ?_ h
      exact ⟨rfl, ⟨rfl, ⟨rfl, ⟨rfl, ⟨rfl, ⟨rfl, trivial⟩⟩⟩⟩⟩⟩
    · have h := h.2 hc
      refine wp_iload (pc := 61) d_X6_isTaken_61 rfl ?_
      refine wp_aload_n (pc := 63) d_X6_isTaken_63 rfl ?_
      obtain ⟨ho1, h⟩ := h
      refine wp_getR (pc := 64) d_X6_isTaken_64 fl_X6_35 (fun _ _ _ => rfl) ho1 ?_
      refine wp_aload_n (pc := 67) d_X6_isTaken_67 rfl ?_
      refine wp_getI (pc := 68) d_X6_isTaken_68 fl_X6_50 (fun _ _ _ => rfl) ho1 ?_
      obtain ⟨ho2, h⟩ := h
      obtain ⟨hi3, h⟩ := h
      refine wp_iald (pc := 71) d_X6_isTaken_71 ho2 hi3 ?_
      refine wp_icmp_le (pc := 72) (tgt := 89) d_X6_isTaken_72 (by decide) (fun hc => ?_) (fun hc => ?_)
      · have h := h.1 hc
        refine wp_sub ?_ h
        exact ⟨rfl, ⟨rfl, ⟨rfl, ⟨rfl, ⟨rfl, ⟨rfl, trivial⟩⟩⟩⟩⟩⟩
      · have h := h.2 hc
        refine wp_iload (pc := 75) d_X6_isTaken_75 rfl ?_
        refine wp_aload_n (pc := 77) d_X6_isTaken_77 rfl ?_
        refine wp_getR (pc := 78) d_X6_isTaken_78 fl_X6_35 (fun _ _ _ => rfl) ho1 ?_
        refine wp_aload_n (pc := 81) d_X6_isTaken_81 rfl ?_
        refine wp_getI (pc := 82) d_X6_isTaken_82 fl_X6_53 (fun _ _ _ => rfl) ho1 ?_
        obtain ⟨hi4, h⟩ := h
        refine wp_iald (pc := 85) d_X6_isTaken_85 ho2 hi4 ?_
        refine wp_icmp_gt (pc := 86) (tgt := 93) d_X6_isTaken_86 (by decide) (fun hc => ?_) (fun hc => ?_)
        · have h := h.1 hc
          refine wp_sub ?_ h
          exact ⟨rfl, ⟨rfl, ⟨rfl, ⟨rfl, ⟨rfl, ⟨rfl, trivial⟩⟩⟩⟩⟩⟩
        · have h := h.2 hc
          refine wp_sub ?_ h
          exact ⟨rfl, ⟨rfl, ⟨rfl, ⟨rfl, ⟨rfl, ⟨rfl, trivial⟩⟩⟩⟩⟩⟩
  · have h := h.2 hc
    refine wp_iload (pc := 5) d_X6_isTaken_5 rfl ?_
    refine wp_iconst (pc := 7) (v := 1) d_X6_isTaken_7 rfl ?_
    refine wp_icmp_ge (pc := 8) (tgt := 15) d_X6_isTaken_8 (by decide) (fun hc => ?_) (fun hc => ?_)
    · have h := h.1 hc
      refine wp_iload_n (pc := 15) d_X6_isTaken_15 rfl ?_
      refine wp_iload_n (pc := 16) d_X6_isTaken_16 rfl ?_
      refine wp_iload (pc := 17) d_X6_isTaken_17 rfl ?_
      refine wp_imul (pc := 19) d_X6_isTaken_19 ?_
      refine wp_iload (pc := 20) d_X6_isTaken_20 rfl ?_
      obtain ⟨hz5, h⟩ := h
      refine wp_idiv (pc := 22) d_X6_isTaken_22 hz5 ?_
      refine wp_isub (pc := 23) d_X6_isTaken_23 ?_
      refine wp_i2l (pc := 24) d_X6_isTaken_24 ?_
      refine wp_sub ?_ h
      exact ⟨rfl, ⟨rfl, ⟨rfl, ⟨rfl, ⟨rfl, ⟨rfl, trivial⟩⟩⟩⟩⟩⟩
    · have h := h.2 hc
      refine wp_lconst (pc := 11) (v := 0) d_X6_isTaken_11 rfl ?_
      refine wp_goto (pc := 12) (tgt := 25) d_X6_isTaken_12 (by decide) ?_
      refine wp_sub ?_ h
      exact ⟨rfl, ⟨rfl, ⟨rfl, ⟨rfl, ⟨rfl, ⟨rfl, trivial⟩⟩⟩⟩⟩⟩
theorem v_X6_isTaken_25 {E : EE} {d : Nat} {Q : Option AV → AH → Prop} {x0 : Nat} {x1 : Nat} {x2 : Int32} {x3 : Int32} {x4 : Int32} {x5 : Int32} {t0 : Int64} {G : AH} (h0 : 0 < d) (h : isO E G x0 6 ∧ (wpJ E (d - 1) M_X6_worth [vr x1, vi (gI G x0 9)] G (fun r2 G3 => isO E G3 x0 6 ∧ (wpJ E (d - 1) M_X6_worth [vr x1, vi (gI G3 x0 8)] G3 (fun r5 G6 => (t0 < (r2 - r5) → Q (some (vi 0)) G6) ∧ (¬ (t0 < (r2 - r5)) → Q (some (vi 1)) G6)))))) : wp E d M_X6_isTaken 25 [some (vr x0), some (vr x1), some (vi x2), some (vi x3), some (vi x4), some (vi x5), none, none] [vj t0] G Q := by
  refine wp_lstore (pc := 25) (lv' := [some (vr _), some (vr _), some (vi _), some (vi _), some (vi _), some (vi _), some (vj _), none]) d_X6_isTaken_25 (by decide) rfl ?_
  refine wp_aload_n (pc := 27) d_X6_isTaken_27 rfl ?_
  refine wp_aload_n (pc := 28) d_X6_isTaken_28 rfl ?_
  obtain ⟨ho1, h⟩ := h
  refine wp_getI (pc := 29) d_X6_isTaken_29 fl_X6_41 (fun _ _ _ => rfl) ho1 ?_
  refine wp_invS (pc := 32) (N := M_X6_worth) (As := [vr _, vi _]) (rest := []) d_X6_isTaken_32 ml_X6_132 mk_X6_worth ms_X6_worth h0 (Nat.le_of_ble_eq_true rfl) ?_
  refine wpM.mono h (fun rr G3 hr => ?_)
  obtain ⟨r2, rfl, h⟩ := hr
  show wp E d M_X6_isTaken 35 [some (vr _), some (vr _), some (vi _), some (vi _), some (vi _), some (vi _), some (vj _), none] [vj _] G3 Q
  refine wp_aload_n (pc := 35) d_X6_isTaken_35 rfl ?_
  refine wp_aload_n (pc := 36) d_X6_isTaken_36 rfl ?_
  obtain ⟨ho4, h⟩ := h
  refine wp_getI (pc := 37) d_X6_isTaken_37 fl_X6_38 (fun _ _ _ => rfl) ho4 ?_
  refine wp_invS (pc := 40) (N := M_X6_worth) (As := [vr _, vi _]) (rest := [vj _]) d_X6_isTaken_40 ml_X6_132 mk_X6_worth ms_X6_worth h0 (Nat.le_of_ble_eq_true rfl) ?_
  refine wpM.mono h (fun rr G6 hr => ?_)
  obtain ⟨r5, rfl, h⟩ := hr
  show wp E d M_X6_isTaken 43 [some (vr _), some (vr _), some (vi _), some (vi _), some (vi _), some (vi _), some (vj _), none] [vj _, vj _] G6 Q
  refine wp_lsub (pc := 43) d_X6_isTaken_43 ?_
  refine wp_lload (pc := 44) d_X6_isTaken_44 rfl ?_
  refine wp_lcmp_gt (pc := 46) (tgt := 54) d_X6_isTaken_46 d_X6_isTaken_47 (by decide) (fun hc => ?_) (fun hc => ?_)
  · have h := h.1 hc
    refine wp_iconst (pc := 54) (v := 0) d_X6_isTaken_54 rfl ?_
    exact wp_zret (pc := 55) d_X6_isTaken_55 rfl rfl h
  · have h := h.2 hc
    refine wp_iconst (pc := 50) (v := 1) d_X6_isTaken_50 rfl ?_
    refine wp_goto (pc := 51) (tgt := 55) d_X6_isTaken_51 (by decide) ?_
    exact wp_zret (pc := 55) d_X6_isTaken_55 rfl rfl h
theorem v_X6_isTaken_89 {E : EE} {d : Nat} {Q : Option AV → AH → Prop} {x0 : Nat} {x1 : Nat} {x2 : Int32} {x3 : Int32} {x4 : Int32} {x5 : Int32} {G : AH} (h : wp E d M_X6_isTaken 94 [some (vr x0), some (vr x1), some (vi x2), some (vi x3), some (vi x4), some (vi x5), none, none] [vi 1] G Q) : wp E d M_X6_isTaken 89 [some (vr x0), some (vr x1), some (vi x2), some (vi x3), some (vi x4), some (vi x5), none, none] [] G Q := by
  refine wp_iconst (pc := 89) (v := 1) d_X6_isTaken_89 rfl ?_
  refine wp_goto (pc := 90) (tgt := 94) d_X6_isTaken_90 (by decide) ?_
  refine wp_sub ?_ h
  exact ⟨rfl, ⟨rfl, ⟨rfl, ⟨rfl, ⟨rfl, ⟨rfl, trivial⟩⟩⟩⟩⟩⟩
theorem v_X6_isTaken_93 {E : EE} {d : Nat} {Q : Option AV → AH → Prop} {x0 : Nat} {x1 : Nat} {x2 : Int32} {x3 : Int32} {x4 : Int32} {x5 : Int32} {G : AH} (h : wp E d M_X6_isTaken 94 [some (vr x0), some (vr x1), some (vi x2), some (vi x3), some (vi x4), some (vi x5), none, none] [vi 0] G Q) : wp E d M_X6_isTaken 93 [some (vr x0), some (vr x1), some (vi x2), some (vi x3), some (vi x4), some (vi x5), none, none] [] G Q := by
  refine wp_iconst (pc := 93) (v := 0) d_X6_isTaken_93 rfl ?_
  refine wp_sub ?_ h
  exact ⟨rfl, ⟨rfl, ⟨rfl, ⟨rfl, ⟨rfl, ⟨rfl, trivial⟩⟩⟩⟩⟩⟩
theorem v_X6_isTaken_94 {E : EE} {d : Nat} {Q : Option AV → AH → Prop} {x0 : Nat} {x1 : Nat} {x2 : Int32} {x3 : Int32} {x4 : Int32} {x5 : Int32} {t0 : Int32} {G : AH} (h0 : 0 < d) (h : (t0 = 0 → wp E d M_X6_isTaken 118 [some (vr x0), some (vr x1), some (vi x2), some (vi x3), some (vi x4), some (vi x5), some (vi t0), none] [] G Q) ∧ (¬ (t0 = 0) → isO E G x0 6 ∧ (isO E G x1 9 ∧ (wpI E (d - 1) M_X9_isBetter [vr x1, vi (gI G x0 9), vi (gI G x0 10)] G (fun r2 G3 => (¬ r2 = 0 → wp E d M_X6_isTaken 118 [some (vr x0), some (vr x1), some (vi x2), some (vi x3), some (vi x4), some (vi x5), some (vi t0), none] [] G3 Q) ∧ (r2 = 0 → Q (some (vi 0)) G3)))))) : wp E d M_X6_isTaken 94 [some (vr x0), some (vr x1), some (vi x2), some (vi x3), some (vi x4), some (vi x5), none, none] [vi t0] G Q := by
  refine wp_istore (pc := 94) (lv' := [some (vr _), some (vr _), some (vi _), some (vi _), some (vi _), some (vi _), some (vi _), none]) d_X6_isTaken_94 (by decide) rfl ?_
  refine wp_iload (pc := 96) d_X6_isTaken_96 rfl ?_
  refine wp_if_eq (pc := 98) (tgt := 118) d_X6_isTaken_98 (by decide) (fun hc => ?_) (fun hc => ?_)
  · have h := h.1 hc
    refine wp_sub ?_ h
    exact ⟨rfl, ⟨rfl, ⟨rfl, ⟨rfl, ⟨rfl, ⟨rfl, ⟨rfl, trivial⟩⟩⟩⟩⟩⟩⟩
  · have h := h.2 hc
    refine wp_aload_n (pc := 101) d_X6_isTaken_101 rfl ?_
    refine wp_aload_n (pc := 102) d_X6_isTaken_102 rfl ?_
    obtain ⟨ho1, h⟩ := h
    refine wp_getI (pc := 103) d_X6_isTaken_103 fl_X6_41 (fun _ _ _ => rfl) ho1 ?_
    refine wp_aload_n (pc := 106) d_X6_isTaken_106 rfl ?_
    refine wp_getI (pc := 107) d_X6_isTaken_107 fl_X6_44 (fun _ _ _ => rfl) ho1 ?_
    obtain ⟨ho4, h⟩ := h
    refine wp_invV (pc := 110) (N := M_X9_isBetter) (As := [vi _, vi _]) (rest := []) (r := (cn_9, ct_9, 8)) d_X6_isTaken_110 ml_X6_136 mk_X9_isBetter mv_X9_isBetter h0 ho4 rfl rfl (Nat.le_of_ble_eq_true rfl) ?_
    refine wpM.mono h (fun rr G3 hr => ?_)
    obtain ⟨r2, rfl, h⟩ := hr
    show wp E d M_X6_isTaken 113 [some (vr _), some (vr _), some (vi _), some (vi _), some (vi _), some (vi _), some (vi _), none] [vi _] G3 Q
    refine wp_if_ne (pc := 113) (tgt := 118) d_X6_isTaken_113 (by decide) (fun hc => ?_) (fun hc => ?_)
    · have h := h.1 hc
      refine wp_sub ?_ h
      exact ⟨rfl, ⟨rfl, ⟨rfl, ⟨rfl, ⟨rfl, ⟨rfl, ⟨rfl, trivial⟩⟩⟩⟩⟩⟩⟩
    · have h := h.2 hc
      refine wp_iconst (pc := 116) (v := 0) d_X6_isTaken_116 rfl ?_
      exact wp_zret (pc := 117) d_X6_isTaken_117 rfl rfl h
theorem v_X6_isTaken_118 {E : EE} {d : Nat} {Q : Option AV → AH → Prop} {x0 : Nat} {x1 : Nat} {x2 : Int32} {x3 : Int32} {x4 : Int32} {x5 : Int32} {x6 : Int32} {G : AH} (h0 : 0 < d) (h : isO E G x0 6 ∧ (isO E G x1 9 ∧ (wpI E (d - 1) M_X9_isBetter [vr x1, vi (gI G x0 8), vi (gI G x0 9)] G (fun r2 G3 => (¬ r2 = 0 → (¬ x2 = 1 → (¬ x2 = 2 → Q (some (vi 0)) G3) ∧ (x2 = 2 → isO E G3 x0 6 ∧ (wpI E (d - 1) M_X6_draw [vr x0, vi 8] G3 (fun r4 G5 => (¬ r4 = 0 → Q (some (vi 0)) G5) ∧ (r4 = 0 → Q (some (vi 1)) G5))))) ∧ (x2 = 1 → (x3 ≤ 0 → Q (some (vi 0)) G3) ∧ (¬ (x3 ≤ 0) → (20 < x3 → Q (some (vi 0)) G3) ∧ (¬ (20 < x3) → isO E G3 x0 6 ∧ (¬ x3 = 0 ∧ (isO E G3 (gR G3 x0 6) 14 ∧ (vp_in (x4 - x4 / x3 * x3) (gN G3 (gR G3 x0 6)) ∧ (isO E G3 x1 9 ∧ (wpI E (d - 1) M_X9_isBetter [vr x1, vi (gI G3 (gR G3 x0 6) (Int32.toNatClampNeg (x4 - x4 / x3 * x3))), vi (gI G3 x0 9)] G3 (fun r11 G12 => (¬ r11 = 0 → Q (some (vi 0)) G12) ∧ (r11 = 0 → Q (some (vi 1)) G12))))))))))) ∧ (r2 = 0 → Q (some (vi 1)) G3))))) : wp E d M_X6_isTaken 118 [some (vr x0), some (vr x1), some (vi x2), some (vi x3), some (vi x4), some (vi x5), some (vi x6), none] [] G Q := by
  refine wp_aload_n (pc := 118) d_X6_isTaken_118 rfl ?_
  refine wp_aload_n (pc := 119) d_X6_isTaken_119 rfl ?_
  obtain ⟨ho1, h⟩ := h
  refine wp_getI (pc := 120) d_X6_isTaken_120 fl_X6_38 (fun _ _ _ => rfl) ho1 ?_
  refine wp_aload_n (pc := 123) d_X6_isTaken_123 rfl ?_
  refine wp_getI (pc := 124) d_X6_isTaken_124 fl_X6_41 (fun _ _ _ => rfl) ho1 ?_
  obtain ⟨ho14, h⟩ := h
  refine wp_invV (pc := 127) (N := M_X9_isBetter) (As := [vi _, vi _]) (rest := []) (r := (cn_9, ct_9, 8)) d_X6_isTaken_127 ml_X6_136 mk_X9_isBetter mv_X9_isBetter h0 ho14 rfl rfl (Nat.le_of_ble_eq_true rfl) ?_
  refine wpM.mono h (fun rr G3 hr => ?_)
  obtain ⟨r2, rfl, h⟩ := hr
  show wp E d M_X6_isTaken 130 [some (vr _), some (vr _), some (vi _), some (vi _), some (vi _), some (vi _), some (vi _), none] [vi _] G3 Q
  refine wp_if_ne (pc := 130) (tgt := 135) d_X6_isTaken_130 (by decide) (fun hc => ?_) (fun hc => ?_)
  · have h := h.1 hc
    refine wp_iload_n (pc := 135) d_X6_isTaken_135 rfl ?_
    refine wp_iconst (pc := 136) (v := 1) d_X6_isTaken_136 rfl ?_
    refine wp_icmp_ne (pc := 137) (tgt := 176) d_X6_isTaken_137 (by decide) (fun hc => ?_) (fun hc => ?_)
    · have h := h.1 hc
      refine wp_iload_n (pc := 176) d_X6_isTaken_176 rfl ?_
      refine wp_iconst (pc := 177) (v := 2) d_X6_isTaken_177 rfl ?_
      refine wp_icmp_ne (pc := 178) (tgt := 194) d_X6_isTaken_178 (by decide) (fun hc => ?_) (fun hc => ?_)
      · have h := h.1 hc
        refine wp_iconst (pc := 194) (v := 0) d_X6_isTaken_194 rfl ?_
        exact wp_zret (pc := 195) d_X6_isTaken_195 rfl rfl h
      · have h := h.2 hc
        refine wp_aload_n (pc := 181) d_X6_isTaken_181 rfl ?_
        refine wp_bipush (pc := 182) (v := 8) d_X6_isTaken_182 rfl ?_
        obtain ⟨ho6, h⟩ := h
        refine wp_invV (pc := 184) (N := M_X6_draw) (As := [vi _]) (rest := []) (r := (cn_6, ct_6, 14)) d_X6_isTaken_184 ml_X6_114 mk_X6_draw mv_X6_draw h0 ho6 rfl rfl (Nat.le_of_ble_eq_true rfl) ?_
        refine wpM.mono h (fun rr G5 hr => ?_)
        obtain ⟨r4, rfl, h⟩ := hr
        show wp E d M_X6_isTaken 187 [some (vr _), some (vr _), some (vi _), some (vi _), some (vi _), some (vi _), some (vi _), none] [vi _] G5 Q
        refine wp_if_ne (pc := 187) (tgt := 194) d_X6_isTaken_187 (by decide) (fun hc => ?_) (fun hc => ?_)
        · have h := h.1 hc
          refine wp_iconst (pc := 194) (v := 0) d_X6_isTaken_194 rfl ?_
          exact wp_zret (pc := 195) d_X6_isTaken_195 rfl rfl h
        · have h := h.2 hc
          refine wp_iconst (pc := 190) (v := 1) d_X6_isTaken_190 rfl ?_
          refine wp_goto (pc := 191) (tgt := 195) d_X6_isTaken_191 (by decide) ?_
          exact wp_zret (pc := 195) d_X6_isTaken_195 rfl rfl h
    · have h := h.2 hc
      refine wp_iload_n (pc := 140) d_X6_isTaken_140 rfl ?_
      refine wp_if_le (pc := 141) (tgt := 174) d_X6_isTaken_141 (by decide) (fun hc => ?_) (fun hc => ?_)
      · have h := h.1 hc
        refine wp_iconst (pc := 174) (v := 0) d_X6_isTaken_174 rfl ?_
        exact wp_zret (pc := 175) d_X6_isTaken_175 rfl rfl h
      · have h := h.2 hc
        refine wp_iload_n (pc := 144) d_X6_isTaken_144 rfl ?_
        refine wp_bipush (pc := 145) (v := 20) d_X6_isTaken_145 rfl ?_
        refine wp_icmp_gt (pc := 147) (tgt := 174) d_X6_isTaken_147 (by decide) (fun hc => ?_) (fun hc => ?_)
        · have h := h.1 hc
          refine wp_iconst (pc := 174) (v := 0) d_X6_isTaken_174 rfl ?_
          exact wp_zret (pc := 175) d_X6_isTaken_175 rfl rfl h
        · have h := h.2 hc
          refine wp_aload_n (pc := 150) d_X6_isTaken_150 rfl ?_
          refine wp_aload_n (pc := 151) d_X6_isTaken_151 rfl ?_
          obtain ⟨ho7, h⟩ := h
          refine wp_getR (pc := 152) d_X6_isTaken_152 fl_X6_32 (fun _ _ _ => rfl) ho7 ?_
          refine wp_iload (pc := 155) d_X6_isTaken_155 rfl ?_
          refine wp_iload_n (pc := 157) d_X6_isTaken_157 rfl ?_
          obtain ⟨hz8, h⟩ := h
          refine wp_irem (pc := 158) d_X6_isTaken_158 hz8 ?_
          obtain ⟨ho9, h⟩ := h
          obtain ⟨hi10, h⟩ := h
          refine wp_iald (pc := 159) d_X6_isTaken_159 ho9 hi10 ?_
          refine wp_aload_n (pc := 160) d_X6_isTaken_160 rfl ?_
          refine wp_getI (pc := 161) d_X6_isTaken_161 fl_X6_41 (fun _ _ _ => rfl) ho7 ?_
          obtain ⟨ho13, h⟩ := h
          refine wp_invV (pc := 164) (N := M_X9_isBetter) (As := [vi _, vi _]) (rest := []) (r := (cn_9, ct_9, 8)) d_X6_isTaken_164 ml_X6_136 mk_X9_isBetter mv_X9_isBetter h0 ho13 rfl rfl (Nat.le_of_ble_eq_true rfl) ?_
          refine wpM.mono h (fun rr G12 hr => ?_)
          obtain ⟨r11, rfl, h⟩ := hr
          show wp E d M_X6_isTaken 167 [some (vr _), some (vr _), some (vi _), some (vi _), some (vi _), some (vi _), some (vi _), none] [vi _] G12 Q
          refine wp_if_ne (pc := 167) (tgt := 174) d_X6_isTaken_167 (by decide) (fun hc => ?_) (fun hc => ?_)
          · have h := h.1 hc
            refine wp_iconst (pc := 174) (v := 0) d_X6_isTaken_174 rfl ?_
            exact wp_zret (pc := 175) d_X6_isTaken_175 rfl rfl h
          · have h := h.2 hc
            refine wp_iconst (pc := 170) (v := 1) d_X6_isTaken_170 rfl ?_
            refine wp_goto (pc := 171) (tgt := 175) d_X6_isTaken_171 (by decide) ?_
            exact wp_zret (pc := 175) d_X6_isTaken_175 rfl rfl h
  · have h := h.2 hc
    refine wp_iconst (pc := 133) (v := 1) d_X6_isTaken_133 rfl ?_
    exact wp_zret (pc := 134) d_X6_isTaken_134 rfl rfl h
theorem d_X6_worth_0 : decode prog_8_method_9_code 0 = .ok (.ldc2_w 140, 3) := by decide +kernel
theorem d_X6_worth_3 : decode prog_8_method_9_code 3 = .ok (.aload_n 0, 1) := by decide +kernel
theorem d_X6_worth_4 : decode prog_8_method_9_code 4 = .ok (.iload_n 1, 1) := by decide +kernel
theorem d_X6_worth_5 : decode prog_8_method_9_code 5 = .ok (.iconst 0, 1) := by decide +kernel
theorem d_X6_worth_6 : decode prog_8_method_9_code 6 = .ok (.invokevirtual 142, 3) := by decide +kernel
theorem d_X6_worth_9 : decode prog_8_method_9_code 9 = .ok (.lmul, 1) := by decide +kernel
theorem d_X6_worth_10 : decode prog_8_method_9_code 10 = .ok (.ldc2_w 146, 3) := by decide +kernel
theorem d_X6_worth_13 : decode prog_8_method_9_code 13 = .ok (.aload_n 0, 1) := by decide +kernel
theorem d_X6_worth_14 : decode prog_8_method_9_code 14 = .ok (.iload_n 1, 1) := by decide +kernel
theorem d_X6_worth_15 : decode prog_8_method_9_code 15 = .ok (.iconst 1, 1) := by decide +kernel
theorem d_X6_worth_16 : decode prog_8_method_9_code 16 = .ok (.invokevirtual 142, 3) := by decide +kernel
theorem d_X6_worth_19 : decode prog_8_method_9_code 19 = .ok (.lmul, 1) := by decide +kernel
theorem d_X6_worth_20 : decode prog_8_method_9_code 20 = .ok (.ladd, 1) := by decide +kernel
theorem d_X6_worth_21 : decode prog_8_method_9_code 21 = .ok (.aload_n 0, 1) := by decide +kernel
theorem d_X6_worth_22 : decode prog_8_method_9_code 22 = .ok (.iload_n 1, 1) := by decide +kernel
theorem d_X6_worth_23 : decode prog_8_method_9_code 23 = .ok (.iconst 2, 1) := by decide +kernel
theorem d_X6_worth_24 : decode prog_8_method_9_code 24 = .ok (.invokevirtual 142, 3) := by decide +kernel
theorem d_X6_worth_27 : decode prog_8_method_9_code 27 = .ok (.ladd, 1) := by decide +kernel
theorem d_X6_worth_28 : decode prog_8_method_9_code 28 = .ok (.lreturn, 1) := by decide +kernel
theorem v_X6_worth_0 {E : EE} {d : Nat} {Q : Option AV → AH → Prop} {x0 : Nat} {x1 : Int32} {G : AH} (h0 : 0 < d) (h : isO E G x0 9 ∧ (wpJ E (d - 1) M_X9_scoreOf [vr x0, vi x1, vi 0] G (fun r1 G2 => isO E G2 x0 9 ∧ (wpJ E (d - 1) M_X9_scoreOf [vr x0, vi x1, vi 1] G2 (fun r3 G4 => isO E G4 x0 9 ∧ (wpJ E (d - 1) M_X9_scoreOf [vr x0, vi x1, vi 2] G4 (fun r5 G6 => Q (some (vj (((10000 * r1) + (100 * r3)) + r5))) G6))))))) : wp E d M_X6_worth 0 [some (vr x0), some (vi x1)] [] G Q := by
  refine wp_ldc2 (pc := 0) (v := 10000) d_X6_worth_0 cj_X6_140 ?_
  refine wp_aload_n (pc := 3) d_X6_worth_3 rfl ?_
  refine wp_iload_n (pc := 4) d_X6_worth_4 rfl ?_
  refine wp_iconst (pc := 5) (v := 0) d_X6_worth_5 rfl ?_
  obtain ⟨ho9, h⟩ := h
  refine wp_invV (pc := 6) (N := M_X9_scoreOf) (As := [vi _, vi _]) (rest := [vj _]) (r := (cn_9, ct_9, 8)) d_X6_worth_6 ml_X6_142 mk_X9_scoreOf mv_X9_scoreOf h0 ho9 rfl rfl (Nat.le_of_ble_eq_true rfl) ?_
  refine wpM.mono h (fun rr G2 hr => ?_)
  obtain ⟨r1, rfl, h⟩ := hr
  show wp E d M_X6_worth 9 [some (vr _), some (vi _)] [vj _, vj _] G2 Q
  refine wp_lmul (pc := 9) d_X6_worth_9 ?_
  refine wp_ldc2 (pc := 10) (v := 100) d_X6_worth_10 cj_X6_146 ?_
  refine wp_aload_n (pc := 13) d_X6_worth_13 rfl ?_
  refine wp_iload_n (pc := 14) d_X6_worth_14 rfl ?_
  refine wp_iconst (pc := 15) (v := 1) d_X6_worth_15 rfl ?_
  obtain ⟨ho8, h⟩ := h
  refine wp_invV (pc := 16) (N := M_X9_scoreOf) (As := [vi _, vi _]) (rest := [vj _, vj _]) (r := (cn_9, ct_9, 8)) d_X6_worth_16 ml_X6_142 mk_X9_scoreOf mv_X9_scoreOf h0 ho8 rfl rfl (Nat.le_of_ble_eq_true rfl) ?_
  refine wpM.mono h (fun rr G4 hr => ?_)
  obtain ⟨r3, rfl, h⟩ := hr
  show wp E d M_X6_worth 19 [some (vr _), some (vi _)] [vj _, vj _, vj _] G4 Q
  refine wp_lmul (pc := 19) d_X6_worth_19 ?_
  refine wp_ladd (pc := 20) d_X6_worth_20 ?_
  refine wp_aload_n (pc := 21) d_X6_worth_21 rfl ?_
  refine wp_iload_n (pc := 22) d_X6_worth_22 rfl ?_
  refine wp_iconst (pc := 23) (v := 2) d_X6_worth_23 rfl ?_
  obtain ⟨ho7, h⟩ := h
  refine wp_invV (pc := 24) (N := M_X9_scoreOf) (As := [vi _, vi _]) (rest := [vj _]) (r := (cn_9, ct_9, 8)) d_X6_worth_24 ml_X6_142 mk_X9_scoreOf mv_X9_scoreOf h0 ho7 rfl rfl (Nat.le_of_ble_eq_true rfl) ?_
  refine wpM.mono h (fun rr G6 hr => ?_)
  obtain ⟨r5, rfl, h⟩ := hr
  show wp E d M_X6_worth 27 [some (vr _), some (vi _)] [vj _, vj _] G6 Q
  refine wp_ladd (pc := 27) d_X6_worth_27 ?_
  exact wp_lret (pc := 28) d_X6_worth_28 rfl h
theorem d_X6_settle_0 : decode prog_8_method_8_code 0 = .ok (.aload_n 0, 1) := by decide +kernel
theorem d_X6_settle_1 : decode prog_8_method_8_code 1 = .ok (.aload_n 0, 1) := by decide +kernel
theorem d_X6_settle_2 : decode prog_8_method_8_code 2 = .ok (.getfield 41, 3) := by decide +kernel
theorem d_X6_settle_5 : decode prog_8_method_8_code 5 = .ok (.putfield 38, 3) := by decide +kernel
theorem d_X6_settle_8 : decode prog_8_method_8_code 8 = .ok (.aload_n 0, 1) := by decide +kernel
theorem d_X6_settle_9 : decode prog_8_method_8_code 9 = .ok (.bipush 31, 2) := by decide +kernel
theorem d_X6_settle_11 : decode prog_8_method_8_code 11 = .ok (.aload_n 0, 1) := by decide +kernel
theorem d_X6_settle_12 : decode prog_8_method_8_code 12 = .ok (.getfield 15, 3) := by decide +kernel
theorem d_X6_settle_15 : decode prog_8_method_8_code 15 = .ok (.imul, 1) := by decide +kernel
theorem d_X6_settle_16 : decode prog_8_method_8_code 16 = .ok (.aload_n 0, 1) := by decide +kernel
theorem d_X6_settle_17 : decode prog_8_method_8_code 17 = .ok (.getfield 47, 3) := by decide +kernel
theorem d_X6_settle_20 : decode prog_8_method_8_code 20 = .ok (.iadd, 1) := by decide +kernel
theorem d_X6_settle_21 : decode prog_8_method_8_code 21 = .ok (.putfield 15, 3) := by decide +kernel
theorem d_X6_settle_24 : decode prog_8_method_8_code 24 = .ok (.aload_n 0, 1) := by decide +kernel
theorem d_X6_settle_25 : decode prog_8_method_8_code 25 = .ok (.getfield 35, 3) := by decide +kernel
theorem d_X6_settle_28 : decode prog_8_method_8_code 28 = .ok (.aload_n 0, 1) := by decide +kernel
theorem d_X6_settle_29 : decode prog_8_method_8_code 29 = .ok (.getfield 50, 3) := by decide +kernel
theorem d_X6_settle_32 : decode prog_8_method_8_code 32 = .ok (.iload_n 2, 1) := by decide +kernel
theorem d_X6_settle_33 : decode prog_8_method_8_code 33 = .ok (.iload_n 3, 1) := by decide +kernel
theorem d_X6_settle_34 : decode prog_8_method_8_code 34 = .ok (.iadd, 1) := by decide +kernel
theorem d_X6_settle_35 : decode prog_8_method_8_code 35 = .ok (.iastore, 1) := by decide +kernel
theorem d_X6_settle_36 : decode prog_8_method_8_code 36 = .ok (.aload_n 0, 1) := by decide +kernel
theorem d_X6_settle_37 : decode prog_8_method_8_code 37 = .ok (.getfield 35, 3) := by decide +kernel
theorem d_X6_settle_40 : decode prog_8_method_8_code 40 = .ok (.aload_n 0, 1) := by decide +kernel
theorem d_X6_settle_41 : decode prog_8_method_8_code 41 = .ok (.getfield 53, 3) := by decide +kernel
theorem d_X6_settle_44 : decode prog_8_method_8_code 44 = .ok (.iload_n 2, 1) := by decide +kernel
theorem d_X6_settle_45 : decode prog_8_method_8_code 45 = .ok (.iload_n 3, 1) := by decide +kernel
theorem d_X6_settle_46 : decode prog_8_method_8_code 46 = .ok (.iadd, 1) := by decide +kernel
theorem d_X6_settle_47 : decode prog_8_method_8_code 47 = .ok (.iastore, 1) := by decide +kernel
theorem d_X6_settle_48 : decode prog_8_method_8_code 48 = .ok (.aload_n 1, 1) := by decide +kernel
theorem d_X6_settle_49 : decode prog_8_method_8_code 49 = .ok (.aload_n 0, 1) := by decide +kernel
theorem d_X6_settle_50 : decode prog_8_method_8_code 50 = .ok (.getfield 38, 3) := by decide +kernel
theorem d_X6_settle_53 : decode prog_8_method_8_code 53 = .ok (.aload_n 0, 1) := by decide +kernel
theorem d_X6_settle_54 : decode prog_8_method_8_code 54 = .ok (.getfield 44, 3) := by decide +kernel
theorem d_X6_settle_57 : decode prog_8_method_8_code 57 = .ok (.invokevirtual 136, 3) := by decide +kernel
theorem d_X6_settle_60 : decode prog_8_method_8_code 60 = .ok (.ifCond .ne 4, 3) := by decide +kernel
theorem d_X6_settle_63 : decode prog_8_method_8_code 63 = .ok (.return_, 1) := by decide +kernel
theorem d_X6_settle_64 : decode prog_8_method_8_code 64 = .ok (.aload_n 0, 1) := by decide +kernel
theorem d_X6_settle_65 : decode prog_8_method_8_code 65 = .ok (.aload_n 0, 1) := by decide +kernel
theorem d_X6_settle_66 : decode prog_8_method_8_code 66 = .ok (.getfield 38, 3) := by decide +kernel
theorem d_X6_settle_69 : decode prog_8_method_8_code 69 = .ok (.putfield 44, 3) := by decide +kernel
theorem d_X6_settle_72 : decode prog_8_method_8_code 72 = .ok (.aload_n 0, 1) := by decide +kernel
theorem d_X6_settle_73 : decode prog_8_method_8_code 73 = .ok (.iload_n 2, 1) := by decide +kernel
theorem d_X6_settle_74 : decode prog_8_method_8_code 74 = .ok (.putfield 22, 3) := by decide +kernel
theorem d_X6_settle_77 : decode prog_8_method_8_code 77 = .ok (.return_, 1) := by decide +kernel
theorem v_X6_settle_0 {E : EE} {d : Nat} {Q : Option AV → AH → Prop} {x0 : Nat} {x1 : Nat} {x2 : Int32} {x3 : Int32} {G : AH} (h0 : 0 < d) (h : isO E G x0 6 ∧ (∀ G2 : AH, G2 = sI G x0 8 (gI G x0 9) → ∀ G4 : AH, G4 = sI G2 x0 1 ((31 * (gI G2 x0 1)) + (gI G2 x0 11)) → isO E G4 (gR G4 x0 7) 14 ∧ (vp_in (gI G4 x0 12) (gN G4 (gR G4 x0 7)) ∧ (∀ G8 : AH, G8 = sI G4 (gR G4 x0 7) (Int32.toNatClampNeg (gI G4 x0 12)) (x2 + x3) → isO E G8 (gR G8 x0 7) 14 ∧ (vp_in (gI G8 x0 13) (gN G8 (gR G8 x0 7)) ∧ (∀ G12 : AH, G12 = sI G8 (gR G8 x0 7) (Int32.toNatClampNeg (gI G8 x0 13)) (x2 + x3) → isO E G12 x1 9 ∧ (wpI E (d - 1) M_X9_isBetter [vr x1, vi (gI G12 x0 8), vi (gI G12 x0 10)] G12 (fun r14 G15 => (¬ r14 = 0 → isO E G15 x0 6 ∧ (∀ G17 : AH, G17 = sI G15 x0 10 (gI G15 x0 8) → ∀ G19 : AH, G19 = sI G17 x0 3 x2 → Q none G19)) ∧ (r14 = 0 → Q none G15))))))))) : wp E d M_X6_settle 0 [some (vr x0), some (vr x1), some (vi x2), some (vi x3)] [] G Q := by
  refine wp_aload_n (pc := 0) d_X6_settle_0 rfl ?_
  refine wp_aload_n (pc := 1) d_X6_settle_1 rfl ?_
  obtain ⟨ho1, h⟩ := h
  refine wp_getI (pc := 2) d_X6_settle_2 fl_X6_41 (fun _ _ _ => rfl) ho1 ?_
  refine wp_putI (pc := 5) d_X6_settle_5 fl_X6_38 (fun _ _ _ => rfl) (Or.inl rfl) ho1 (okI_int _) ?_
  refine wp_nm (fun G2 eG2 => ?_)
  have h := h G2 eG2
  have ho3 := isO_sI eG2 ho1
  refine wp_aload_n (pc := 8) d_X6_settle_8 rfl ?_
  refine wp_bipush (pc := 9) (v := 31) d_X6_settle_9 rfl ?_
  refine wp_aload_n (pc := 11) d_X6_settle_11 rfl ?_
  refine wp_getI (pc := 12) d_X6_settle_12 fl_X6_15 (fun _ _ _ => rfl) ho3 ?_
  refine wp_imul (pc := 15) d_X6_settle_15 ?_
  refine wp_aload_n (pc := 16) d_X6_settle_16 rfl ?_
  refine wp_getI (pc := 17) d_X6_settle_17 fl_X6_47 (fun _ _ _ => rfl) ho3 ?_
  refine wp_iadd (pc := 20) d_X6_settle_20 ?_
  refine wp_putI (pc := 21) d_X6_settle_21 fl_X6_15 (fun _ _ _ => rfl) (Or.inl rfl) ho3 (okI_int _) ?_
  refine wp_nm (fun G4 eG4 => ?_)
  have h := h G4 eG4
  have ho5 := isO_sI eG4 ho3
  refine wp_aload_n (pc := 24) d_X6_settle_24 rfl ?_
  refine wp_getR (pc := 25) d_X6_settle_25 fl_X6_35 (fun _ _ _ => rfl) ho5 ?_
  refine wp_aload_n (pc := 28) d_X6_settle_28 rfl ?_
  refine wp_getI (pc := 29) d_X6_settle_29 fl_X6_50 (fun _ _ _ => rfl) ho5 ?_
  refine wp_iload_n (pc := 32) d_X6_settle_32 rfl ?_
  refine wp_iload_n (pc := 33) d_X6_settle_33 rfl ?_
  refine wp_iadd (pc := 34) d_X6_settle_34 ?_
  obtain ⟨ho6, h⟩ := h
  obtain ⟨hi7, h⟩ := h
  refine wp_iast (pc := 35) d_X6_settle_35 ho6 hi7 ?_
  refine wp_nm (fun G8 eG8 => ?_)
  have h := h G8 eG8
  have ho9 := isO_sI eG8 ho5
  refine wp_aload_n (pc := 36) d_X6_settle_36 rfl ?_
  refine wp_getR (pc := 37) d_X6_settle_37 fl_X6_35 (fun _ _ _ => rfl) ho9 ?_
  refine wp_aload_n (pc := 40) d_X6_settle_40 rfl ?_
  refine wp_getI (pc := 41) d_X6_settle_41 fl_X6_53 (fun _ _ _ => rfl) ho9 ?_
  refine wp_iload_n (pc := 44) d_X6_settle_44 rfl ?_
  refine wp_iload_n (pc := 45) d_X6_settle_45 rfl ?_
  refine wp_iadd (pc := 46) d_X6_settle_46 ?_
  obtain ⟨ho10, h⟩ := h
  obtain ⟨hi11, h⟩ := h
  refine wp_iast (pc := 47) d_X6_settle_47 ho10 hi11 ?_
  refine wp_nm (fun G12 eG12 => ?_)
  have h := h G12 eG12
  have ho13 := isO_sI eG12 ho9
  refine wp_aload_n (pc := 48) d_X6_settle_48 rfl ?_
  refine wp_aload_n (pc := 49) d_X6_settle_49 rfl ?_
  refine wp_getI (pc := 50) d_X6_settle_50 fl_X6_38 (fun _ _ _ => rfl) ho13 ?_
  refine wp_aload_n (pc := 53) d_X6_settle_53 rfl ?_
  refine wp_getI (pc := 54) d_X6_settle_54 fl_X6_44 (fun _ _ _ => rfl) ho13 ?_
  obtain ⟨ho21, h⟩ := h
  refine wp_invV (pc := 57) (N := M_X9_isBetter) (As := [vi _, vi _]) (rest := []) (r := (cn_9, ct_9, 8)) d_X6_settle_57 ml_X6_136 mk_X9_isBetter mv_X9_isBetter h0 ho21 rfl rfl (Nat.le_of_ble_eq_true rfl) ?_
  refine wpM.mono h (fun rr G15 hr => ?_)
  obtain ⟨r14, rfl, h⟩ := hr
  show wp E d M_X6_settle 60 [some (vr _), some (vr _), some (vi _), some (vi _)] [vi _] G15 Q
  refine wp_if_ne (pc := 60) (tgt := 64) d_X6_settle_60 (by decide) (fun hc => ?_) (fun hc => ?_)
  · have h := h.1 hc
    refine wp_aload_n (pc := 64) d_X6_settle_64 rfl ?_
    refine wp_aload_n (pc := 65) d_X6_settle_65 rfl ?_
    obtain ⟨ho16, h⟩ := h
    refine wp_getI (pc := 66) d_X6_settle_66 fl_X6_38 (fun _ _ _ => rfl) ho16 ?_
    refine wp_putI (pc := 69) d_X6_settle_69 fl_X6_44 (fun _ _ _ => rfl) (Or.inl rfl) ho16 (okI_int _) ?_
    refine wp_nm (fun G17 eG17 => ?_)
    have h := h G17 eG17
    have ho18 := isO_sI eG17 ho16
    refine wp_aload_n (pc := 72) d_X6_settle_72 rfl ?_
    refine wp_iload_n (pc := 73) d_X6_settle_73 rfl ?_
    refine wp_putI (pc := 74) d_X6_settle_74 fl_X6_22 (fun _ _ _ => rfl) (Or.inl rfl) ho18 (okI_int _) ?_
    refine wp_nm (fun G19 eG19 => ?_)
    have h := h G19 eG19
    have ho20 := isO_sI eG19 ho18
    exact wp_vret (pc := 77) d_X6_settle_77 rfl h
  · have h := h.2 hc
    exact wp_vret (pc := 63) d_X6_settle_63 rfl h
theorem d_X4_init_0 : decode prog_6_method_1_code 0 = .ok (.aload_n 0, 1) := by decide +kernel
theorem d_X4_init_1 : decode prog_6_method_1_code 1 = .ok (.invokespecial 3, 3) := by decide +kernel
theorem d_X4_init_4 : decode prog_6_method_1_code 4 = .ok (.aload_n 0, 1) := by decide +kernel
theorem d_X4_init_5 : decode prog_6_method_1_code 5 = .ok (.bipush 30, 2) := by decide +kernel
theorem d_X4_init_7 : decode prog_6_method_1_code 7 = .ok (.newarray .int, 2) := by decide +kernel
theorem d_X4_init_9 : decode prog_6_method_1_code 9 = .ok (.putfield 9, 3) := by decide +kernel
theorem d_X4_init_12 : decode prog_6_method_1_code 12 = .ok (.aload_n 0, 1) := by decide +kernel
theorem d_X4_init_13 : decode prog_6_method_1_code 13 = .ok (.iconst 3, 1) := by decide +kernel
theorem d_X4_init_14 : decode prog_6_method_1_code 14 = .ok (.newarray .long, 2) := by decide +kernel
theorem d_X4_init_16 : decode prog_6_method_1_code 16 = .ok (.putfield 15, 3) := by decide +kernel
theorem d_X4_init_19 : decode prog_6_method_1_code 19 = .ok (.aload_n 0, 1) := by decide +kernel
theorem d_X4_init_20 : decode prog_6_method_1_code 20 = .ok (.aload_n 1, 1) := by decide +kernel
theorem d_X4_init_21 : decode prog_6_method_1_code 21 = .ok (.putfield 19, 3) := by decide +kernel
theorem d_X4_init_24 : decode prog_6_method_1_code 24 = .ok (.return_, 1) := by decide +kernel
theorem v_X4_init_0 {E : EE} {d : Nat} {Q : Option AV → AH → Prop} {x0 : Nat} {x1 : Nat} {G : AH} (h0 : 0 < d) (h : isO E G x0 4 ∧ (eB E ≤ gT G ∧ (∀ G6 : AH, G6 = nw G 14 (Int32.toNatClampNeg 30) (Int32.toNatClampNeg 30) → ∀ G10 : AH, G10 = sR G6 x0 1 (gT G) → ∀ G16 : AH, G16 = nw G10 15 (Int32.toNatClampNeg 3) (Int32.toNatClampNeg 3) → ∀ G20 : AH, G20 = sR G16 x0 2 (gT G10) → ∀ G23 : AH, G23 = sR G20 x0 0 x1 → Q none G23))) : wp E d M_X4_init 0 [some (vr x0), some (vr x1)] [] G Q := by
  refine wp_aload_n (pc := 0) d_X4_init_0 rfl ?_
  obtain ⟨ho1, h⟩ := h
  refine wp_objI (pc := 1) d_X4_init_1 ml_X4_3 in_obj mc_obj h0 ho1 (Nat.le_of_ble_eq_true rfl) ?_
  refine wp_aload_n (pc := 4) d_X4_init_4 rfl ?_
  refine wp_bipush (pc := 5) (v := 30) d_X4_init_5 rfl ?_
  obtain ⟨hb2, h⟩ := h
  refine wp_newa (pc := 7) (t0 := 1) (kd := 14) d_X4_init_7 rfl (fun _ q => by cases q) ac_int (by decide) (fun _ => rfl) rfl (by decide) (by decide) (by decide) ?_
  refine wp_nm (fun G6 eG6 => ?_)
  have h := h G6 eG6
  have ho7 := isO_nwE eG6 ho1
  have hb8 := base_nwE eG6 hb2
  have ho9 := isO_newE eG6 hb2
  refine wp_putR (pc := 9) d_X4_init_9 fl_X4_9 (fun _ _ _ => rfl) (Or.inr ⟨_, rfl⟩) (Or.inr ⟨rfl, rfl, rfl⟩) ho7 ?_
  refine wp_nm (fun G10 eG10 => ?_)
  have h := h G10 eG10
  have ho11 := isO_sR eG10 ho7
  have hb12 := base_sR eG10 hb8
  refine wp_aload_n (pc := 12) d_X4_init_12 rfl ?_
  refine wp_iconst (pc := 13) (v := 3) d_X4_init_13 rfl ?_
  refine wp_newa (pc := 14) (t0 := 2) (kd := 15) d_X4_init_14 rfl (fun _ q => by cases q) ac_long (by decide) (fun _ => rfl) rfl (by decide) (by decide) (by decide) ?_
  refine wp_nm (fun G16 eG16 => ?_)
  have h := h G16 eG16
  have ho17 := isO_nwE eG16 ho11
  have hb18 := base_nwE eG16 hb12
  have ho19 := isO_newE eG16 hb12
  refine wp_putR (pc := 16) d_X4_init_16 fl_X4_15 (fun _ _ _ => rfl) (Or.inr ⟨_, rfl⟩) (Or.inr ⟨rfl, rfl, rfl⟩) ho17 ?_
  refine wp_nm (fun G20 eG20 => ?_)
  have h := h G20 eG20
  have ho21 := isO_sR eG20 ho17
  have hb22 := base_sR eG20 hb18
  refine wp_aload_n (pc := 19) d_X4_init_19 rfl ?_
  refine wp_aload_n (pc := 20) d_X4_init_20 rfl ?_
  refine wp_putR (pc := 21) d_X4_init_21 fl_X4_19 (fun _ _ _ => rfl) (Or.inl ⟨_, rfl⟩) (Or.inr ⟨rfl, rfl, rfl⟩) ho21 ?_
  refine wp_nm (fun G23 eG23 => ?_)
  have h := h G23 eG23
  have ho24 := isO_sR eG23 ho21
  have hb25 := base_sR eG23 hb22
  exact wp_vret (pc := 24) d_X4_init_24 rfl h
theorem d_X4_fits_0 : decode prog_6_method_8_code 0 = .ok (.iconst 1, 1) := by decide +kernel
theorem d_X4_fits_1 : decode prog_6_method_8_code 1 = .ok (.istore_n 2, 1) := by decide +kernel
theorem d_X4_fits_2 : decode prog_6_method_8_code 2 = .ok (.aload_n 1, 1) := by decide +kernel
theorem d_X4_fits_3 : decode prog_6_method_8_code 3 = .ok (.getfield 84, 3) := by decide +kernel
theorem d_X4_fits_6 : decode prog_6_method_8_code 6 = .ok (.getfield 129, 3) := by decide +kernel
theorem d_X4_fits_9 : decode prog_6_method_8_code 9 = .ok (.iconst 1, 1) := by decide +kernel
theorem d_X4_fits_10 : decode prog_6_method_8_code 10 = .ok (.isub, 1) := by decide +kernel
theorem d_X4_fits_11 : decode prog_6_method_8_code 11 = .ok (.istore_n 3, 1) := by decide +kernel
theorem d_X4_fits_12 : decode prog_6_method_8_code 12 = .ok (.iload_n 3, 1) := by decide +kernel
theorem d_X4_fits_13 : decode prog_6_method_8_code 13 = .ok (.ifCond .lt 68, 3) := by decide +kernel
theorem d_X4_fits_16 : decode prog_6_method_8_code 16 = .ok (.aload_n 1, 1) := by decide +kernel
theorem d_X4_fits_17 : decode prog_6_method_8_code 17 = .ok (.getfield 29, 3) := by decide +kernel
theorem d_X4_fits_20 : decode prog_6_method_8_code 20 = .ok (.iload_n 3, 1) := by decide +kernel
theorem d_X4_fits_21 : decode prog_6_method_8_code 21 = .ok (.ishr, 1) := by decide +kernel
theorem d_X4_fits_22 : decode prog_6_method_8_code 22 = .ok (.iconst 1, 1) := by decide +kernel
theorem d_X4_fits_23 : decode prog_6_method_8_code 23 = .ok (.iand, 1) := by decide +kernel
theorem d_X4_fits_24 : decode prog_6_method_8_code 24 = .ok (.ifCond .eq 6, 3) := by decide +kernel
theorem d_X4_fits_27 : decode prog_6_method_8_code 27 = .ok (.goto 48, 3) := by decide +kernel
theorem d_X4_fits_30 : decode prog_6_method_8_code 30 = .ok (.aload_n 1, 1) := by decide +kernel
theorem d_X4_fits_31 : decode prog_6_method_8_code 31 = .ok (.getfield 84, 3) := by decide +kernel
theorem d_X4_fits_34 : decode prog_6_method_8_code 34 = .ok (.getfield 88, 3) := by decide +kernel
theorem d_X4_fits_37 : decode prog_6_method_8_code 37 = .ok (.iload_n 3, 1) := by decide +kernel
theorem d_X4_fits_38 : decode prog_6_method_8_code 38 = .ok (.iaload, 1) := by decide +kernel
theorem d_X4_fits_39 : decode prog_6_method_8_code 39 = .ok (.istore 4, 2) := by decide +kernel
theorem d_X4_fits_41 : decode prog_6_method_8_code 41 = .ok (.aload_n 1, 1) := by decide +kernel
theorem d_X4_fits_42 : decode prog_6_method_8_code 42 = .ok (.getfield 176, 3) := by decide +kernel
theorem d_X4_fits_45 : decode prog_6_method_8_code 45 = .ok (.bipush 24, 2) := by decide +kernel
theorem d_X4_fits_47 : decode prog_6_method_8_code 47 = .ok (.iload_n 3, 1) := by decide +kernel
theorem d_X4_fits_48 : decode prog_6_method_8_code 48 = .ok (.iadd, 1) := by decide +kernel
theorem d_X4_fits_49 : decode prog_6_method_8_code 49 = .ok (.laload, 1) := by decide +kernel
theorem d_X4_fits_50 : decode prog_6_method_8_code 50 = .ok (.invokestatic 179, 3) := by decide +kernel
theorem d_X4_fits_53 : decode prog_6_method_8_code 53 = .ok (.iconst 2, 1) := by decide +kernel
theorem d_X4_fits_54 : decode prog_6_method_8_code 54 = .ok (.iadd, 1) := by decide +kernel
theorem d_X4_fits_55 : decode prog_6_method_8_code 55 = .ok (.iload 4, 2) := by decide +kernel
theorem d_X4_fits_57 : decode prog_6_method_8_code 57 = .ok (.iload_n 2, 1) := by decide +kernel
theorem d_X4_fits_58 : decode prog_6_method_8_code 58 = .ok (.imul, 1) := by decide +kernel
theorem d_X4_fits_59 : decode prog_6_method_8_code 59 = .ok (.iadd, 1) := by decide +kernel
theorem d_X4_fits_60 : decode prog_6_method_8_code 60 = .ok (.iload 4, 2) := by decide +kernel
theorem d_X4_fits_62 : decode prog_6_method_8_code 62 = .ok (.iadd, 1) := by decide +kernel
theorem d_X4_fits_63 : decode prog_6_method_8_code 63 = .ok (.iconst 1, 1) := by decide +kernel
theorem d_X4_fits_64 : decode prog_6_method_8_code 64 = .ok (.isub, 1) := by decide +kernel
theorem d_X4_fits_65 : decode prog_6_method_8_code 65 = .ok (.istore_n 2, 1) := by decide +kernel
theorem d_X4_fits_66 : decode prog_6_method_8_code 66 = .ok (.iload_n 2, 1) := by decide +kernel
theorem d_X4_fits_67 : decode prog_6_method_8_code 67 = .ok (.sipush 20000, 3) := by decide +kernel
theorem d_X4_fits_70 : decode prog_6_method_8_code 70 = .ok (.if_icmp .le 5, 3) := by decide +kernel
theorem d_X4_fits_73 : decode prog_6_method_8_code 73 = .ok (.iconst 0, 1) := by decide +kernel
theorem d_X4_fits_74 : decode prog_6_method_8_code 74 = .ok (.ireturn, 1) := by decide +kernel
theorem d_X4_fits_75 : decode prog_6_method_8_code 75 = .ok (.iinc 3 (-1), 3) := by decide +kernel
theorem d_X4_fits_78 : decode prog_6_method_8_code 78 = .ok (.goto (-66), 3) := by decide +kernel
theorem d_X4_fits_81 : decode prog_6_method_8_code 81 = .ok (.iconst 1, 1) := by decide +kernel
theorem d_X4_fits_82 : decode prog_6_method_8_code 82 = .ok (.ireturn, 1) := by decide +kernel
theorem v_X4_fits_0 {E : EE} {d : Nat} {Q : Option AV → AH → Prop} {x0 : Nat} {x1 : Nat} {G : AH} (h : isO E G x1 3 ∧ (isO E G (gR G x1 4) 7 ∧ (wp E d M_X4_fits 12 [some (vr x0), some (vr x1), some (vi 1), some (vi ((gI G (gR G x1 4) 0) - 1)), none] [] G Q))) : wp E d M_X4_fits 0 [some (vr x0), some (vr x1), none, none, none] [] G Q := by
  refine wp_iconst (pc := 0) (v := 1) d_X4_fits_0 rfl ?_
  refine wp_istore_n (pc := 1) (lv' := [some (vr _), some (vr _), some (vi _), none, none]) d_X4_fits_1 (by decide) rfl ?_
  refine wp_aload_n (pc := 2) d_X4_fits_2 rfl ?_
  obtain ⟨ho1, h⟩ := h
  refine wp_getR (pc := 3) d_X4_fits_3 fl_X4_84 (fun _ _ _ => rfl) ho1 ?_
  obtain ⟨ho2, h⟩ := h
  refine wp_getI (pc := 6) d_X4_fits_6 fl_X4_129 (fun _ _ _ => rfl) ho2 ?_
  refine wp_iconst (pc := 9) (v := 1) d_X4_fits_9 rfl ?_
  refine wp_isub (pc := 10) d_X4_fits_10 ?_
  refine wp_istore_n (pc := 11) (lv' := [some (vr _), some (vr _), some (vi _), some (vi _), none]) d_X4_fits_11 (by decide) rfl ?_
  refine wp_sub ?_ h
  exact ⟨rfl, ⟨rfl, ⟨rfl, ⟨rfl, trivial⟩⟩⟩⟩
theorem v_X4_fits_12 {E : EE} {d : Nat} {Q : Option AV → AH → Prop} {x0 : Nat} {x1 : Nat} {x2 : Int32} {x3 : Int32} {G : AH} (h0 : 0 < d) (h : (x3 < 0 → Q (some (vi 1)) G) ∧ (¬ (x3 < 0) → isO E G x1 3 ∧ (((((gI G x1 9) >>> (x3 &&& 31)) &&& 1) = 0 → isO E G (gR G x1 4) 7 ∧ (isO E G (gR G (gR G x1 4) 2) 14 ∧ (vp_in x3 (gN G (gR G (gR G x1 4) 2)) ∧ (isO E G (gR G x1 2) 15 ∧ (vp_in (24 + x3) (gN G (gR G x1 2)) ∧ (wpI E (d - 1) M_X3_letters [vj (gJ G (gR G x1 2) (Int32.toNatClampNeg (24 + x3)))] G (fun r7 G8 => (((((r7 + 2) + ((gI G (gR G (gR G x1 4) 2) (Int32.toNatClampNeg x3)) * x2)) + (gI G (gR G (gR G x1 4) 2) (Int32.toNatClampNeg x3))) - 1) ≤ 20000 → wp E d M_X4_fits 75 [some (vr x0), some (vr x1), some (vi ((((r7 + 2) + ((gI G (gR G (gR G x1 4) 2) (Int32.toNatClampNeg x3)) * x2)) + (gI G (gR G (gR G x1 4) 2) (Int32.toNatClampNeg x3))) - 1)), some (vi x3), none] [] G8 Q) ∧ (¬ (((((r7 + 2) + ((gI G (gR G (gR G x1 4) 2) (Int32.toNatClampNeg x3)) * x2)) + (gI G (gR G (gR G x1 4) 2) (Int32.toNatClampNeg x3))) - 1) ≤ 20000) → Q (some (vi 0)) G8)))))))) ∧ (¬ ((((gI G x1 9) >>> (x3 &&& 31)) &&& 1) = 0) → wp E d M_X4_fits 75 [some (vr x0), some (vr x1), some (vi x2), some (vi x3), none] [] G Q)))) : wp E d M_X4_fits 12 [some (vr x0), some (vr x1), some (vi x2), some (vi x3), none] [] G Q := by
  refine wp_iload_n (pc := 12) d_X4_fits_12 rfl ?_
  refine wp_if_lt (pc := 13) (tgt := 81) d_X4_fits_13 (by decide) (fun hc => ?_) (fun hc => ?_)
  · have h := h.1 hc
    refine wp_iconst (pc := 81) (v := 1) d_X4_fits_81 rfl ?_
    exact wp_zret (pc := 82) d_X4_fits_82 rfl rfl h
  · have h := h.2 hc
    refine wp_aload_n (pc := 16) d_X4_fits_16 rfl ?_
    obtain ⟨ho1, h⟩ := h
    refine wp_getI (pc := 17) d_X4_fits_17 fl_X4_29 (fun _ _ _ => rfl) ho1 ?_
    refine wp_iload_n (pc := 20) d_X4_fits_20 rfl ?_
    refine wp_ishr (pc := 21) d_X4_fits_21 ?_
    refine wp_iconst (pc := 22) (v := 1) d_X4_fits_22 rfl ?_
    refine wp_iand (pc := 23) d_X4_fits_23 ?_
    refine wp_if_eq (pc := 24) (tgt := 30) d_X4_fits_24 (by decide) (fun hc => ?_) (fun hc => ?_)
    · have h := h.1 hc
      refine wp_aload_n (pc := 30) d_X4_fits_30 rfl ?_
      refine wp_getR (pc := 31) d_X4_fits_31 fl_X4_84 (fun _ _ _ => rfl) ho1 ?_
      obtain ⟨ho2, h⟩ := h
      refine wp_getR (pc := 34) d_X4_fits_34 fl_X4_88 (fun _ _ _ => rfl) ho2 ?_
      refine wp_iload_n (pc := 37) d_X4_fits_37 rfl ?_
      obtain ⟨ho3, h⟩ := h
      obtain ⟨hi4, h⟩ := h
      refine wp_iald (pc := 38) d_X4_fits_38 ho3 hi4 ?_
      refine wp_istore (pc := 39) (lv' := [some (vr _), some (vr _), some (vi _), some (vi _), some (vi _)]) d_X4_fits_39 (by decide) rfl ?_
      refine wp_aload_n (pc := 41) d_X4_fits_41 rfl ?_
      refine wp_getR (pc := 42) d_X4_fits_42 fl_X4_176 (fun _ _ _ => rfl) ho1 ?_
      refine wp_bipush (pc := 45) (v := 24) d_X4_fits_45 rfl ?_
      refine wp_iload_n (pc := 47) d_X4_fits_47 rfl ?_
      refine wp_iadd (pc := 48) d_X4_fits_48 ?_
      obtain ⟨ho5, h⟩ := h
      obtain ⟨hi6, h⟩ := h
      refine wp_lald (pc := 49) d_X4_fits_49 ho5 hi6 ?_
      refine wp_invS (pc := 50) (N := M_X3_letters) (As := [vj _]) (rest := []) d_X4_fits_50 ml_X4_179 mk_X3_letters ms_X3_letters h0 (Nat.le_of_ble_eq_true rfl) ?_
      refine wpM.mono h (fun rr G8 hr => ?_)
      obtain ⟨r7, rfl, h⟩ := hr
      show wp E d M_X4_fits 53 [some (vr _), some (vr _), some (vi _), some (vi _), some (vi _)] [vi _] G8 Q
      refine wp_iconst (pc := 53) (v := 2) d_X4_fits_53 rfl ?_
      refine wp_iadd (pc := 54) d_X4_fits_54 ?_
      refine wp_iload (pc := 55) d_X4_fits_55 rfl ?_
      refine wp_iload_n (pc := 57) d_X4_fits_57 rfl ?_
      refine wp_imul (pc := 58) d_X4_fits_58 ?_
      refine wp_iadd (pc := 59) d_X4_fits_59 ?_
      refine wp_iload (pc := 60) d_X4_fits_60 rfl ?_
      refine wp_iadd (pc := 62) d_X4_fits_62 ?_
      refine wp_iconst (pc := 63) (v := 1) d_X4_fits_63 rfl ?_
      refine wp_isub (pc := 64) d_X4_fits_64 ?_
      refine wp_istore_n (pc := 65) (lv' := [some (vr _), some (vr _), some (vi _), some (vi _), some (vi _)]) d_X4_fits_65 (by decide) rfl ?_
      refine wp_iload_n (pc := 66) d_X4_fits_66 rfl ?_
      refine wp_sipush (pc := 67) (v := 20000) d_X4_fits_67 rfl ?_
      refine wp_icmp_le (pc := 70) (tgt := 75) d_X4_fits_70 (by decide) (fun hc => ?_) (fun hc => ?_)
      · have h := h.1 hc
        refine wp_sub ?_ h
        exact ⟨rfl, ⟨rfl, ⟨rfl, ⟨rfl, trivial⟩⟩⟩⟩
      · have h := h.2 hc
        refine wp_iconst (pc := 73) (v := 0) d_X4_fits_73 rfl ?_
        exact wp_zret (pc := 74) d_X4_fits_74 rfl rfl h
    · have h := h.2 hc
      refine wp_goto (pc := 27) (tgt := 75) d_X4_fits_27 (by decide) ?_
      refine wp_sub ?_ h
      exact ⟨rfl, ⟨rfl, ⟨rfl, ⟨rfl, trivial⟩⟩⟩⟩
theorem v_X4_fits_75 {E : EE} {d : Nat} {Q : Option AV → AH → Prop} {x0 : Nat} {x1 : Nat} {x2 : Int32} {x3 : Int32} {G : AH} (h : wp E d M_X4_fits 12 [some (vr x0), some (vr x1), some (vi x2), some (vi (x3 + (-1))), none] [] G Q) : wp E d M_X4_fits 75 [some (vr x0), some (vr x1), some (vi x2), some (vi x3), none] [] G Q := by
  refine wp_iinc (pc := 75) (v := (-1)) (lv' := [some (vr _), some (vr _), some (vi _), some (vi _), none]) d_X4_fits_75 (by decide) rfl rfl rfl ?_
  refine wp_goto (pc := 78) (tgt := 12) d_X4_fits_78 (by decide) ?_
  refine wp_sub ?_ h
  exact ⟨rfl, ⟨rfl, ⟨rfl, ⟨rfl, trivial⟩⟩⟩⟩
theorem d_X4_write_0 : decode prog_6_method_9_code 0 = .ok (.aload_n 2, 1) := by decide +kernel
theorem d_X4_write_1 : decode prog_6_method_9_code 1 = .ok (.iconst 0, 1) := by decide +kernel
theorem d_X4_write_2 : decode prog_6_method_9_code 2 = .ok (.invokevirtual 182, 3) := by decide +kernel
theorem d_X4_write_5 : decode prog_6_method_9_code 5 = .ok (.aload_n 1, 1) := by decide +kernel
theorem d_X4_write_6 : decode prog_6_method_9_code 6 = .ok (.aload_n 2, 1) := by decide +kernel
theorem d_X4_write_7 : decode prog_6_method_9_code 7 = .ok (.iconst 0, 1) := by decide +kernel
theorem d_X4_write_8 : decode prog_6_method_9_code 8 = .ok (.invokestatic 188, 3) := by decide +kernel
theorem d_X4_write_11 : decode prog_6_method_9_code 11 = .ok (.return_, 1) := by decide +kernel
theorem v_X4_write_0 {E : EE} {d : Nat} {Q : Option AV → AH → Prop} {x0 : Nat} {x1 : Nat} {x2 : Nat} {G : AH} (h0 : 0 < d) (h : isO E G x2 0 ∧ (wpV E (d - 1) M_X0_keep [vr x2, vi 0] G (fun G1 => wpV E (d - 1) M_X4_writeTree [vr x1, vr x2, vi 0] G1 (fun G2 => Q none G2)))) : wp E d M_X4_write 0 [some (vr x0), some (vr x1), some (vr x2)] [] G Q := by
  refine wp_aload_n (pc := 0) d_X4_write_0 rfl ?_
  refine wp_iconst (pc := 1) (v := 0) d_X4_write_1 rfl ?_
  obtain ⟨ho3, h⟩ := h
  refine wp_invV (pc := 2) (N := M_X0_keep) (As := [vi _]) (rest := []) (r := (cn_0, ct_0, 2)) d_X4_write_2 ml_X4_182 mk_X0_keep mv_X0_keep h0 ho3 rfl rfl (Nat.le_of_ble_eq_true rfl) ?_
  refine wpM.mono h (fun rr G1 hr => ?_)
  obtain ⟨rfl, h⟩ := hr
  show wp E d M_X4_write 5 [some (vr _), some (vr _), some (vr _)] [] G1 Q
  refine wp_aload_n (pc := 5) d_X4_write_5 rfl ?_
  refine wp_aload_n (pc := 6) d_X4_write_6 rfl ?_
  refine wp_iconst (pc := 7) (v := 0) d_X4_write_7 rfl ?_
  refine wp_invS (pc := 8) (N := M_X4_writeTree) (As := [vr _, vr _, vi _]) (rest := []) d_X4_write_8 ml_X4_188 mk_X4_writeTree ms_X4_writeTree h0 (Nat.le_of_ble_eq_true rfl) ?_
  refine wpM.mono h (fun rr G2 hr => ?_)
  obtain ⟨rfl, h⟩ := hr
  show wp E d M_X4_write 11 [some (vr _), some (vr _), some (vr _)] [] G2 Q
  exact wp_vret (pc := 11) d_X4_write_11 rfl h
theorem d_X4_writeTree_0 : decode prog_6_method_10_code 0 = .ok (.iload_n 2, 1) := by decide +kernel
theorem d_X4_writeTree_1 : decode prog_6_method_10_code 1 = .ok (.istore_n 3, 1) := by decide +kernel
theorem d_X4_writeTree_2 : decode prog_6_method_10_code 2 = .ok (.iload_n 3, 1) := by decide +kernel
theorem d_X4_writeTree_3 : decode prog_6_method_10_code 3 = .ok (.aload_n 0, 1) := by decide +kernel
theorem d_X4_writeTree_4 : decode prog_6_method_10_code 4 = .ok (.getfield 84, 3) := by decide +kernel
theorem d_X4_writeTree_7 : decode prog_6_method_10_code 7 = .ok (.getfield 129, 3) := by decide +kernel
theorem d_X4_writeTree_10 : decode prog_6_method_10_code 10 = .ok (.if_icmp .ge 20, 3) := by decide +kernel
theorem d_X4_writeTree_13 : decode prog_6_method_10_code 13 = .ok (.aload_n 0, 1) := by decide +kernel
theorem d_X4_writeTree_14 : decode prog_6_method_10_code 14 = .ok (.getfield 29, 3) := by decide +kernel
theorem d_X4_writeTree_17 : decode prog_6_method_10_code 17 = .ok (.iload_n 3, 1) := by decide +kernel
theorem d_X4_writeTree_18 : decode prog_6_method_10_code 18 = .ok (.ishr, 1) := by decide +kernel
theorem d_X4_writeTree_19 : decode prog_6_method_10_code 19 = .ok (.iconst 1, 1) := by decide +kernel
theorem d_X4_writeTree_20 : decode prog_6_method_10_code 20 = .ok (.iand, 1) := by decide +kernel
theorem d_X4_writeTree_21 : decode prog_6_method_10_code 21 = .ok (.ifCond .eq 9, 3) := by decide +kernel
theorem d_X4_writeTree_24 : decode prog_6_method_10_code 24 = .ok (.iinc 3 1, 3) := by decide +kernel
theorem d_X4_writeTree_27 : decode prog_6_method_10_code 27 = .ok (.goto (-25), 3) := by decide +kernel
theorem d_X4_writeTree_30 : decode prog_6_method_10_code 30 = .ok (.iload_n 3, 1) := by decide +kernel
theorem d_X4_writeTree_31 : decode prog_6_method_10_code 31 = .ok (.aload_n 0, 1) := by decide +kernel
theorem d_X4_writeTree_32 : decode prog_6_method_10_code 32 = .ok (.getfield 84, 3) := by decide +kernel
theorem d_X4_writeTree_35 : decode prog_6_method_10_code 35 = .ok (.getfield 129, 3) := by decide +kernel
theorem d_X4_writeTree_38 : decode prog_6_method_10_code 38 = .ok (.if_icmp .ge 9, 3) := by decide +kernel
theorem d_X4_writeTree_41 : decode prog_6_method_10_code 41 = .ok (.iload_n 3, 1) := by decide +kernel
theorem d_X4_writeTree_42 : decode prog_6_method_10_code 42 = .ok (.bipush 12, 2) := by decide +kernel
theorem d_X4_writeTree_44 : decode prog_6_method_10_code 44 = .ok (.if_icmp .lt 10, 3) := by decide +kernel
theorem d_X4_writeTree_47 : decode prog_6_method_10_code 47 = .ok (.aload_n 1, 1) := by decide +kernel
theorem d_X4_writeTree_48 : decode prog_6_method_10_code 48 = .ok (.bipush 46, 2) := by decide +kernel
theorem d_X4_writeTree_50 : decode prog_6_method_10_code 50 = .ok (.invokevirtual 192, 3) := by decide +kernel
theorem d_X4_writeTree_53 : decode prog_6_method_10_code 53 = .ok (.return_, 1) := by decide +kernel
theorem d_X4_writeTree_54 : decode prog_6_method_10_code 54 = .ok (.aload_n 0, 1) := by decide +kernel
theorem d_X4_writeTree_55 : decode prog_6_method_10_code 55 = .ok (.getfield 176, 3) := by decide +kernel
theorem d_X4_writeTree_58 : decode prog_6_method_10_code 58 = .ok (.bipush 24, 2) := by decide +kernel
theorem d_X4_writeTree_60 : decode prog_6_method_10_code 60 = .ok (.iload_n 3, 1) := by decide +kernel
theorem d_X4_writeTree_61 : decode prog_6_method_10_code 61 = .ok (.iadd, 1) := by decide +kernel
theorem d_X4_writeTree_62 : decode prog_6_method_10_code 62 = .ok (.laload, 1) := by decide +kernel
theorem d_X4_writeTree_63 : decode prog_6_method_10_code 63 = .ok (.lstore 4, 2) := by decide +kernel
theorem d_X4_writeTree_65 : decode prog_6_method_10_code 65 = .ok (.aload_n 1, 1) := by decide +kernel
theorem d_X4_writeTree_66 : decode prog_6_method_10_code 66 = .ok (.lload 4, 2) := by decide +kernel
theorem d_X4_writeTree_68 : decode prog_6_method_10_code 68 = .ok (.lload 4, 2) := by decide +kernel
theorem d_X4_writeTree_70 : decode prog_6_method_10_code 70 = .ok (.invokestatic 179, 3) := by decide +kernel
theorem d_X4_writeTree_73 : decode prog_6_method_10_code 73 = .ok (.invokevirtual 195, 3) := by decide +kernel
theorem d_X4_writeTree_76 : decode prog_6_method_10_code 76 = .ok (.iconst 0, 1) := by decide +kernel
theorem d_X4_writeTree_77 : decode prog_6_method_10_code 77 = .ok (.istore 6, 2) := by decide +kernel
theorem d_X4_writeTree_79 : decode prog_6_method_10_code 79 = .ok (.iload 6, 2) := by decide +kernel
theorem d_X4_writeTree_81 : decode prog_6_method_10_code 81 = .ok (.aload_n 0, 1) := by decide +kernel
theorem d_X4_writeTree_82 : decode prog_6_method_10_code 82 = .ok (.getfield 84, 3) := by decide +kernel
theorem d_X4_writeTree_85 : decode prog_6_method_10_code 85 = .ok (.getfield 88, 3) := by decide +kernel
theorem d_X4_writeTree_88 : decode prog_6_method_10_code 88 = .ok (.iload_n 3, 1) := by decide +kernel
theorem d_X4_writeTree_89 : decode prog_6_method_10_code 89 = .ok (.iaload, 1) := by decide +kernel
theorem d_X4_writeTree_90 : decode prog_6_method_10_code 90 = .ok (.if_icmp .ge 33, 3) := by decide +kernel
theorem d_X4_writeTree_93 : decode prog_6_method_10_code 93 = .ok (.aload_n 1, 1) := by decide +kernel
theorem d_X4_writeTree_94 : decode prog_6_method_10_code 94 = .ok (.iload 6, 2) := by decide +kernel
theorem d_X4_writeTree_96 : decode prog_6_method_10_code 96 = .ok (.ifCond .ne 8, 3) := by decide +kernel
theorem d_X4_writeTree_99 : decode prog_6_method_10_code 99 = .ok (.bipush 40, 2) := by decide +kernel
theorem d_X4_writeTree_101 : decode prog_6_method_10_code 101 = .ok (.goto 5, 3) := by decide +kernel
theorem d_X4_writeTree_104 : decode prog_6_method_10_code 104 = .ok (.bipush 44, 2) := by decide +kernel
theorem d_X4_writeTree_106 : decode prog_6_method_10_code 106 = .ok (.invokevirtual 192, 3) := by decide +kernel
theorem d_X4_writeTree_109 : decode prog_6_method_10_code 109 = .ok (.aload_n 0, 1) := by decide +kernel
theorem d_X4_writeTree_110 : decode prog_6_method_10_code 110 = .ok (.aload_n 1, 1) := by decide +kernel
theorem d_X4_writeTree_111 : decode prog_6_method_10_code 111 = .ok (.iload_n 3, 1) := by decide +kernel
theorem d_X4_writeTree_112 : decode prog_6_method_10_code 112 = .ok (.iconst 1, 1) := by decide +kernel
theorem d_X4_writeTree_113 : decode prog_6_method_10_code 113 = .ok (.iadd, 1) := by decide +kernel
theorem d_X4_writeTree_114 : decode prog_6_method_10_code 114 = .ok (.invokestatic 188, 3) := by decide +kernel
theorem d_X4_writeTree_117 : decode prog_6_method_10_code 117 = .ok (.iinc 6 1, 3) := by decide +kernel
theorem d_X4_writeTree_120 : decode prog_6_method_10_code 120 = .ok (.goto (-41), 3) := by decide +kernel
theorem d_X4_writeTree_123 : decode prog_6_method_10_code 123 = .ok (.aload_n 1, 1) := by decide +kernel
theorem d_X4_writeTree_124 : decode prog_6_method_10_code 124 = .ok (.bipush 41, 2) := by decide +kernel
theorem d_X4_writeTree_126 : decode prog_6_method_10_code 126 = .ok (.invokevirtual 192, 3) := by decide +kernel
theorem d_X4_writeTree_129 : decode prog_6_method_10_code 129 = .ok (.return_, 1) := by decide +kernel
theorem v_X4_writeTree_0 {E : EE} {d : Nat} {Q : Option AV → AH → Prop} {x0 : Nat} {x1 : Nat} {x2 : Int32} {G : AH} (h : wp E d M_X4_writeTree 2 [some (vr x0), some (vr x1), some (vi x2), some (vi x2), none, none, none] [] G Q) : wp E d M_X4_writeTree 0 [some (vr x0), some (vr x1), some (vi x2), none, none, none, none] [] G Q := by
  refine wp_iload_n (pc := 0) d_X4_writeTree_0 rfl ?_
  refine wp_istore_n (pc := 1) (lv' := [some (vr _), some (vr _), some (vi _), some (vi _), none, none, none]) d_X4_writeTree_1 (by decide) rfl ?_
  refine wp_sub ?_ h
  exact ⟨rfl, ⟨rfl, ⟨rfl, ⟨rfl, trivial⟩⟩⟩⟩
theorem v_X4_writeTree_2 {E : EE} {d : Nat} {Q : Option AV → AH → Prop} {x0 : Nat} {x1 : Nat} {x2 : Int32} {x3 : Int32} {G : AH} (h : isO E G x0 3 ∧ (isO E G (gR G x0 4) 7 ∧ (((gI G (gR G x0 4) 0) ≤ x3 → wp E d M_X4_writeTree 30 [some (vr x0), some (vr x1), some (vi x2), some (vi x3), none, none, none] [] G Q) ∧ (¬ ((gI G (gR G x0 4) 0) ≤ x3) → ((((gI G x0 9) >>> (x3 &&& 31)) &&& 1) = 0 → wp E d M_X4_writeTree 30 [some (vr x0), some (vr x1), some (vi x2), some (vi x3), none, none, none] [] G Q) ∧ (¬ ((((gI G x0 9) >>> (x3 &&& 31)) &&& 1) = 0) → wp E d M_X4_writeTree 2 [some (vr x0), some (vr x1), some (vi x2), some (vi (x3 + 1)), none, none, none] [] G Q))))) : wp E d M_X4_writeTree 2 [some (vr x0), some (vr x1), some (vi x2), some (vi x3), none, none, none] [] G Q := by
  refine wp_iload_n (pc := 2) d_X4_writeTree_2 rfl ?_
  refine wp_aload_n (pc := 3) d_X4_writeTree_3 rfl ?_
  obtain ⟨ho1, h⟩ := h
  refine wp_getR (pc := 4) d_X4_writeTree_4 fl_X4_84 (fun _ _ _ => rfl) ho1 ?_
  obtain ⟨ho2, h⟩ := h
  refine wp_getI (pc := 7) d_X4_writeTree_7 fl_X4_129 (fun _ _ _ => rfl) ho2 ?_
  refine wp_icmp_ge (pc := 10) (tgt := 30) d_X4_writeTree_10 (by decide) (fun hc => ?_) (fun hc => ?_)
  · have h := h.1 hc
    refine wp_sub ?_ h
    exact ⟨rfl, ⟨rfl, ⟨rfl, ⟨rfl, trivial⟩⟩⟩⟩
  · have h := h.2 hc
    refine wp_aload_n (pc := 13) d_X4_writeTree_13 rfl ?_
    refine wp_getI (pc := 14) d_X4_writeTree_14 fl_X4_29 (fun _ _ _ => rfl) ho1 ?_
    refine wp_iload_n (pc := 17) d_X4_writeTree_17 rfl ?_
    refine wp_ishr (pc := 18) d_X4_writeTree_18 ?_
    refine wp_iconst (pc := 19) (v := 1) d_X4_writeTree_19 rfl ?_
    refine wp_iand (pc := 20) d_X4_writeTree_20 ?_
    refine wp_if_eq (pc := 21) (tgt := 30) d_X4_writeTree_21 (by decide) (fun hc => ?_) (fun hc => ?_)
    · have h := h.1 hc
      refine wp_sub ?_ h
      exact ⟨rfl, ⟨rfl, ⟨rfl, ⟨rfl, trivial⟩⟩⟩⟩
    · have h := h.2 hc
      refine wp_iinc (pc := 24) (v := 1) (lv' := [some (vr _), some (vr _), some (vi _), some (vi _), none, none, none]) d_X4_writeTree_24 (by decide) rfl rfl rfl ?_
      refine wp_goto (pc := 27) (tgt := 2) d_X4_writeTree_27 (by decide) ?_
      refine wp_sub ?_ h
      exact ⟨rfl, ⟨rfl, ⟨rfl, ⟨rfl, trivial⟩⟩⟩⟩
theorem v_X4_writeTree_30 {E : EE} {d : Nat} {Q : Option AV → AH → Prop} {x0 : Nat} {x1 : Nat} {x2 : Int32} {x3 : Int32} {G : AH} (h0 : 0 < d) (h : isO E G x0 3 ∧ (isO E G (gR G x0 4) 7 ∧ (((gI G (gR G x0 4) 0) ≤ x3 → wp E d M_X4_writeTree 47 [some (vr x0), some (vr x1), some (vi x2), some (vi x3), none, none, none] [] G Q) ∧ (¬ ((gI G (gR G x0 4) 0) ≤ x3) → (x3 < 12 → isO E G (gR G x0 2) 15 ∧ (vp_in (24 + x3) (gN G (gR G x0 2)) ∧ (wpI E (d - 1) M_X3_letters [vj (gJ G (gR G x0 2) (Int32.toNatClampNeg (24 + x3)))] G (fun r5 G6 => isO E G6 x1 0 ∧ (wpV E (d - 1) M_X0_addNumber [vr x1, vj (gJ G (gR G x0 2) (Int32.toNatClampNeg (24 + x3))), vi r5] G6 (fun G7 => wp E d M_X4_writeTree 79 [some (vr x0), some (vr x1), some (vi x2), some (vi x3), some (vj (gJ G (gR G x0 2) (Int32.toNatClampNeg (24 + x3)))), none, some (vi 0)] [] G7 Q)))))) ∧ (¬ (x3 < 12) → wp E d M_X4_writeTree 47 [some (vr x0), some (vr x1), some (vi x2), some (vi x3), none, none, none] [] G Q))))) : wp E d M_X4_writeTree 30 [some (vr x0), some (vr x1), some (vi x2), some (vi x3), none, none, none] [] G Q := by
  refine wp_iload_n (pc := 30) d_X4_writeTree_30 rfl ?_
  refine wp_aload_n (pc := 31) d_X4_writeTree_31 rfl ?_
  obtain ⟨ho1, h⟩ := h
  refine wp_getR (pc := 32) d_X4_writeTree_32 fl_X4_84 (fun _ _ _ => rfl) ho1 ?_
  obtain ⟨ho2, h⟩ := h
  refine wp_getI (pc := 35) d_X4_writeTree_35 fl_X4_129 (fun _ _ _ => rfl) ho2 ?_
  refine wp_icmp_ge (pc := 38) (tgt := 47) d_X4_writeTree_38 (by decide) (fun hc => ?_) (fun hc => ?_)
  · have h := h.1 hc
    refine wp_sub ?_ h
    exact ⟨rfl, ⟨rfl, ⟨rfl, ⟨rfl, trivial⟩⟩⟩⟩
  · have h := h.2 hc
    refine wp_iload_n (pc := 41) d_X4_writeTree_41 rfl ?_
    refine wp_bipush (pc := 42) (v := 12) d_X4_writeTree_42 rfl ?_
    refine wp_icmp_lt (pc := 44) (tgt := 54) d_X4_writeTree_44 (by decide) (fun hc => ?_) (fun hc => ?_)
    · have h := h.1 hc
      refine wp_aload_n (pc := 54) d_X4_writeTree_54 rfl ?_
      refine wp_getR (pc := 55) d_X4_writeTree_55 fl_X4_176 (fun _ _ _ => rfl) ho1 ?_
      refine wp_bipush (pc := 58) (v := 24) d_X4_writeTree_58 rfl ?_
      refine wp_iload_n (pc := 60) d_X4_writeTree_60 rfl ?_
      refine wp_iadd (pc := 61) d_X4_writeTree_61 ?_
      obtain ⟨ho3, h⟩ := h
      obtain ⟨hi4, h⟩ := h
      refine wp_lald (pc := 62) d_X4_writeTree_62 ho3 hi4 ?_
      refine wp_lstore (pc := 63) (lv' := [some (vr _), some (vr _), some (vi _), some (vi _), some (vj _), none, none]) d_X4_writeTree_63 (by decide) rfl ?_
      refine wp_aload_n (pc := 65) d_X4_writeTree_65 rfl ?_
      refine wp_lload (pc := 66) d_X4_writeTree_66 rfl ?_
      refine wp_lload (pc := 68) d_X4_writeTree_68 rfl ?_
      refine wp_invS (pc := 70) (N := M_X3_letters) (As := [vj _]) (rest := [vj _, vr _]) d_X4_writeTree_70 ml_X4_179 mk_X3_letters ms_X3_letters h0 (Nat.le_of_ble_eq_true rfl) ?_
      refine wpM.mono h (fun rr G6 hr => ?_)
      obtain ⟨r5, rfl, h⟩ := hr
      show wp E d M_X4_writeTree 73 [some (vr _), some (vr _), some (vi _), some (vi _), some (vj _), none, none] [vi _, vj _, vr _] G6 Q
      obtain ⟨ho8, h⟩ := h
      refine wp_invV (pc := 73) (N := M_X0_addNumber) (As := [vj _, vi _]) (rest := []) (r := (cn_0, ct_0, 2)) d_X4_writeTree_73 ml_X4_195 mk_X0_addNumber mv_X0_addNumber h0 ho8 rfl rfl (Nat.le_of_ble_eq_true rfl) ?_
      refine wpM.mono h (fun rr G7 hr => ?_)
      obtain ⟨rfl, h⟩ := hr
      show wp E d M_X4_writeTree 76 [some (vr _), some (vr _), some (vi _), some (vi _), some (vj _), none, none] [] G7 Q
      refine wp_iconst (pc := 76) (v := 0) d_X4_writeTree_76 rfl ?_
      refine wp_istore (pc := 77) (lv' := [some (vr _), some (vr _), some (vi _), some (vi _), some (vj _), none, some (vi _)]) d_X4_writeTree_77 (by decide) rfl ?_
      refine wp_sub ?_ h
      exact ⟨rfl, ⟨rfl, ⟨rfl, ⟨rfl, ⟨rfl, ⟨rfl, trivial⟩⟩⟩⟩⟩⟩
    · have h := h.2 hc
      refine wp_sub ?_ h
      exact ⟨rfl, ⟨rfl, ⟨rfl, ⟨rfl, trivial⟩⟩⟩⟩
theorem v_X4_writeTree_47 {E : EE} {d : Nat} {Q : Option AV → AH → Prop} {x0 : Nat} {x1 : Nat} {x2 : Int32} {x3 : Int32} {G : AH} (h0 : 0 < d) (h : isO E G x1 0 ∧ (wpV E (d - 1) M_X0_add [vr x1, vi 46] G (fun G1 => Q none G1))) : wp E d M_X4_writeTree 47 [some (vr x0), some (vr x1), some (vi x2), some (vi x3), none, none, none] [] G Q := by
  refine wp_aload_n (pc := 47) d_X4_writeTree_47 rfl ?_
  refine wp_bipush (pc := 48) (v := 46) d_X4_writeTree_48 rfl ?_
  obtain ⟨ho2, h⟩ := h
  refine wp_invV (pc := 50) (N := M_X0_add) (As := [vi _]) (rest := []) (r := (cn_0, ct_0, 2)) d_X4_writeTree_50 ml_X4_192 mk_X0_add mv_X0_add h0 ho2 rfl rfl (Nat.le_of_ble_eq_true rfl) ?_
  refine wpM.mono h (fun rr G1 hr => ?_)
  obtain ⟨rfl, h⟩ := hr
  show wp E d M_X4_writeTree 53 [some (vr _), some (vr _), some (vi _), some (vi _), none, none, none] [] G1 Q
  exact wp_vret (pc := 53) d_X4_writeTree_53 rfl h
theorem v_X4_writeTree_79 {E : EE} {d : Nat} {Q : Option AV → AH → Prop} {x0 : Nat} {x1 : Nat} {x2 : Int32} {x3 : Int32} {x4 : Int64} {x6 : Int32} {G : AH} (h0 : 0 < d) (h : isO E G x0 3 ∧ (isO E G (gR G x0 4) 7 ∧ (isO E G (gR G (gR G x0 4) 2) 14 ∧ (vp_in x3 (gN G (gR G (gR G x0 4) 2)) ∧ (((gI G (gR G (gR G x0 4) 2) (Int32.toNatClampNeg x3)) ≤ x6 → isO E G x1 0 ∧ (wpV E (d - 1) M_X0_add [vr x1, vi 41] G (fun G5 => Q none G5))) ∧ (¬ ((gI G (gR G (gR G x0 4) 2) (Int32.toNatClampNeg x3)) ≤ x6) → (¬ x6 = 0 → wp E d M_X4_writeTree 106 [some (vr x0), some (vr x1), some (vi x2), some (vi x3), some (vj x4), none, some (vi x6)] [vi 44, vr x1] G Q) ∧ (x6 = 0 → wp E d M_X4_writeTree 106 [some (vr x0), some (vr x1), some (vi x2), some (vi x3), some (vj x4), none, some (vi x6)] [vi 40, vr x1] G Q))))))) : wp E d M_X4_writeTree 79 [some (vr x0), some (vr x1), some (vi x2), some (vi x3), some (vj x4), none, some (vi x6)] [] G Q := by
  refine wp_iload (pc := 79) d_X4_writeTree_79 rfl ?_
  refine wp_aload_n (pc := 81) d_X4_writeTree_81 rfl ?_
  obtain ⟨ho1, h⟩ := h
  refine wp_getR (pc := 82) d_X4_writeTree_82 fl_X4_84 (fun _ _ _ => rfl) ho1 ?_
  obtain ⟨ho2, h⟩ := h
  refine wp_getR (pc := 85) d_X4_writeTree_85 fl_X4_88 (fun _ _ _ => rfl) ho2 ?_
  refine wp_iload_n (pc := 88) d_X4_writeTree_88 rfl ?_
  obtain ⟨ho3, h⟩ := h
  obtain ⟨hi4, h⟩ := h
  refine wp_iald (pc := 89) d_X4_writeTree_89 ho3 hi4 ?_
  refine wp_icmp_ge (pc := 90) (tgt := 123) d_X4_writeTree_90 (by decide) (fun hc => ?_) (fun hc => ?_)
  · have h := h.1 hc
    refine wp_aload_n (pc := 123) d_X4_writeTree_123 rfl ?_
    refine wp_bipush (pc := 124) (v := 41) d_X4_writeTree_124 rfl ?_
    obtain ⟨ho6, h⟩ := h
    refine wp_invV (pc := 126) (N := M_X0_add) (As := [vi _]) (rest := []) (r := (cn_0, ct_0, 2)) d_X4_writeTree_126 ml_X4_192 mk_X0_add mv_X0_add h0 ho6 rfl rfl (Nat.le_of_ble_eq_true rfl) ?_
    refine wpM.mono h (fun rr G5 hr => ?_)
    obtain ⟨rfl, h⟩ := hr
    show wp E d M_X4_writeTree 129 [some (vr _), some (vr _), some (vi _), some (vi _), some (vj _), none, some (vi _)] [] G5 Q
    exact wp_vret (pc := 129) d_X4_writeTree_129 rfl h
  · have h := h.2 hc
    refine wp_aload_n (pc := 93) d_X4_writeTree_93 rfl ?_
    refine wp_iload (pc := 94) d_X4_writeTree_94 rfl ?_
    refine wp_if_ne (pc := 96) (tgt := 104) d_X4_writeTree_96 (by decide) (fun hc => ?_) (fun hc => ?_)
    · have h := h.1 hc
      refine wp_bipush (pc := 104) (v := 44) d_X4_writeTree_104 rfl ?_
      refine wp_sub ?_ h
      exact ⟨rfl, ⟨rfl, ⟨rfl, ⟨rfl, ⟨rfl, ⟨rfl, trivial⟩⟩⟩⟩⟩⟩
    · have h := h.2 hc
      refine wp_bipush (pc := 99) (v := 40) d_X4_writeTree_99 rfl ?_
      refine wp_goto (pc := 101) (tgt := 106) d_X4_writeTree_101 (by decide) ?_
      refine wp_sub ?_ h
      exact ⟨rfl, ⟨rfl, ⟨rfl, ⟨rfl, ⟨rfl, ⟨rfl, trivial⟩⟩⟩⟩⟩⟩
theorem v_X4_writeTree_106 {E : EE} {d : Nat} {Q : Option AV → AH → Prop} {x0 : Nat} {x1 : Nat} {x2 : Int32} {x3 : Int32} {x4 : Int64} {x6 : Int32} {t0 : Nat} {t1 : Int32} {G : AH} (h0 : 0 < d) (h : isO E G t0 0 ∧ (wpV E (d - 1) M_X0_add [vr t0, vi t1] G (fun G1 => wpV E (d - 1) M_X4_writeTree [vr x0, vr x1, vi (x3 + 1)] G1 (fun G2 => wp E d M_X4_writeTree 79 [some (vr x0), some (vr x1), some (vi x2), some (vi x3), some (vj x4), none, some (vi (x6 + 1))] [] G2 Q)))) : wp E d M_X4_writeTree 106 [some (vr x0), some (vr x1), some (vi x2), some (vi x3), some (vj x4), none, some (vi x6)] [vi t1, vr t0] G Q := by
  obtain ⟨ho3, h⟩ := h
  refine wp_invV (pc := 106) (N := M_X0_add) (As := [vi _]) (rest := []) (r := (cn_0, ct_0, 2)) d_X4_writeTree_106 ml_X4_192 mk_X0_add mv_X0_add h0 ho3 rfl rfl (Nat.le_of_ble_eq_true rfl) ?_
  refine wpM.mono h (fun rr G1 hr => ?_)
  obtain ⟨rfl, h⟩ := hr
  show wp E d M_X4_writeTree 109 [some (vr _), some (vr _), some (vi _), some (vi _), some (vj _), none, some (vi _)] [] G1 Q
  refine wp_aload_n (pc := 109) d_X4_writeTree_109 rfl ?_
  refine wp_aload_n (pc := 110) d_X4_writeTree_110 rfl ?_
  refine wp_iload_n (pc := 111) d_X4_writeTree_111 rfl ?_
  refine wp_iconst (pc := 112) (v := 1) d_X4_writeTree_112 rfl ?_
  refine wp_iadd (pc := 113) d_X4_writeTree_113 ?_
  refine wp_invS (pc := 114) (N := M_X4_writeTree) (As := [vr _, vr _, vi _]) (rest := []) d_X4_writeTree_114 ml_X4_188 mk_X4_writeTree ms_X4_writeTree h0 (Nat.le_of_ble_eq_true rfl) ?_
  refine wpM.mono h (fun rr G2 hr => ?_)
  obtain ⟨rfl, h⟩ := hr
  show wp E d M_X4_writeTree 117 [some (vr _), some (vr _), some (vi _), some (vi _), some (vj _), none, some (vi _)] [] G2 Q
  refine wp_iinc (pc := 117) (v := 1) (lv' := [some (vr _), some (vr _), some (vi _), some (vi _), some (vj _), none, some (vi _)]) d_X4_writeTree_117 (by decide) rfl rfl rfl ?_
  refine wp_goto (pc := 120) (tgt := 79) d_X4_writeTree_120 (by decide) ?_
  refine wp_sub ?_ h
  exact ⟨rfl, ⟨rfl, ⟨rfl, ⟨rfl, ⟨rfl, ⟨rfl, trivial⟩⟩⟩⟩⟩⟩
theorem d_X4_isRight_0 : decode prog_6_method_2_code 0 = .ok (.aload_n 0, 1) := by decide +kernel
theorem d_X4_isRight_1 : decode prog_6_method_2_code 1 = .ok (.getfield 19, 3) := by decide +kernel
theorem d_X4_isRight_4 : decode prog_6_method_2_code 4 = .ok (.aload_n 2, 1) := by decide +kernel
theorem d_X4_isRight_5 : decode prog_6_method_2_code 5 = .ok (.invokevirtual 23, 3) := by decide +kernel
theorem d_X4_isRight_8 : decode prog_6_method_2_code 8 = .ok (.aload_n 0, 1) := by decide +kernel
theorem d_X4_isRight_9 : decode prog_6_method_2_code 9 = .ok (.aload_n 1, 1) := by decide +kernel
theorem d_X4_isRight_10 : decode prog_6_method_2_code 10 = .ok (.aload_n 1, 1) := by decide +kernel
theorem d_X4_isRight_11 : decode prog_6_method_2_code 11 = .ok (.getfield 29, 3) := by decide +kernel
theorem d_X4_isRight_14 : decode prog_6_method_2_code 14 = .ok (.aload_n 1, 1) := by decide +kernel
theorem d_X4_isRight_15 : decode prog_6_method_2_code 15 = .ok (.getfield 35, 3) := by decide +kernel
theorem d_X4_isRight_18 : decode prog_6_method_2_code 18 = .ok (.iconst 0, 1) := by decide +kernel
theorem d_X4_isRight_19 : decode prog_6_method_2_code 19 = .ok (.invokevirtual 38, 3) := by decide +kernel
theorem d_X4_isRight_22 : decode prog_6_method_2_code 22 = .ok (.ifCond .ne 5, 3) := by decide +kernel
theorem d_X4_isRight_25 : decode prog_6_method_2_code 25 = .ok (.iconst 0, 1) := by decide +kernel
theorem d_X4_isRight_26 : decode prog_6_method_2_code 26 = .ok (.ireturn, 1) := by decide +kernel
theorem d_X4_isRight_27 : decode prog_6_method_2_code 27 = .ok (.aload_n 0, 1) := by decide +kernel
theorem d_X4_isRight_28 : decode prog_6_method_2_code 28 = .ok (.getfield 19, 3) := by decide +kernel
theorem d_X4_isRight_31 : decode prog_6_method_2_code 31 = .ok (.getfield 42, 3) := by decide +kernel
theorem d_X4_isRight_34 : decode prog_6_method_2_code 34 = .ok (.ifCond .eq 13, 3) := by decide +kernel
theorem d_X4_isRight_37 : decode prog_6_method_2_code 37 = .ok (.aload_n 0, 1) := by decide +kernel
theorem d_X4_isRight_38 : decode prog_6_method_2_code 38 = .ok (.getfield 19, 3) := by decide +kernel
theorem d_X4_isRight_41 : decode prog_6_method_2_code 41 = .ok (.invokevirtual 45, 3) := by decide +kernel
theorem d_X4_isRight_44 : decode prog_6_method_2_code 44 = .ok (.ifCond .eq 7, 3) := by decide +kernel
theorem d_X4_isRight_47 : decode prog_6_method_2_code 47 = .ok (.iconst 1, 1) := by decide +kernel
theorem d_X4_isRight_48 : decode prog_6_method_2_code 48 = .ok (.goto 4, 3) := by decide +kernel
theorem d_X4_isRight_51 : decode prog_6_method_2_code 51 = .ok (.iconst 0, 1) := by decide +kernel
theorem d_X4_isRight_52 : decode prog_6_method_2_code 52 = .ok (.ireturn, 1) := by decide +kernel
theorem v_X4_isRight_0 {E : EE} {d : Nat} {Q : Option AV → AH → Prop} {x0 : Nat} {x1 : Nat} {x2 : Nat} {G : AH} (h0 : 0 < d) (h : isO E G x0 4 ∧ (isO E G (gR G x0 0) 10 ∧ (wpV E (d - 1) M_X10_scan [vr (gR G x0 0), vr x2] G (fun G2 => isO E G2 x1 3 ∧ (isO E G2 x0 4 ∧ (wpI E (d - 1) M_X4_tree [vr x0, vr x1, vi (gI G2 x1 9), vi (gI G2 x1 8), vi 0] G2 (fun r4 G5 => (¬ r4 = 0 → isO E G5 x0 4 ∧ (isO E G5 (gR G5 x0 0) 10 ∧ (((gI G5 (gR G5 x0 0) 6) = 0 → wp E d M_X4_isRight 47 [some (vr x0), some (vr x1), some (vr x2)] [] G5 Q) ∧ (¬ ((gI G5 (gR G5 x0 0) 6) = 0) → wpI E (d - 1) M_X10_refuse [vr (gR G5 x0 0)] G5 (fun r8 G9 => (r8 = 0 → Q (some (vi 0)) G9) ∧ (¬ (r8 = 0) → wp E d M_X4_isRight 47 [some (vr x0), some (vr x1), some (vr x2)] [] G9 Q)))))) ∧ (r4 = 0 → Q (some (vi 0)) G5)))))))) : wp E d M_X4_isRight 0 [some (vr x0), some (vr x1), some (vr x2)] [] G Q := by
  refine wp_aload_n (pc := 0) d_X4_isRight_0 rfl ?_
  obtain ⟨ho1, h⟩ := h
  refine wp_getR (pc := 1) d_X4_isRight_1 fl_X4_19 (fun _ _ _ => rfl) ho1 ?_
  refine wp_aload_n (pc := 4) d_X4_isRight_4 rfl ?_
  obtain ⟨ho11, h⟩ := h
  refine wp_invV (pc := 5) (N := M_X10_scan) (As := [vr _]) (rest := []) (r := (cn_10, ct_10, 12)) d_X4_isRight_5 ml_X4_23 mk_X10_scan mv_X10_scan h0 ho11 rfl rfl (Nat.le_of_ble_eq_true rfl) ?_
  refine wpM.mono h (fun rr G2 hr => ?_)
  obtain ⟨rfl, h⟩ := hr
  show wp E d M_X4_isRight 8 [some (vr _), some (vr _), some (vr _)] [] G2 Q
  refine wp_aload_n (pc := 8) d_X4_isRight_8 rfl ?_
  refine wp_aload_n (pc := 9) d_X4_isRight_9 rfl ?_
  refine wp_aload_n (pc := 10) d_X4_isRight_10 rfl ?_
  obtain ⟨ho3, h⟩ := h
  refine wp_getI (pc := 11) d_X4_isRight_11 fl_X4_29 (fun _ _ _ => rfl) ho3 ?_
  refine wp_aload_n (pc := 14) d_X4_isRight_14 rfl ?_
  refine wp_getI (pc := 15) d_X4_isRight_15 fl_X4_35 (fun _ _ _ => rfl) ho3 ?_
  refine wp_iconst (pc := 18) (v := 0) d_X4_isRight_18 rfl ?_
  obtain ⟨ho10, h⟩ := h
  refine wp_invV (pc := 19) (N := M_X4_tree) (As := [vr _, vi _, vi _, vi _]) (rest := []) (r := (cn_4, ct_4, 3)) d_X4_isRight_19 ml_X4_38 mk_X4_tree mv_X4_tree h0 ho10 rfl rfl (Nat.le_of_ble_eq_true rfl) ?_
  refine wpM.mono h (fun rr G5 hr => ?_)
  obtain ⟨r4, rfl, h⟩ := hr
  show wp E d M_X4_isRight 22 [some (vr _), some (vr _), some (vr _)] [vi _] G5 Q
  refine wp_if_ne (pc := 22) (tgt := 27) d_X4_isRight_22 (by decide) (fun hc => ?_) (fun hc => ?_)
  · have h := h.1 hc
    refine wp_aload_n (pc := 27) d_X4_isRight_27 rfl ?_
    obtain ⟨ho6, h⟩ := h
    refine wp_getR (pc := 28) d_X4_isRight_28 fl_X4_19 (fun _ _ _ => rfl) ho6 ?_
    obtain ⟨ho7, h⟩ := h
    refine wp_getI (pc := 31) d_X4_isRight_31 fl_X4_42 (fun _ _ _ => rfl) ho7 ?_
    refine wp_if_eq (pc := 34) (tgt := 47) d_X4_isRight_34 (by decide) (fun hc => ?_) (fun hc => ?_)
    · have h := h.1 hc
      refine wp_sub ?_ h
      exact ⟨rfl, ⟨rfl, ⟨rfl, trivial⟩⟩⟩
    · have h := h.2 hc
      refine wp_aload_n (pc := 37) d_X4_isRight_37 rfl ?_
      refine wp_getR (pc := 38) d_X4_isRight_38 fl_X4_19 (fun _ _ _ => rfl) ho6 ?_
      refine wp_invV (pc := 41) (N := M_X10_refuse) (As := []) (rest := []) (r := (cn_10, ct_10, 12)) d_X4_isRight_41 ml_X4_45 mk_X10_refuse mv_X10_refuse h0 ho7 rfl rfl (Nat.le_of_ble_eq_true rfl) ?_
      refine wpM.mono h (fun rr G9 hr => ?_)
      obtain ⟨r8, rfl, h⟩ := hr
      show wp E d M_X4_isRight 44 [some (vr _), some (vr _), some (vr _)] [vi _] G9 Q
      refine wp_if_eq (pc := 44) (tgt := 51) d_X4_isRight_44 (by decide) (fun hc => ?_) (fun hc => ?_)
      · have h := h.1 hc
        refine wp_iconst (pc := 51) (v := 0) d_X4_isRight_51 rfl ?_
        exact wp_zret (pc := 52) d_X4_isRight_52 rfl rfl h
      · have h := h.2 hc
        refine wp_sub ?_ h
        exact ⟨rfl, ⟨rfl, ⟨rfl, trivial⟩⟩⟩
  · have h := h.2 hc
    refine wp_iconst (pc := 25) (v := 0) d_X4_isRight_25 rfl ?_
    exact wp_zret (pc := 26) d_X4_isRight_26 rfl rfl h
theorem v_X4_isRight_47 {E : EE} {d : Nat} {Q : Option AV → AH → Prop} {x0 : Nat} {x1 : Nat} {x2 : Nat} {G : AH} (h : Q (some (vi 1)) G) : wp E d M_X4_isRight 47 [some (vr x0), some (vr x1), some (vr x2)] [] G Q := by
  refine wp_iconst (pc := 47) (v := 1) d_X4_isRight_47 rfl ?_
  refine wp_goto (pc := 48) (tgt := 52) d_X4_isRight_48 (by decide) ?_
  exact wp_zret (pc := 52) d_X4_isRight_52 rfl rfl h
theorem d_X4_tree_0 : decode prog_6_method_3_code 0 = .ok (.aload_n 0, 1) := by decide +kernel
theorem d_X4_tree_1 : decode prog_6_method_3_code 1 = .ok (.getfield 19, 3) := by decide +kernel
theorem d_X4_tree_4 : decode prog_6_method_3_code 4 = .ok (.getfield 42, 3) := by decide +kernel
theorem d_X4_tree_7 : decode prog_6_method_3_code 7 = .ok (.iconst 2, 1) := by decide +kernel
theorem d_X4_tree_8 : decode prog_6_method_3_code 8 = .ok (.if_icmp .ne 13, 3) := by decide +kernel
theorem d_X4_tree_11 : decode prog_6_method_3_code 11 = .ok (.aload_n 0, 1) := by decide +kernel
theorem d_X4_tree_12 : decode prog_6_method_3_code 12 = .ok (.aload_n 1, 1) := by decide +kernel
theorem d_X4_tree_13 : decode prog_6_method_3_code 13 = .ok (.iload_n 2, 1) := by decide +kernel
theorem d_X4_tree_14 : decode prog_6_method_3_code 14 = .ok (.iload_n 3, 1) := by decide +kernel
theorem d_X4_tree_15 : decode prog_6_method_3_code 15 = .ok (.iload 4, 2) := by decide +kernel
theorem d_X4_tree_17 : decode prog_6_method_3_code 17 = .ok (.invokevirtual 49, 3) := by decide +kernel
theorem d_X4_tree_20 : decode prog_6_method_3_code 20 = .ok (.ireturn, 1) := by decide +kernel
theorem d_X4_tree_21 : decode prog_6_method_3_code 21 = .ok (.aload_n 0, 1) := by decide +kernel
theorem d_X4_tree_22 : decode prog_6_method_3_code 22 = .ok (.getfield 19, 3) := by decide +kernel
theorem d_X4_tree_25 : decode prog_6_method_3_code 25 = .ok (.bipush 33, 2) := by decide +kernel
theorem d_X4_tree_27 : decode prog_6_method_3_code 27 = .ok (.invokevirtual 52, 3) := by decide +kernel
theorem d_X4_tree_30 : decode prog_6_method_3_code 30 = .ok (.ifCond .eq 11, 3) := by decide +kernel
theorem d_X4_tree_33 : decode prog_6_method_3_code 33 = .ok (.aload_n 0, 1) := by decide +kernel
theorem d_X4_tree_34 : decode prog_6_method_3_code 34 = .ok (.aload_n 1, 1) := by decide +kernel
theorem d_X4_tree_35 : decode prog_6_method_3_code 35 = .ok (.iload_n 2, 1) := by decide +kernel
theorem d_X4_tree_36 : decode prog_6_method_3_code 36 = .ok (.iload_n 3, 1) := by decide +kernel
theorem d_X4_tree_37 : decode prog_6_method_3_code 37 = .ok (.invokevirtual 56, 3) := by decide +kernel
theorem d_X4_tree_40 : decode prog_6_method_3_code 40 = .ok (.ireturn, 1) := by decide +kernel
theorem d_X4_tree_41 : decode prog_6_method_3_code 41 = .ok (.aload_n 0, 1) := by decide +kernel
theorem d_X4_tree_42 : decode prog_6_method_3_code 42 = .ok (.getfield 19, 3) := by decide +kernel
theorem d_X4_tree_45 : decode prog_6_method_3_code 45 = .ok (.bipush 46, 2) := by decide +kernel
theorem d_X4_tree_47 : decode prog_6_method_3_code 47 = .ok (.invokevirtual 52, 3) := by decide +kernel
theorem d_X4_tree_50 : decode prog_6_method_3_code 50 = .ok (.ifCond .ne 23, 3) := by decide +kernel
theorem d_X4_tree_53 : decode prog_6_method_3_code 53 = .ok (.aload_n 0, 1) := by decide +kernel
theorem d_X4_tree_54 : decode prog_6_method_3_code 54 = .ok (.getfield 19, 3) := by decide +kernel
theorem d_X4_tree_57 : decode prog_6_method_3_code 57 = .ok (.bipush 60, 2) := by decide +kernel
theorem d_X4_tree_59 : decode prog_6_method_3_code 59 = .ok (.invokevirtual 52, 3) := by decide +kernel
theorem d_X4_tree_62 : decode prog_6_method_3_code 62 = .ok (.ifCond .ne 11, 3) := by decide +kernel
theorem d_X4_tree_65 : decode prog_6_method_3_code 65 = .ok (.aload_n 0, 1) := by decide +kernel
theorem d_X4_tree_66 : decode prog_6_method_3_code 66 = .ok (.getfield 19, 3) := by decide +kernel
theorem d_X4_tree_69 : decode prog_6_method_3_code 69 = .ok (.invokevirtual 45, 3) := by decide +kernel
theorem d_X4_tree_72 : decode prog_6_method_3_code 72 = .ok (.ireturn, 1) := by decide +kernel
theorem d_X4_tree_73 : decode prog_6_method_3_code 73 = .ok (.aload_n 0, 1) := by decide +kernel
theorem d_X4_tree_74 : decode prog_6_method_3_code 74 = .ok (.getfield 19, 3) := by decide +kernel
theorem d_X4_tree_77 : decode prog_6_method_3_code 77 = .ok (.bipush 46, 2) := by decide +kernel
theorem d_X4_tree_79 : decode prog_6_method_3_code 79 = .ok (.invokevirtual 52, 3) := by decide +kernel
theorem d_X4_tree_82 : decode prog_6_method_3_code 82 = .ok (.ifCond .eq 12, 3) := by decide +kernel
theorem d_X4_tree_85 : decode prog_6_method_3_code 85 = .ok (.aload_n 1, 1) := by decide +kernel
theorem d_X4_tree_86 : decode prog_6_method_3_code 86 = .ok (.iload_n 2, 1) := by decide +kernel
theorem d_X4_tree_87 : decode prog_6_method_3_code 87 = .ok (.iload_n 3, 1) := by decide +kernel
theorem d_X4_tree_88 : decode prog_6_method_3_code 88 = .ok (.invokestatic 60, 3) := by decide +kernel
theorem d_X4_tree_91 : decode prog_6_method_3_code 91 = .ok (.goto 10, 3) := by decide +kernel
theorem d_X4_tree_94 : decode prog_6_method_3_code 94 = .ok (.aload_n 0, 1) := by decide +kernel
theorem d_X4_tree_95 : decode prog_6_method_3_code 95 = .ok (.aload_n 1, 1) := by decide +kernel
theorem d_X4_tree_96 : decode prog_6_method_3_code 96 = .ok (.iload_n 2, 1) := by decide +kernel
theorem d_X4_tree_97 : decode prog_6_method_3_code 97 = .ok (.iload_n 3, 1) := by decide +kernel
theorem d_X4_tree_98 : decode prog_6_method_3_code 98 = .ok (.invokevirtual 63, 3) := by decide +kernel
theorem d_X4_tree_101 : decode prog_6_method_3_code 101 = .ok (.istore 5, 2) := by decide +kernel
theorem d_X4_tree_103 : decode prog_6_method_3_code 103 = .ok (.iload 5, 2) := by decide +kernel
theorem d_X4_tree_105 : decode prog_6_method_3_code 105 = .ok (.ifCond .ne 20, 3) := by decide +kernel
theorem d_X4_tree_108 : decode prog_6_method_3_code 108 = .ok (.aload_n 0, 1) := by decide +kernel
theorem d_X4_tree_109 : decode prog_6_method_3_code 109 = .ok (.getfield 19, 3) := by decide +kernel
theorem d_X4_tree_112 : decode prog_6_method_3_code 112 = .ok (.bipush 8, 2) := by decide +kernel
theorem d_X4_tree_114 : decode prog_6_method_3_code 114 = .ok (.aload_n 0, 1) := by decide +kernel
theorem d_X4_tree_115 : decode prog_6_method_3_code 115 = .ok (.getfield 19, 3) := by decide +kernel
theorem d_X4_tree_118 : decode prog_6_method_3_code 118 = .ok (.getfield 66, 3) := by decide +kernel
theorem d_X4_tree_121 : decode prog_6_method_3_code 121 = .ok (.invokevirtual 69, 3) := by decide +kernel
theorem d_X4_tree_124 : decode prog_6_method_3_code 124 = .ok (.ireturn, 1) := by decide +kernel
theorem d_X4_tree_125 : decode prog_6_method_3_code 125 = .ok (.aload_n 0, 1) := by decide +kernel
theorem d_X4_tree_126 : decode prog_6_method_3_code 126 = .ok (.getfield 19, 3) := by decide +kernel
theorem d_X4_tree_129 : decode prog_6_method_3_code 129 = .ok (.invokevirtual 73, 3) := by decide +kernel
theorem d_X4_tree_132 : decode prog_6_method_3_code 132 = .ok (.iconst 1, 1) := by decide +kernel
theorem d_X4_tree_133 : decode prog_6_method_3_code 133 = .ok (.ireturn, 1) := by decide +kernel
theorem v_X4_tree_0 {E : EE} {d : Nat} {Q : Option AV → AH → Prop} {x0 : Nat} {x1 : Nat} {x2 : Int32} {x3 : Int32} {x4 : Int32} {G : AH} (h0 : 0 < d) (h : isO E G x0 4 ∧ (isO E G (gR G x0 0) 10 ∧ ((¬ (gI G (gR G x0 0) 6) = 2 → wpI E (d - 1) M_X10_is [vr (gR G x0 0), vi 33] G (fun r3 G4 => (r3 = 0 → isO E G4 x0 4 ∧ (isO E G4 (gR G4 x0 0) 10 ∧ (wpI E (d - 1) M_X10_is [vr (gR G4 x0 0), vi 46] G4 (fun r6 G7 => (¬ r6 = 0 → wp E d M_X4_tree 73 [some (vr x0), some (vr x1), some (vi x2), some (vi x3), some (vi x4), none] [] G7 Q) ∧ (r6 = 0 → isO E G7 x0 4 ∧ (isO E G7 (gR G7 x0 0) 10 ∧ (wpI E (d - 1) M_X10_is [vr (gR G7 x0 0), vi 60] G7 (fun r9 G10 => (¬ r9 = 0 → wp E d M_X4_tree 73 [some (vr x0), some (vr x1), some (vi x2), some (vi x3), some (vi x4), none] [] G10 Q) ∧ (r9 = 0 → isO E G10 x0 4 ∧ (isO E G10 (gR G10 x0 0) 10 ∧ (wpI E (d - 1) M_X10_refuse [vr (gR G10 x0 0)] G10 (fun r12 G13 => okI .boolean r12 ∧ Q (some (vi r12)) G13)))))))))))) ∧ (¬ (r3 = 0) → isO E G4 x0 4 ∧ (wpI E (d - 1) M_X4_ruledOut [vr x0, vr x1, vi x2, vi x3] G4 (fun r17 G18 => okI .boolean r17 ∧ Q (some (vi r17)) G18))))) ∧ ((gI G (gR G x0 0) 6) = 2 → wpI E (d - 1) M_X4_branches [vr x0, vr x1, vi x2, vi x3, vi x4] G (fun r20 G21 => okI .boolean r20 ∧ Q (some (vi r20)) G21))))) : wp E d M_X4_tree 0 [some (vr x0), some (vr x1), some (vi x2), some (vi x3), some (vi x4), none] [] G Q := by
  refine wp_aload_n (pc := 0) d_X4_tree_0 rfl ?_
  obtain ⟨ho1, h⟩ := h
  refine wp_getR (pc := 1) d_X4_tree_1 fl_X4_19 (fun _ _ _ => rfl) ho1 ?_
  obtain ⟨ho2, h⟩ := h
  refine wp_getI (pc := 4) d_X4_tree_4 fl_X4_42 (fun _ _ _ => rfl) ho2 ?_
  refine wp_iconst (pc := 7) (v := 2) d_X4_tree_7 rfl ?_
  refine wp_icmp_ne (pc := 8) (tgt := 21) d_X4_tree_8 (by decide) (fun hc => ?_) (fun hc => ?_)
  · have h := h.1 hc
    refine wp_aload_n (pc := 21) d_X4_tree_21 rfl ?_
    refine wp_getR (pc := 22) d_X4_tree_22 fl_X4_19 (fun _ _ _ => rfl) ho1 ?_
    refine wp_bipush (pc := 25) (v := 33) d_X4_tree_25 rfl ?_
    refine wp_invV (pc := 27) (N := M_X10_is) (As := [vi _]) (rest := []) (r := (cn_10, ct_10, 12)) d_X4_tree_27 ml_X4_52 mk_X10_is mv_X10_is h0 ho2 rfl rfl (Nat.le_of_ble_eq_true rfl) ?_
    refine wpM.mono h (fun rr G4 hr => ?_)
    obtain ⟨r3, rfl, h⟩ := hr
    show wp E d M_X4_tree 30 [some (vr _), some (vr _), some (vi _), some (vi _), some (vi _), none] [vi _] G4 Q
    refine wp_if_eq (pc := 30) (tgt := 41) d_X4_tree_30 (by decide) (fun hc => ?_) (fun hc => ?_)
    · have h := h.1 hc
      refine wp_aload_n (pc := 41) d_X4_tree_41 rfl ?_
      obtain ⟨ho5, h⟩ := h
      refine wp_getR (pc := 42) d_X4_tree_42 fl_X4_19 (fun _ _ _ => rfl) ho5 ?_
      refine wp_bipush (pc := 45) (v := 46) d_X4_tree_45 rfl ?_
      obtain ⟨ho16, h⟩ := h
      refine wp_invV (pc := 47) (N := M_X10_is) (As := [vi _]) (rest := []) (r := (cn_10, ct_10, 12)) d_X4_tree_47 ml_X4_52 mk_X10_is mv_X10_is h0 ho16 rfl rfl (Nat.le_of_ble_eq_true rfl) ?_
      refine wpM.mono h (fun rr G7 hr => ?_)
      obtain ⟨r6, rfl, h⟩ := hr
      show wp E d M_X4_tree 50 [some (vr _), some (vr _), some (vi _), some (vi _), some (vi _), none] [vi _] G7 Q
      refine wp_if_ne (pc := 50) (tgt := 73) d_X4_tree_50 (by decide) (fun hc => ?_) (fun hc => ?_)
      · have h := h.1 hc
        refine wp_sub ?_ h
        exact ⟨rfl, ⟨rfl, ⟨rfl, ⟨rfl, ⟨rfl, trivial⟩⟩⟩⟩⟩
      · have h := h.2 hc
        refine wp_aload_n (pc := 53) d_X4_tree_53 rfl ?_
        obtain ⟨ho8, h⟩ := h
        refine wp_getR (pc := 54) d_X4_tree_54 fl_X4_19 (fun _ _ _ => rfl) ho8 ?_
        refine wp_bipush (pc := 57) (v := 60) d_X4_tree_57 rfl ?_
        obtain ⟨ho15, h⟩ := h
        refine wp_invV (pc := 59) (N := M_X10_is) (As := [vi _]) (rest := []) (r := (cn_10, ct_10, 12)) d_X4_tree_59 ml_X4_52 mk_X10_is mv_X10_is h0 ho15 rfl rfl (Nat.le_of_ble_eq_true rfl) ?_
        refine wpM.mono h (fun rr G10 hr => ?_)
        obtain ⟨r9, rfl, h⟩ := hr
        show wp E d M_X4_tree 62 [some (vr _), some (vr _), some (vi _), some (vi _), some (vi _), none] [vi _] G10 Q
        refine wp_if_ne (pc := 62) (tgt := 73) d_X4_tree_62 (by decide) (fun hc => ?_) (fun hc => ?_)
        · have h := h.1 hc
          refine wp_sub ?_ h
          exact ⟨rfl, ⟨rfl, ⟨rfl, ⟨rfl, ⟨rfl, trivial⟩⟩⟩⟩⟩
        · have h := h.2 hc
          refine wp_aload_n (pc := 65) d_X4_tree_65 rfl ?_
          obtain ⟨ho11, h⟩ := h
          refine wp_getR (pc := 66) d_X4_tree_66 fl_X4_19 (fun _ _ _ => rfl) ho11 ?_
          obtain ⟨ho14, h⟩ := h
          refine wp_invV (pc := 69) (N := M_X10_refuse) (As := []) (rest := []) (r := (cn_10, ct_10, 12)) d_X4_tree_69 ml_X4_45 mk_X10_refuse mv_X10_refuse h0 ho14 rfl rfl (Nat.le_of_ble_eq_true rfl) ?_
          refine wpM.mono h (fun rr G13 hr => ?_)
          obtain ⟨r12, rfl, h⟩ := hr
          show wp E d M_X4_tree 72 [some (vr _), some (vr _), some (vi _), some (vi _), some (vi _), none] [vi _] G13 Q
          exact wp_zret (pc := 72) d_X4_tree_72 rfl h.1.1 h.2
    · have h := h.2 hc
      refine wp_aload_n (pc := 33) d_X4_tree_33 rfl ?_
      refine wp_aload_n (pc := 34) d_X4_tree_34 rfl ?_
      refine wp_iload_n (pc := 35) d_X4_tree_35 rfl ?_
      refine wp_iload_n (pc := 36) d_X4_tree_36 rfl ?_
      obtain ⟨ho19, h⟩ := h
      refine wp_invV (pc := 37) (N := M_X4_ruledOut) (As := [vr _, vi _, vi _]) (rest := []) (r := (cn_4, ct_4, 3)) d_X4_tree_37 ml_X4_56 mk_X4_ruledOut mv_X4_ruledOut h0 ho19 rfl rfl (Nat.le_of_ble_eq_true rfl) ?_
      refine wpM.mono h (fun rr G18 hr => ?_)
      obtain ⟨r17, rfl, h⟩ := hr
      show wp E d M_X4_tree 40 [some (vr _), some (vr _), some (vi _), some (vi _), some (vi _), none] [vi _] G18 Q
      exact wp_zret (pc := 40) d_X4_tree_40 rfl h.1.1 h.2
  · have h := h.2 hc
    refine wp_aload_n (pc := 11) d_X4_tree_11 rfl ?_
    refine wp_aload_n (pc := 12) d_X4_tree_12 rfl ?_
    refine wp_iload_n (pc := 13) d_X4_tree_13 rfl ?_
    refine wp_iload_n (pc := 14) d_X4_tree_14 rfl ?_
    refine wp_iload (pc := 15) d_X4_tree_15 rfl ?_
    refine wp_invV (pc := 17) (N := M_X4_branches) (As := [vr _, vi _, vi _, vi _]) (rest := []) (r := (cn_4, ct_4, 3)) d_X4_tree_17 ml_X4_49 mk_X4_branches mv_X4_branches h0 ho1 rfl rfl (Nat.le_of_ble_eq_true rfl) ?_
    refine wpM.mono h (fun rr G21 hr => ?_)
    obtain ⟨r20, rfl, h⟩ := hr
    show wp E d M_X4_tree 20 [some (vr _), some (vr _), some (vi _), some (vi _), some (vi _), none] [vi _] G21 Q
    exact wp_zret (pc := 20) d_X4_tree_20 rfl h.1.1 h.2
theorem v_X4_tree_73 {E : EE} {d : Nat} {Q : Option AV → AH → Prop} {x0 : Nat} {x1 : Nat} {x2 : Int32} {x3 : Int32} {x4 : Int32} {G : AH} (h0 : 0 < d) (h : isO E G x0 4 ∧ (isO E G (gR G x0 0) 10 ∧ (wpI E (d - 1) M_X10_is [vr (gR G x0 0), vi 46] G (fun r2 G3 => (r2 = 0 → isO E G3 x0 4 ∧ (wpI E (d - 1) M_X4_isBounded [vr x0, vr x1, vi x2, vi x3] G3 (fun r4 G5 => wp E d M_X4_tree 101 [some (vr x0), some (vr x1), some (vi x2), some (vi x3), some (vi x4), none] [vi r4] G5 Q))) ∧ (¬ (r2 = 0) → wpI E (d - 1) M_X4_isNoGain [vr x1, vi x2, vi x3] G3 (fun r7 G8 => wp E d M_X4_tree 101 [some (vr x0), some (vr x1), some (vi x2), some (vi x3), some (vi x4), none] [vi r7] G8 Q)))))) : wp E d M_X4_tree 73 [some (vr x0), some (vr x1), some (vi x2), some (vi x3), some (vi x4), none] [] G Q := by
  refine wp_aload_n (pc := 73) d_X4_tree_73 rfl ?_
  obtain ⟨ho1, h⟩ := h
  refine wp_getR (pc := 74) d_X4_tree_74 fl_X4_19 (fun _ _ _ => rfl) ho1 ?_
  refine wp_bipush (pc := 77) (v := 46) d_X4_tree_77 rfl ?_
  obtain ⟨ho9, h⟩ := h
  refine wp_invV (pc := 79) (N := M_X10_is) (As := [vi _]) (rest := []) (r := (cn_10, ct_10, 12)) d_X4_tree_79 ml_X4_52 mk_X10_is mv_X10_is h0 ho9 rfl rfl (Nat.le_of_ble_eq_true rfl) ?_
  refine wpM.mono h (fun rr G3 hr => ?_)
  obtain ⟨r2, rfl, h⟩ := hr
  show wp E d M_X4_tree 82 [some (vr _), some (vr _), some (vi _), some (vi _), some (vi _), none] [vi _] G3 Q
  refine wp_if_eq (pc := 82) (tgt := 94) d_X4_tree_82 (by decide) (fun hc => ?_) (fun hc => ?_)
  · have h := h.1 hc
    refine wp_aload_n (pc := 94) d_X4_tree_94 rfl ?_
    refine wp_aload_n (pc := 95) d_X4_tree_95 rfl ?_
    refine wp_iload_n (pc := 96) d_X4_tree_96 rfl ?_
    refine wp_iload_n (pc := 97) d_X4_tree_97 rfl ?_
    obtain ⟨ho6, h⟩ := h
    refine wp_invV (pc := 98) (N := M_X4_isBounded) (As := [vr _, vi _, vi _]) (rest := []) (r := (cn_4, ct_4, 3)) d_X4_tree_98 ml_X4_63 mk_X4_isBounded mv_X4_isBounded h0 ho6 rfl rfl (Nat.le_of_ble_eq_true rfl) ?_
    refine wpM.mono h (fun rr G5 hr => ?_)
    obtain ⟨r4, rfl, h⟩ := hr
    show wp E d M_X4_tree 101 [some (vr _), some (vr _), some (vi _), some (vi _), some (vi _), none] [vi _] G5 Q
    refine wp_sub ?_ h
    exact ⟨rfl, ⟨rfl, ⟨rfl, ⟨rfl, ⟨rfl, trivial⟩⟩⟩⟩⟩
  · have h := h.2 hc
    refine wp_aload_n (pc := 85) d_X4_tree_85 rfl ?_
    refine wp_iload_n (pc := 86) d_X4_tree_86 rfl ?_
    refine wp_iload_n (pc := 87) d_X4_tree_87 rfl ?_
    refine wp_invS (pc := 88) (N := M_X4_isNoGain) (As := [vr _, vi _, vi _]) (rest := []) d_X4_tree_88 ml_X4_60 mk_X4_isNoGain ms_X4_isNoGain h0 (Nat.le_of_ble_eq_true rfl) ?_
    refine wpM.mono h (fun rr G8 hr => ?_)
    obtain ⟨r7, rfl, h⟩ := hr
    show wp E d M_X4_tree 91 [some (vr _), some (vr _), some (vi _), some (vi _), some (vi _), none] [vi _] G8 Q
    refine wp_goto (pc := 91) (tgt := 101) d_X4_tree_91 (by decide) ?_
    refine wp_sub ?_ h
    exact ⟨rfl, ⟨rfl, ⟨rfl, ⟨rfl, ⟨rfl, trivial⟩⟩⟩⟩⟩
theorem v_X4_tree_101 {E : EE} {d : Nat} {Q : Option AV → AH → Prop} {x0 : Nat} {x1 : Nat} {x2 : Int32} {x3 : Int32} {x4 : Int32} {t0 : Int32} {G : AH} (h0 : 0 < d) (h : (¬ t0 = 0 → isO E G x0 4 ∧ (isO E G (gR G x0 0) 10 ∧ (wpV E (d - 1) M_X10_step [vr (gR G x0 0)] G (fun G2 => Q (some (vi 1)) G2)))) ∧ (t0 = 0 → isO E G x0 4 ∧ (isO E G (gR G x0 0) 10 ∧ (wpI E (d - 1) M_X10_fail [vr (gR G x0 0), vi 8, vi (gI G (gR G x0 0) 8)] G (fun r6 G7 => okI .boolean r6 ∧ Q (some (vi r6)) G7))))) : wp E d M_X4_tree 101 [some (vr x0), some (vr x1), some (vi x2), some (vi x3), some (vi x4), none] [vi t0] G Q := by
  refine wp_istore (pc := 101) (lv' := [some (vr _), some (vr _), some (vi _), some (vi _), some (vi _), some (vi _)]) d_X4_tree_101 (by decide) rfl ?_
  refine wp_iload (pc := 103) d_X4_tree_103 rfl ?_
  refine wp_if_ne (pc := 105) (tgt := 125) d_X4_tree_105 (by decide) (fun hc => ?_) (fun hc => ?_)
  · have h := h.1 hc
    refine wp_aload_n (pc := 125) d_X4_tree_125 rfl ?_
    obtain ⟨ho1, h⟩ := h
    refine wp_getR (pc := 126) d_X4_tree_126 fl_X4_19 (fun _ _ _ => rfl) ho1 ?_
    obtain ⟨ho3, h⟩ := h
    refine wp_invV (pc := 129) (N := M_X10_step) (As := []) (rest := []) (r := (cn_10, ct_10, 12)) d_X4_tree_129 ml_X4_73 mk_X10_step mv_X10_step h0 ho3 rfl rfl (Nat.le_of_ble_eq_true rfl) ?_
    refine wpM.mono h (fun rr G2 hr => ?_)
    obtain ⟨rfl, h⟩ := hr
    show wp E d M_X4_tree 132 [some (vr _), some (vr _), some (vi _), some (vi _), some (vi _), some (vi _)] [] G2 Q
    refine wp_iconst (pc := 132) (v := 1) d_X4_tree_132 rfl ?_
    exact wp_zret (pc := 133) d_X4_tree_133 rfl rfl h
  · have h := h.2 hc
    refine wp_aload_n (pc := 108) d_X4_tree_108 rfl ?_
    obtain ⟨ho4, h⟩ := h
    refine wp_getR (pc := 109) d_X4_tree_109 fl_X4_19 (fun _ _ _ => rfl) ho4 ?_
    refine wp_bipush (pc := 112) (v := 8) d_X4_tree_112 rfl ?_
    refine wp_aload_n (pc := 114) d_X4_tree_114 rfl ?_
    refine wp_getR (pc := 115) d_X4_tree_115 fl_X4_19 (fun _ _ _ => rfl) ho4 ?_
    obtain ⟨ho5, h⟩ := h
    refine wp_getI (pc := 118) d_X4_tree_118 fl_X4_66 (fun _ _ _ => rfl) ho5 ?_
    refine wp_invV (pc := 121) (N := M_X10_fail) (As := [vi _, vi _]) (rest := []) (r := (cn_10, ct_10, 12)) d_X4_tree_121 ml_X4_69 mk_X10_fail mv_X10_fail h0 ho5 rfl rfl (Nat.le_of_ble_eq_true rfl) ?_
    refine wpM.mono h (fun rr G7 hr => ?_)
    obtain ⟨r6, rfl, h⟩ := hr
    show wp E d M_X4_tree 124 [some (vr _), some (vr _), some (vi _), some (vi _), some (vi _), some (vi _)] [vi _] G7 Q
    exact wp_zret (pc := 124) d_X4_tree_124 rfl h.1.1 h.2
theorem d_X4_branches_0 : decode prog_6_method_4_code 0 = .ok (.aload_n 1, 1) := by decide +kernel
theorem d_X4_branches_1 : decode prog_6_method_4_code 1 = .ok (.aload_n 0, 1) := by decide +kernel
theorem d_X4_branches_2 : decode prog_6_method_4_code 2 = .ok (.getfield 19, 3) := by decide +kernel
theorem d_X4_branches_5 : decode prog_6_method_4_code 5 = .ok (.getfield 76, 3) := by decide +kernel
theorem d_X4_branches_8 : decode prog_6_method_4_code 8 = .ok (.invokevirtual 80, 3) := by decide +kernel
theorem d_X4_branches_11 : decode prog_6_method_4_code 11 = .ok (.istore 5, 2) := by decide +kernel
theorem d_X4_branches_13 : decode prog_6_method_4_code 13 = .ok (.iload 5, 2) := by decide +kernel
theorem d_X4_branches_15 : decode prog_6_method_4_code 15 = .ok (.bipush 24, 2) := by decide +kernel
theorem d_X4_branches_17 : decode prog_6_method_4_code 17 = .ok (.irem, 1) := by decide +kernel
theorem d_X4_branches_18 : decode prog_6_method_4_code 18 = .ok (.istore 6, 2) := by decide +kernel
theorem d_X4_branches_20 : decode prog_6_method_4_code 20 = .ok (.iload 5, 2) := by decide +kernel
theorem d_X4_branches_22 : decode prog_6_method_4_code 22 = .ok (.ifCond .lt 12, 3) := by decide +kernel
theorem d_X4_branches_25 : decode prog_6_method_4_code 25 = .ok (.iload 5, 2) := by decide +kernel
theorem d_X4_branches_27 : decode prog_6_method_4_code 27 = .ok (.bipush 24, 2) := by decide +kernel
theorem d_X4_branches_29 : decode prog_6_method_4_code 29 = .ok (.idiv, 1) := by decide +kernel
theorem d_X4_branches_30 : decode prog_6_method_4_code 30 = .ok (.iconst 1, 1) := by decide +kernel
theorem d_X4_branches_31 : decode prog_6_method_4_code 31 = .ok (.if_icmp .eq 19, 3) := by decide +kernel
theorem d_X4_branches_34 : decode prog_6_method_4_code 34 = .ok (.aload_n 0, 1) := by decide +kernel
theorem d_X4_branches_35 : decode prog_6_method_4_code 35 = .ok (.getfield 19, 3) := by decide +kernel
theorem d_X4_branches_38 : decode prog_6_method_4_code 38 = .ok (.iconst 4, 1) := by decide +kernel
theorem d_X4_branches_39 : decode prog_6_method_4_code 39 = .ok (.aload_n 0, 1) := by decide +kernel
theorem d_X4_branches_40 : decode prog_6_method_4_code 40 = .ok (.getfield 19, 3) := by decide +kernel
theorem d_X4_branches_43 : decode prog_6_method_4_code 43 = .ok (.getfield 66, 3) := by decide +kernel
theorem d_X4_branches_46 : decode prog_6_method_4_code 46 = .ok (.invokevirtual 69, 3) := by decide +kernel
theorem d_X4_branches_49 : decode prog_6_method_4_code 49 = .ok (.ireturn, 1) := by decide +kernel
theorem d_X4_branches_50 : decode prog_6_method_4_code 50 = .ok (.iload_n 2, 1) := by decide +kernel
theorem d_X4_branches_51 : decode prog_6_method_4_code 51 = .ok (.iload 6, 2) := by decide +kernel
theorem d_X4_branches_53 : decode prog_6_method_4_code 53 = .ok (.ishr, 1) := by decide +kernel
theorem d_X4_branches_54 : decode prog_6_method_4_code 54 = .ok (.iconst 1, 1) := by decide +kernel
theorem d_X4_branches_55 : decode prog_6_method_4_code 55 = .ok (.iand, 1) := by decide +kernel
theorem d_X4_branches_56 : decode prog_6_method_4_code 56 = .ok (.ifCond .ne 10, 3) := by decide +kernel
theorem d_X4_branches_59 : decode prog_6_method_4_code 59 = .ok (.iload 4, 2) := by decide +kernel
theorem d_X4_branches_61 : decode prog_6_method_4_code 61 = .ok (.bipush 12, 2) := by decide +kernel
theorem d_X4_branches_63 : decode prog_6_method_4_code 63 = .ok (.if_icmp .lt 19, 3) := by decide +kernel
theorem d_X4_branches_66 : decode prog_6_method_4_code 66 = .ok (.aload_n 0, 1) := by decide +kernel
theorem d_X4_branches_67 : decode prog_6_method_4_code 67 = .ok (.getfield 19, 3) := by decide +kernel
theorem d_X4_branches_70 : decode prog_6_method_4_code 70 = .ok (.iconst 4, 1) := by decide +kernel
theorem d_X4_branches_71 : decode prog_6_method_4_code 71 = .ok (.aload_n 0, 1) := by decide +kernel
theorem d_X4_branches_72 : decode prog_6_method_4_code 72 = .ok (.getfield 19, 3) := by decide +kernel
theorem d_X4_branches_75 : decode prog_6_method_4_code 75 = .ok (.getfield 66, 3) := by decide +kernel
theorem d_X4_branches_78 : decode prog_6_method_4_code 78 = .ok (.invokevirtual 69, 3) := by decide +kernel
theorem d_X4_branches_81 : decode prog_6_method_4_code 81 = .ok (.ireturn, 1) := by decide +kernel
theorem d_X4_branches_82 : decode prog_6_method_4_code 82 = .ok (.aload_n 0, 1) := by decide +kernel
theorem d_X4_branches_83 : decode prog_6_method_4_code 83 = .ok (.getfield 19, 3) := by decide +kernel
theorem d_X4_branches_86 : decode prog_6_method_4_code 86 = .ok (.invokevirtual 73, 3) := by decide +kernel
theorem d_X4_branches_89 : decode prog_6_method_4_code 89 = .ok (.iconst 0, 1) := by decide +kernel
theorem d_X4_branches_90 : decode prog_6_method_4_code 90 = .ok (.istore 7, 2) := by decide +kernel
theorem d_X4_branches_92 : decode prog_6_method_4_code 92 = .ok (.iload 7, 2) := by decide +kernel
theorem d_X4_branches_94 : decode prog_6_method_4_code 94 = .ok (.aload_n 1, 1) := by decide +kernel
theorem d_X4_branches_95 : decode prog_6_method_4_code 95 = .ok (.getfield 84, 3) := by decide +kernel
theorem d_X4_branches_98 : decode prog_6_method_4_code 98 = .ok (.getfield 88, 3) := by decide +kernel
theorem d_X4_branches_101 : decode prog_6_method_4_code 101 = .ok (.iload 6, 2) := by decide +kernel
theorem d_X4_branches_103 : decode prog_6_method_4_code 103 = .ok (.iaload, 1) := by decide +kernel
theorem d_X4_branches_104 : decode prog_6_method_4_code 104 = .ok (.if_icmp .ge 65, 3) := by decide +kernel
theorem d_X4_branches_107 : decode prog_6_method_4_code 107 = .ok (.aload_n 0, 1) := by decide +kernel
theorem d_X4_branches_108 : decode prog_6_method_4_code 108 = .ok (.getfield 19, 3) := by decide +kernel
theorem d_X4_branches_111 : decode prog_6_method_4_code 111 = .ok (.iload 7, 2) := by decide +kernel
theorem d_X4_branches_113 : decode prog_6_method_4_code 113 = .ok (.ifCond .ne 8, 3) := by decide +kernel
theorem d_X4_branches_116 : decode prog_6_method_4_code 116 = .ok (.bipush 40, 2) := by decide +kernel
theorem d_X4_branches_118 : decode prog_6_method_4_code 118 = .ok (.goto 5, 3) := by decide +kernel
theorem d_X4_branches_121 : decode prog_6_method_4_code 121 = .ok (.bipush 44, 2) := by decide +kernel
theorem d_X4_branches_123 : decode prog_6_method_4_code 123 = .ok (.invokevirtual 93, 3) := by decide +kernel
theorem d_X4_branches_126 : decode prog_6_method_4_code 126 = .ok (.ifCond .ne 5, 3) := by decide +kernel
theorem d_X4_branches_129 : decode prog_6_method_4_code 129 = .ok (.iconst 0, 1) := by decide +kernel
theorem d_X4_branches_130 : decode prog_6_method_4_code 130 = .ok (.ireturn, 1) := by decide +kernel
theorem d_X4_branches_131 : decode prog_6_method_4_code 131 = .ok (.aload_n 0, 1) := by decide +kernel
theorem d_X4_branches_132 : decode prog_6_method_4_code 132 = .ok (.aload_n 1, 1) := by decide +kernel
theorem d_X4_branches_133 : decode prog_6_method_4_code 133 = .ok (.iload_n 2, 1) := by decide +kernel
theorem d_X4_branches_134 : decode prog_6_method_4_code 134 = .ok (.iconst 1, 1) := by decide +kernel
theorem d_X4_branches_135 : decode prog_6_method_4_code 135 = .ok (.iload 6, 2) := by decide +kernel
theorem d_X4_branches_137 : decode prog_6_method_4_code 137 = .ok (.ishl, 1) := by decide +kernel
theorem d_X4_branches_138 : decode prog_6_method_4_code 138 = .ok (.ior, 1) := by decide +kernel
theorem d_X4_branches_139 : decode prog_6_method_4_code 139 = .ok (.aload_n 1, 1) := by decide +kernel
theorem d_X4_branches_140 : decode prog_6_method_4_code 140 = .ok (.getfield 84, 3) := by decide +kernel
theorem d_X4_branches_143 : decode prog_6_method_4_code 143 = .ok (.iload_n 3, 1) := by decide +kernel
theorem d_X4_branches_144 : decode prog_6_method_4_code 144 = .ok (.iload 6, 2) := by decide +kernel
theorem d_X4_branches_146 : decode prog_6_method_4_code 146 = .ok (.iload 7, 2) := by decide +kernel
theorem d_X4_branches_148 : decode prog_6_method_4_code 148 = .ok (.invokevirtual 96, 3) := by decide +kernel
theorem d_X4_branches_151 : decode prog_6_method_4_code 151 = .ok (.iload 4, 2) := by decide +kernel
theorem d_X4_branches_153 : decode prog_6_method_4_code 153 = .ok (.iconst 1, 1) := by decide +kernel
theorem d_X4_branches_154 : decode prog_6_method_4_code 154 = .ok (.iadd, 1) := by decide +kernel
theorem d_X4_branches_155 : decode prog_6_method_4_code 155 = .ok (.invokevirtual 38, 3) := by decide +kernel
theorem d_X4_branches_158 : decode prog_6_method_4_code 158 = .ok (.ifCond .ne 5, 3) := by decide +kernel
theorem d_X4_branches_161 : decode prog_6_method_4_code 161 = .ok (.iconst 0, 1) := by decide +kernel
theorem d_X4_branches_162 : decode prog_6_method_4_code 162 = .ok (.ireturn, 1) := by decide +kernel
theorem d_X4_branches_163 : decode prog_6_method_4_code 163 = .ok (.iinc 7 1, 3) := by decide +kernel
theorem d_X4_branches_166 : decode prog_6_method_4_code 166 = .ok (.goto (-74), 3) := by decide +kernel
theorem d_X4_branches_169 : decode prog_6_method_4_code 169 = .ok (.aload_n 0, 1) := by decide +kernel
theorem d_X4_branches_170 : decode prog_6_method_4_code 170 = .ok (.getfield 19, 3) := by decide +kernel
theorem d_X4_branches_173 : decode prog_6_method_4_code 173 = .ok (.bipush 41, 2) := by decide +kernel
theorem d_X4_branches_175 : decode prog_6_method_4_code 175 = .ok (.invokevirtual 93, 3) := by decide +kernel
theorem d_X4_branches_178 : decode prog_6_method_4_code 178 = .ok (.ireturn, 1) := by decide +kernel
theorem v_X4_branches_0 {E : EE} {d : Nat} {Q : Option AV → AH → Prop} {x0 : Nat} {x1 : Nat} {x2 : Int32} {x3 : Int32} {x4 : Int32} {G : AH} (h0 : 0 < d) (h : isO E G x0 4 ∧ (isO E G (gR G x0 0) 10 ∧ (isO E G x1 3 ∧ (wpI E (d - 1) M_X3_lookUp [vr x1, vj (gJ G (gR G x0 0) 7)] G (fun r3 G4 => (r3 < 0 → wp E d M_X4_branches 34 [some (vr x0), some (vr x1), some (vi x2), some (vi x3), some (vi x4), some (vi r3), some (vi (r3 - r3 / 24 * 24)), none] [] G4 Q) ∧ (¬ (r3 < 0) → ((r3 / 24) = 1 → (¬ ((x2 >>> ((r3 - r3 / 24 * 24) &&& 31)) &&& 1) = 0 → wp E d M_X4_branches 66 [some (vr x0), some (vr x1), some (vi x2), some (vi x3), some (vi x4), some (vi r3), some (vi (r3 - r3 / 24 * 24)), none] [] G4 Q) ∧ (((x2 >>> ((r3 - r3 / 24 * 24) &&& 31)) &&& 1) = 0 → (x4 < 12 → isO E G4 x0 4 ∧ (isO E G4 (gR G4 x0 0) 10 ∧ (wpV E (d - 1) M_X10_step [vr (gR G4 x0 0)] G4 (fun G6 => wp E d M_X4_branches 92 [some (vr x0), some (vr x1), some (vi x2), some (vi x3), some (vi x4), some (vi r3), some (vi (r3 - r3 / 24 * 24)), some (vi 0)] [] G6 Q)))) ∧ (¬ (x4 < 12) → wp E d M_X4_branches 66 [some (vr x0), some (vr x1), some (vi x2), some (vi x3), some (vi x4), some (vi r3), some (vi (r3 - r3 / 24 * 24)), none] [] G4 Q))) ∧ (¬ ((r3 / 24) = 1) → wp E d M_X4_branches 34 [some (vr x0), some (vr x1), some (vi x2), some (vi x3), some (vi x4), some (vi r3), some (vi (r3 - r3 / 24 * 24)), none] [] G4 Q))))))) : wp E d M_X4_branches 0 [some (vr x0), some (vr x1), some (vi x2), some (vi x3), some (vi x4), none, none, none] [] G Q := by
  refine wp_aload_n (pc := 0) d_X4_branches_0 rfl ?_
  refine wp_aload_n (pc := 1) d_X4_branches_1 rfl ?_
  obtain ⟨ho1, h⟩ := h
  refine wp_getR (pc := 2) d_X4_branches_2 fl_X4_19 (fun _ _ _ => rfl) ho1 ?_
  obtain ⟨ho2, h⟩ := h
  refine wp_getJ (pc := 5) d_X4_branches_5 fl_X4_76 (fun _ _ _ => rfl) ho2 ?_
  obtain ⟨ho8, h⟩ := h
  refine wp_invV (pc := 8) (N := M_X3_lookUp) (As := [vj _]) (rest := []) (r := (cn_3, ct_3, 19)) d_X4_branches_8 ml_X4_80 mk_X3_lookUp mv_X3_lookUp h0 ho8 rfl rfl (Nat.le_of_ble_eq_true rfl) ?_
  refine wpM.mono h (fun rr G4 hr => ?_)
  obtain ⟨r3, rfl, h⟩ := hr
  show wp E d M_X4_branches 11 [some (vr _), some (vr _), some (vi _), some (vi _), some (vi _), none, none, none] [vi _] G4 Q
  refine wp_istore (pc := 11) (lv' := [some (vr _), some (vr _), some (vi _), some (vi _), some (vi _), some (vi _), none, none]) d_X4_branches_11 (by decide) rfl ?_
  refine wp_iload (pc := 13) d_X4_branches_13 rfl ?_
  refine wp_bipush (pc := 15) (v := 24) d_X4_branches_15 rfl ?_
  refine wp_irem (pc := 17) d_X4_branches_17 (by decide) ?_
  refine wp_istore (pc := 18) (lv' := [some (vr _), some (vr _), some (vi _), some (vi _), some (vi _), some (vi _), some (vi _), none]) d_X4_branches_18 (by decide) rfl ?_
  refine wp_iload (pc := 20) d_X4_branches_20 rfl ?_
  refine wp_if_lt (pc := 22) (tgt := 34) d_X4_branches_22 (by decide) (fun hc => ?_) (fun hc => ?_)
  · have h := h.1 hc
    refine wp_sub ?_ h
    exact ⟨rfl, ⟨rfl, ⟨rfl, ⟨rfl, ⟨rfl, ⟨rfl, ⟨rfl, trivial⟩⟩⟩⟩⟩⟩⟩
  · have h := h.2 hc
    refine wp_iload (pc := 25) d_X4_branches_25 rfl ?_
    refine wp_bipush (pc := 27) (v := 24) d_X4_branches_27 rfl ?_
    refine wp_idiv (pc := 29) d_X4_branches_29 (by decide) ?_
    refine wp_iconst (pc := 30) (v := 1) d_X4_branches_30 rfl ?_
    refine wp_icmp_eq (pc := 31) (tgt := 50) d_X4_branches_31 (by decide) (fun hc => ?_) (fun hc => ?_)
    · have h := h.1 hc
      refine wp_iload_n (pc := 50) d_X4_branches_50 rfl ?_
      refine wp_iload (pc := 51) d_X4_branches_51 rfl ?_
      refine wp_ishr (pc := 53) d_X4_branches_53 ?_
      refine wp_iconst (pc := 54) (v := 1) d_X4_branches_54 rfl ?_
      refine wp_iand (pc := 55) d_X4_branches_55 ?_
      refine wp_if_ne (pc := 56) (tgt := 66) d_X4_branches_56 (by decide) (fun hc => ?_) (fun hc => ?_)
      · have h := h.1 hc
        refine wp_sub ?_ h
        exact ⟨rfl, ⟨rfl, ⟨rfl, ⟨rfl, ⟨rfl, ⟨rfl, ⟨rfl, trivial⟩⟩⟩⟩⟩⟩⟩
      · have h := h.2 hc
        refine wp_iload (pc := 59) d_X4_branches_59 rfl ?_
        refine wp_bipush (pc := 61) (v := 12) d_X4_branches_61 rfl ?_
        refine wp_icmp_lt (pc := 63) (tgt := 82) d_X4_branches_63 (by decide) (fun hc => ?_) (fun hc => ?_)
        · have h := h.1 hc
          refine wp_aload_n (pc := 82) d_X4_branches_82 rfl ?_
          obtain ⟨ho5, h⟩ := h
          refine wp_getR (pc := 83) d_X4_branches_83 fl_X4_19 (fun _ _ _ => rfl) ho5 ?_
          obtain ⟨ho7, h⟩ := h
          refine wp_invV (pc := 86) (N := M_X10_step) (As := []) (rest := []) (r := (cn_10, ct_10, 12)) d_X4_branches_86 ml_X4_73 mk_X10_step mv_X10_step h0 ho7 rfl rfl (Nat.le_of_ble_eq_true rfl) ?_
          refine wpM.mono h (fun rr G6 hr => ?_)
          obtain ⟨rfl, h⟩ := hr
          show wp E d M_X4_branches 89 [some (vr _), some (vr _), some (vi _), some (vi _), some (vi _), some (vi _), some (vi _), none] [] G6 Q
          refine wp_iconst (pc := 89) (v := 0) d_X4_branches_89 rfl ?_
          refine wp_istore (pc := 90) (lv' := [some (vr _), some (vr _), some (vi _), some (vi _), some (vi _), some (vi _), some (vi _), some (vi _)]) d_X4_branches_90 (by decide) rfl ?_
          refine wp_sub ?_ h
          exact ⟨rfl, ⟨rfl, ⟨rfl, ⟨rfl, ⟨rfl, ⟨rfl, ⟨rfl, ⟨rfl, trivial⟩⟩⟩⟩⟩⟩⟩⟩
        · have h := h.2 hc
          refine wp_sub ?_ h
          exact ⟨rfl, ⟨rfl, ⟨rfl, ⟨rfl, ⟨rfl, ⟨rfl, ⟨rfl, trivial⟩⟩⟩⟩⟩⟩⟩
    · have h := h.2 hc
      refine wp_sub ?_ h
      exact ⟨rfl, ⟨rfl, ⟨rfl, ⟨rfl, ⟨rfl, ⟨rfl, ⟨rfl, trivial⟩⟩⟩⟩⟩⟩⟩
theorem v_X4_branches_34 {E : EE} {d : Nat} {Q : Option AV → AH → Prop} {x0 : Nat} {x1 : Nat} {x2 : Int32} {x3 : Int32} {x4 : Int32} {x5 : Int32} {x6 : Int32} {G : AH} (h0 : 0 < d) (h : isO E G x0 4 ∧ (isO E G (gR G x0 0) 10 ∧ (wpI E (d - 1) M_X10_fail [vr (gR G x0 0), vi 4, vi (gI G (gR G x0 0) 8)] G (fun r3 G4 => okI .boolean r3 ∧ Q (some (vi r3)) G4)))) : wp E d M_X4_branches 34 [some (vr x0), some (vr x1), some (vi x2), some (vi x3), some (vi x4), some (vi x5), some (vi x6), none] [] G Q := by
  refine wp_aload_n (pc := 34) d_X4_branches_34 rfl ?_
  obtain ⟨ho1, h⟩ := h
  refine wp_getR (pc := 35) d_X4_branches_35 fl_X4_19 (fun _ _ _ => rfl) ho1 ?_
  refine wp_iconst (pc := 38) (v := 4) d_X4_branches_38 rfl ?_
  refine wp_aload_n (pc := 39) d_X4_branches_39 rfl ?_
  refine wp_getR (pc := 40) d_X4_branches_40 fl_X4_19 (fun _ _ _ => rfl) ho1 ?_
  obtain ⟨ho2, h⟩ := h
  refine wp_getI (pc := 43) d_X4_branches_43 fl_X4_66 (fun _ _ _ => rfl) ho2 ?_
  refine wp_invV (pc := 46) (N := M_X10_fail) (As := [vi _, vi _]) (rest := []) (r := (cn_10, ct_10, 12)) d_X4_branches_46 ml_X4_69 mk_X10_fail mv_X10_fail h0 ho2 rfl rfl (Nat.le_of_ble_eq_true rfl) ?_
  refine wpM.mono h (fun rr G4 hr => ?_)
  obtain ⟨r3, rfl, h⟩ := hr
  show wp E d M_X4_branches 49 [some (vr _), some (vr _), some (vi _), some (vi _), some (vi _), some (vi _), some (vi _), none] [vi _] G4 Q
  exact wp_zret (pc := 49) d_X4_branches_49 rfl h.1.1 h.2
theorem v_X4_branches_66 {E : EE} {d : Nat} {Q : Option AV → AH → Prop} {x0 : Nat} {x1 : Nat} {x2 : Int32} {x3 : Int32} {x4 : Int32} {x5 : Int32} {x6 : Int32} {G : AH} (h0 : 0 < d) (h : isO E G x0 4 ∧ (isO E G (gR G x0 0) 10 ∧ (wpI E (d - 1) M_X10_fail [vr (gR G x0 0), vi 4, vi (gI G (gR G x0 0) 8)] G (fun r3 G4 => okI .boolean r3 ∧ Q (some (vi r3)) G4)))) : wp E d M_X4_branches 66 [some (vr x0), some (vr x1), some (vi x2), some (vi x3), some (vi x4), some (vi x5), some (vi x6), none] [] G Q := by
  refine wp_aload_n (pc := 66) d_X4_branches_66 rfl ?_
  obtain ⟨ho1, h⟩ := h
  refine wp_getR (pc := 67) d_X4_branches_67 fl_X4_19 (fun _ _ _ => rfl) ho1 ?_
  refine wp_iconst (pc := 70) (v := 4) d_X4_branches_70 rfl ?_
  refine wp_aload_n (pc := 71) d_X4_branches_71 rfl ?_
  refine wp_getR (pc := 72) d_X4_branches_72 fl_X4_19 (fun _ _ _ => rfl) ho1 ?_
  obtain ⟨ho2, h⟩ := h
  refine wp_getI (pc := 75) d_X4_branches_75 fl_X4_66 (fun _ _ _ => rfl) ho2 ?_
  refine wp_invV (pc := 78) (N := M_X10_fail) (As := [vi _, vi _]) (rest := []) (r := (cn_10, ct_10, 12)) d_X4_branches_78 ml_X4_69 mk_X10_fail mv_X10_fail h0 ho2 rfl rfl (Nat.le_of_ble_eq_true rfl) ?_
  refine wpM.mono h (fun rr G4 hr => ?_)
  obtain ⟨r3, rfl, h⟩ := hr
  show wp E d M_X4_branches 81 [some (vr _), some (vr _), some (vi _), some (vi _), some (vi _), some (vi _), some (vi _), none] [vi _] G4 Q
  exact wp_zret (pc := 81) d_X4_branches_81 rfl h.1.1 h.2
theorem v_X4_branches_92 {E : EE} {d : Nat} {Q : Option AV → AH → Prop} {x0 : Nat} {x1 : Nat} {x2 : Int32} {x3 : Int32} {x4 : Int32} {x5 : Int32} {x6 : Int32} {x7 : Int32} {G : AH} (h0 : 0 < d) (h : isO E G x1 3 ∧ (isO E G (gR G x1 4) 7 ∧ (isO E G (gR G (gR G x1 4) 2) 14 ∧ (vp_in x6 (gN G (gR G (gR G x1 4) 2)) ∧ (((gI G (gR G (gR G x1 4) 2) (Int32.toNatClampNeg x6)) ≤ x7 → isO E G x0 4 ∧ (isO E G (gR G x0 0) 10 ∧ (wpI E (d - 1) M_X10_accept [vr (gR G x0 0), vi 41] G (fun r6 G7 => okI .boolean r6 ∧ Q (some (vi r6)) G7)))) ∧ (¬ ((gI G (gR G (gR G x1 4) 2) (Int32.toNatClampNeg x6)) ≤ x7) → isO E G x0 4 ∧ ((¬ x7 = 0 → wp E d M_X4_branches 123 [some (vr x0), some (vr x1), some (vi x2), some (vi x3), some (vi x4), some (vi x5), some (vi x6), some (vi x7)] [vi 44, vr (gR G x0 0)] G Q) ∧ (x7 = 0 → wp E d M_X4_branches 123 [some (vr x0), some (vr x1), some (vi x2), some (vi x3), some (vi x4), some (vi x5), some (vi x6), some (vi x7)] [vi 40, vr (gR G x0 0)] G Q)))))))) : wp E d M_X4_branches 92 [some (vr x0), some (vr x1), some (vi x2), some (vi x3), some (vi x4), some (vi x5), some (vi x6), some (vi x7)] [] G Q := by
  refine wp_iload (pc := 92) d_X4_branches_92 rfl ?_
  refine wp_aload_n (pc := 94) d_X4_branches_94 rfl ?_
  obtain ⟨ho1, h⟩ := h
  refine wp_getR (pc := 95) d_X4_branches_95 fl_X4_84 (fun _ _ _ => rfl) ho1 ?_
  obtain ⟨ho2, h⟩ := h
  refine wp_getR (pc := 98) d_X4_branches_98 fl_X4_88 (fun _ _ _ => rfl) ho2 ?_
  refine wp_iload (pc := 101) d_X4_branches_101 rfl ?_
  obtain ⟨ho3, h⟩ := h
  obtain ⟨hi4, h⟩ := h
  refine wp_iald (pc := 103) d_X4_branches_103 ho3 hi4 ?_
  refine wp_icmp_ge (pc := 104) (tgt := 169) d_X4_branches_104 (by decide) (fun hc => ?_) (fun hc => ?_)
  · have h := h.1 hc
    refine wp_aload_n (pc := 169) d_X4_branches_169 rfl ?_
    obtain ⟨ho5, h⟩ := h
    refine wp_getR (pc := 170) d_X4_branches_170 fl_X4_19 (fun _ _ _ => rfl) ho5 ?_
    refine wp_bipush (pc := 173) (v := 41) d_X4_branches_173 rfl ?_
    obtain ⟨ho8, h⟩ := h
    refine wp_invV (pc := 175) (N := M_X10_accept) (As := [vi _]) (rest := []) (r := (cn_10, ct_10, 12)) d_X4_branches_175 ml_X4_93 mk_X10_accept mv_X10_accept h0 ho8 rfl rfl (Nat.le_of_ble_eq_true rfl) ?_
    refine wpM.mono h (fun rr G7 hr => ?_)
    obtain ⟨r6, rfl, h⟩ := hr
    show wp E d M_X4_branches 178 [some (vr _), some (vr _), some (vi _), some (vi _), some (vi _), some (vi _), some (vi _), some (vi _)] [vi _] G7 Q
    exact wp_zret (pc := 178) d_X4_branches_178 rfl h.1.1 h.2
  · have h := h.2 hc
    refine wp_aload_n (pc := 107) d_X4_branches_107 rfl ?_
    obtain ⟨ho9, h⟩ := h
    refine wp_getR (pc := 108) d_X4_branches_108 fl_X4_19 (fun _ _ _ => rfl) ho9 ?_
    refine wp_iload (pc := 111) d_X4_branches_111 rfl ?_
    refine wp_if_ne (pc := 113) (tgt := 121) d_X4_branches_113 (by decide) (fun hc => ?_) (fun hc => ?_)
    · have h := h.1 hc
      refine wp_bipush (pc := 121) (v := 44) d_X4_branches_121 rfl ?_
      refine wp_sub ?_ h
      exact ⟨rfl, ⟨rfl, ⟨rfl, ⟨rfl, ⟨rfl, ⟨rfl, ⟨rfl, ⟨rfl, trivial⟩⟩⟩⟩⟩⟩⟩⟩
    · have h := h.2 hc
      refine wp_bipush (pc := 116) (v := 40) d_X4_branches_116 rfl ?_
      refine wp_goto (pc := 118) (tgt := 123) d_X4_branches_118 (by decide) ?_
      refine wp_sub ?_ h
      exact ⟨rfl, ⟨rfl, ⟨rfl, ⟨rfl, ⟨rfl, ⟨rfl, ⟨rfl, ⟨rfl, trivial⟩⟩⟩⟩⟩⟩⟩⟩
theorem v_X4_branches_123 {E : EE} {d : Nat} {Q : Option AV → AH → Prop} {x0 : Nat} {x1 : Nat} {x2 : Int32} {x3 : Int32} {x4 : Int32} {x5 : Int32} {x6 : Int32} {x7 : Int32} {t0 : Nat} {t1 : Int32} {G : AH} (h0 : 0 < d) (h : isO E G t0 10 ∧ (wpI E (d - 1) M_X10_accept [vr t0, vi t1] G (fun r1 G2 => (¬ r1 = 0 → isO E G2 x1 3 ∧ (isO E G2 (gR G2 x1 4) 7 ∧ (wpI E (d - 1) M_X7_moved [vr (gR G2 x1 4), vi x3, vi x6, vi x7] G2 (fun r4 G5 => isO E G5 x0 4 ∧ (wpI E (d - 1) M_X4_tree [vr x0, vr x1, vi (x2 ||| (1 <<< (x6 &&& 31))), vi r4, vi (x4 + 1)] G5 (fun r6 G7 => (¬ r6 = 0 → wp E d M_X4_branches 92 [some (vr x0), some (vr x1), some (vi x2), some (vi x3), some (vi x4), some (vi x5), some (vi x6), some (vi (x7 + 1))] [] G7 Q) ∧ (r6 = 0 → Q (some (vi 0)) G7))))))) ∧ (r1 = 0 → Q (some (vi 0)) G2)))) : wp E d M_X4_branches 123 [some (vr x0), some (vr x1), some (vi x2), some (vi x3), some (vi x4), some (vi x5), some (vi x6), some (vi x7)] [vi t1, vr t0] G Q := by
  obtain ⟨ho10, h⟩ := h
  refine wp_invV (pc := 123) (N := M_X10_accept) (As := [vi _]) (rest := []) (r := (cn_10, ct_10, 12)) d_X4_branches_123 ml_X4_93 mk_X10_accept mv_X10_accept h0 ho10 rfl rfl (Nat.le_of_ble_eq_true rfl) ?_
  refine wpM.mono h (fun rr G2 hr => ?_)
  obtain ⟨r1, rfl, h⟩ := hr
  show wp E d M_X4_branches 126 [some (vr _), some (vr _), some (vi _), some (vi _), some (vi _), some (vi _), some (vi _), some (vi _)] [vi _] G2 Q
  refine wp_if_ne (pc := 126) (tgt := 131) d_X4_branches_126 (by decide) (fun hc => ?_) (fun hc => ?_)
  · have h := h.1 hc
    refine wp_aload_n (pc := 131) d_X4_branches_131 rfl ?_
    refine wp_aload_n (pc := 132) d_X4_branches_132 rfl ?_
    refine wp_iload_n (pc := 133) d_X4_branches_133 rfl ?_
    refine wp_iconst (pc := 134) (v := 1) d_X4_branches_134 rfl ?_
    refine wp_iload (pc := 135) d_X4_branches_135 rfl ?_
    refine wp_ishl (pc := 137) d_X4_branches_137 ?_
    refine wp_ior (pc := 138) d_X4_branches_138 ?_
    refine wp_aload_n (pc := 139) d_X4_branches_139 rfl ?_
    obtain ⟨ho3, h⟩ := h
    refine wp_getR (pc := 140) d_X4_branches_140 fl_X4_84 (fun _ _ _ => rfl) ho3 ?_
    refine wp_iload_n (pc := 143) d_X4_branches_143 rfl ?_
    refine wp_iload (pc := 144) d_X4_branches_144 rfl ?_
    refine wp_iload (pc := 146) d_X4_branches_146 rfl ?_
    obtain ⟨ho9, h⟩ := h
    refine wp_invV (pc := 148) (N := M_X7_moved) (As := [vi _, vi _, vi _]) (rest := [vi _, vr _, vr _]) (r := (cn_7, ct_7, 5)) d_X4_branches_148 ml_X4_96 mk_X7_moved mv_X7_moved h0 ho9 rfl rfl (Nat.le_of_ble_eq_true rfl) ?_
    refine wpM.mono h (fun rr G5 hr => ?_)
    obtain ⟨r4, rfl, h⟩ := hr
    show wp E d M_X4_branches 151 [some (vr _), some (vr _), some (vi _), some (vi _), some (vi _), some (vi _), some (vi _), some (vi _)] [vi _, vi _, vr _, vr _] G5 Q
    refine wp_iload (pc := 151) d_X4_branches_151 rfl ?_
    refine wp_iconst (pc := 153) (v := 1) d_X4_branches_153 rfl ?_
    refine wp_iadd (pc := 154) d_X4_branches_154 ?_
    obtain ⟨ho8, h⟩ := h
    refine wp_invV (pc := 155) (N := M_X4_tree) (As := [vr _, vi _, vi _, vi _]) (rest := []) (r := (cn_4, ct_4, 3)) d_X4_branches_155 ml_X4_38 mk_X4_tree mv_X4_tree h0 ho8 rfl rfl (Nat.le_of_ble_eq_true rfl) ?_
    refine wpM.mono h (fun rr G7 hr => ?_)
    obtain ⟨r6, rfl, h⟩ := hr
    show wp E d M_X4_branches 158 [some (vr _), some (vr _), some (vi _), some (vi _), some (vi _), some (vi _), some (vi _), some (vi _)] [vi _] G7 Q
    refine wp_if_ne (pc := 158) (tgt := 163) d_X4_branches_158 (by decide) (fun hc => ?_) (fun hc => ?_)
    · have h := h.1 hc
      refine wp_iinc (pc := 163) (v := 1) (lv' := [some (vr _), some (vr _), some (vi _), some (vi _), some (vi _), some (vi _), some (vi _), some (vi _)]) d_X4_branches_163 (by decide) rfl rfl rfl ?_
      refine wp_goto (pc := 166) (tgt := 92) d_X4_branches_166 (by decide) ?_
      refine wp_sub ?_ h
      exact ⟨rfl, ⟨rfl, ⟨rfl, ⟨rfl, ⟨rfl, ⟨rfl, ⟨rfl, ⟨rfl, trivial⟩⟩⟩⟩⟩⟩⟩⟩
    · have h := h.2 hc
      refine wp_iconst (pc := 161) (v := 0) d_X4_branches_161 rfl ?_
      exact wp_zret (pc := 162) d_X4_branches_162 rfl rfl h
  · have h := h.2 hc
    refine wp_iconst (pc := 129) (v := 0) d_X4_branches_129 rfl ?_
    exact wp_zret (pc := 130) d_X4_branches_130 rfl rfl h
theorem d_X4_ruledOut_0 : decode prog_6_method_5_code 0 = .ok (.aload_n 0, 1) := by decide +kernel
theorem d_X4_ruledOut_1 : decode prog_6_method_5_code 1 = .ok (.getfield 19, 3) := by decide +kernel
theorem d_X4_ruledOut_4 : decode prog_6_method_5_code 4 = .ok (.getfield 66, 3) := by decide +kernel
theorem d_X4_ruledOut_7 : decode prog_6_method_5_code 7 = .ok (.istore 4, 2) := by decide +kernel
theorem d_X4_ruledOut_9 : decode prog_6_method_5_code 9 = .ok (.aload_n 0, 1) := by decide +kernel
theorem d_X4_ruledOut_10 : decode prog_6_method_5_code 10 = .ok (.getfield 19, 3) := by decide +kernel
theorem d_X4_ruledOut_13 : decode prog_6_method_5_code 13 = .ok (.invokevirtual 73, 3) := by decide +kernel
theorem d_X4_ruledOut_16 : decode prog_6_method_5_code 16 = .ok (.aload_n 0, 1) := by decide +kernel
theorem d_X4_ruledOut_17 : decode prog_6_method_5_code 17 = .ok (.getfield 19, 3) := by decide +kernel
theorem d_X4_ruledOut_20 : decode prog_6_method_5_code 20 = .ok (.getfield 42, 3) := by decide +kernel
theorem d_X4_ruledOut_23 : decode prog_6_method_5_code 23 = .ok (.iconst 2, 1) := by decide +kernel
theorem d_X4_ruledOut_24 : decode prog_6_method_5_code 24 = .ok (.if_icmp .eq 11, 3) := by decide +kernel
theorem d_X4_ruledOut_27 : decode prog_6_method_5_code 27 = .ok (.aload_n 0, 1) := by decide +kernel
theorem d_X4_ruledOut_28 : decode prog_6_method_5_code 28 = .ok (.getfield 19, 3) := by decide +kernel
theorem d_X4_ruledOut_31 : decode prog_6_method_5_code 31 = .ok (.invokevirtual 45, 3) := by decide +kernel
theorem d_X4_ruledOut_34 : decode prog_6_method_5_code 34 = .ok (.ireturn, 1) := by decide +kernel
theorem d_X4_ruledOut_35 : decode prog_6_method_5_code 35 = .ok (.aload_n 1, 1) := by decide +kernel
theorem d_X4_ruledOut_36 : decode prog_6_method_5_code 36 = .ok (.aload_n 0, 1) := by decide +kernel
theorem d_X4_ruledOut_37 : decode prog_6_method_5_code 37 = .ok (.getfield 19, 3) := by decide +kernel
theorem d_X4_ruledOut_40 : decode prog_6_method_5_code 40 = .ok (.getfield 76, 3) := by decide +kernel
theorem d_X4_ruledOut_43 : decode prog_6_method_5_code 43 = .ok (.invokevirtual 80, 3) := by decide +kernel
theorem d_X4_ruledOut_46 : decode prog_6_method_5_code 46 = .ok (.istore 5, 2) := by decide +kernel
theorem d_X4_ruledOut_48 : decode prog_6_method_5_code 48 = .ok (.iload 5, 2) := by decide +kernel
theorem d_X4_ruledOut_50 : decode prog_6_method_5_code 50 = .ok (.bipush 24, 2) := by decide +kernel
theorem d_X4_ruledOut_52 : decode prog_6_method_5_code 52 = .ok (.irem, 1) := by decide +kernel
theorem d_X4_ruledOut_53 : decode prog_6_method_5_code 53 = .ok (.istore 6, 2) := by decide +kernel
theorem d_X4_ruledOut_55 : decode prog_6_method_5_code 55 = .ok (.iload 5, 2) := by decide +kernel
theorem d_X4_ruledOut_57 : decode prog_6_method_5_code 57 = .ok (.ifCond .lt 12, 3) := by decide +kernel
theorem d_X4_ruledOut_60 : decode prog_6_method_5_code 60 = .ok (.iload 5, 2) := by decide +kernel
theorem d_X4_ruledOut_62 : decode prog_6_method_5_code 62 = .ok (.bipush 24, 2) := by decide +kernel
theorem d_X4_ruledOut_64 : decode prog_6_method_5_code 64 = .ok (.idiv, 1) := by decide +kernel
theorem d_X4_ruledOut_65 : decode prog_6_method_5_code 65 = .ok (.iconst 2, 1) := by decide +kernel
theorem d_X4_ruledOut_66 : decode prog_6_method_5_code 66 = .ok (.if_icmp .eq 19, 3) := by decide +kernel
theorem d_X4_ruledOut_69 : decode prog_6_method_5_code 69 = .ok (.aload_n 0, 1) := by decide +kernel
theorem d_X4_ruledOut_70 : decode prog_6_method_5_code 70 = .ok (.getfield 19, 3) := by decide +kernel
theorem d_X4_ruledOut_73 : decode prog_6_method_5_code 73 = .ok (.iconst 4, 1) := by decide +kernel
theorem d_X4_ruledOut_74 : decode prog_6_method_5_code 74 = .ok (.aload_n 0, 1) := by decide +kernel
theorem d_X4_ruledOut_75 : decode prog_6_method_5_code 75 = .ok (.getfield 19, 3) := by decide +kernel
theorem d_X4_ruledOut_78 : decode prog_6_method_5_code 78 = .ok (.getfield 66, 3) := by decide +kernel
theorem d_X4_ruledOut_81 : decode prog_6_method_5_code 81 = .ok (.invokevirtual 69, 3) := by decide +kernel
theorem d_X4_ruledOut_84 : decode prog_6_method_5_code 84 = .ok (.ireturn, 1) := by decide +kernel
theorem d_X4_ruledOut_85 : decode prog_6_method_5_code 85 = .ok (.aload_n 1, 1) := by decide +kernel
theorem d_X4_ruledOut_86 : decode prog_6_method_5_code 86 = .ok (.getfield 100, 3) := by decide +kernel
theorem d_X4_ruledOut_89 : decode prog_6_method_5_code 89 = .ok (.getfield 104, 3) := by decide +kernel
theorem d_X4_ruledOut_92 : decode prog_6_method_5_code 92 = .ok (.iload 6, 2) := by decide +kernel
theorem d_X4_ruledOut_94 : decode prog_6_method_5_code 94 = .ok (.ishr, 1) := by decide +kernel
theorem d_X4_ruledOut_95 : decode prog_6_method_5_code 95 = .ok (.iconst 1, 1) := by decide +kernel
theorem d_X4_ruledOut_96 : decode prog_6_method_5_code 96 = .ok (.iand, 1) := by decide +kernel
theorem d_X4_ruledOut_97 : decode prog_6_method_5_code 97 = .ok (.ifCond .ne 19, 3) := by decide +kernel
theorem d_X4_ruledOut_100 : decode prog_6_method_5_code 100 = .ok (.aload_n 0, 1) := by decide +kernel
theorem d_X4_ruledOut_101 : decode prog_6_method_5_code 101 = .ok (.getfield 19, 3) := by decide +kernel
theorem d_X4_ruledOut_104 : decode prog_6_method_5_code 104 = .ok (.iconst 4, 1) := by decide +kernel
theorem d_X4_ruledOut_105 : decode prog_6_method_5_code 105 = .ok (.aload_n 0, 1) := by decide +kernel
theorem d_X4_ruledOut_106 : decode prog_6_method_5_code 106 = .ok (.getfield 19, 3) := by decide +kernel
theorem d_X4_ruledOut_109 : decode prog_6_method_5_code 109 = .ok (.getfield 66, 3) := by decide +kernel
theorem d_X4_ruledOut_112 : decode prog_6_method_5_code 112 = .ok (.invokevirtual 69, 3) := by decide +kernel
theorem d_X4_ruledOut_115 : decode prog_6_method_5_code 115 = .ok (.ireturn, 1) := by decide +kernel
theorem d_X4_ruledOut_116 : decode prog_6_method_5_code 116 = .ok (.aload_n 1, 1) := by decide +kernel
theorem d_X4_ruledOut_117 : decode prog_6_method_5_code 117 = .ok (.getfield 84, 3) := by decide +kernel
theorem d_X4_ruledOut_120 : decode prog_6_method_5_code 120 = .ok (.iload_n 3, 1) := by decide +kernel
theorem d_X4_ruledOut_121 : decode prog_6_method_5_code 121 = .ok (.iload_n 2, 1) := by decide +kernel
theorem d_X4_ruledOut_122 : decode prog_6_method_5_code 122 = .ok (.invokevirtual 109, 3) := by decide +kernel
theorem d_X4_ruledOut_125 : decode prog_6_method_5_code 125 = .ok (.istore 7, 2) := by decide +kernel
theorem d_X4_ruledOut_127 : decode prog_6_method_5_code 127 = .ok (.iconst 0, 1) := by decide +kernel
theorem d_X4_ruledOut_128 : decode prog_6_method_5_code 128 = .ok (.istore 8, 2) := by decide +kernel
theorem d_X4_ruledOut_130 : decode prog_6_method_5_code 130 = .ok (.iload 8, 2) := by decide +kernel
theorem d_X4_ruledOut_132 : decode prog_6_method_5_code 132 = .ok (.aload_n 1, 1) := by decide +kernel
theorem d_X4_ruledOut_133 : decode prog_6_method_5_code 133 = .ok (.getfield 84, 3) := by decide +kernel
theorem d_X4_ruledOut_136 : decode prog_6_method_5_code 136 = .ok (.getfield 113, 3) := by decide +kernel
theorem d_X4_ruledOut_139 : decode prog_6_method_5_code 139 = .ok (.if_icmp .ge 55, 3) := by decide +kernel
theorem d_X4_ruledOut_142 : decode prog_6_method_5_code 142 = .ok (.iload 7, 2) := by decide +kernel
theorem d_X4_ruledOut_144 : decode prog_6_method_5_code 144 = .ok (.ifCond .lt 50, 3) := by decide +kernel
theorem d_X4_ruledOut_147 : decode prog_6_method_5_code 147 = .ok (.aload_n 1, 1) := by decide +kernel
theorem d_X4_ruledOut_148 : decode prog_6_method_5_code 148 = .ok (.getfield 116, 3) := by decide +kernel
theorem d_X4_ruledOut_151 : decode prog_6_method_5_code 151 = .ok (.iload 7, 2) := by decide +kernel
theorem d_X4_ruledOut_153 : decode prog_6_method_5_code 153 = .ok (.invokevirtual 120, 3) := by decide +kernel
theorem d_X4_ruledOut_156 : decode prog_6_method_5_code 156 = .ok (.iload 6, 2) := by decide +kernel
theorem d_X4_ruledOut_158 : decode prog_6_method_5_code 158 = .ok (.ishr, 1) := by decide +kernel
theorem d_X4_ruledOut_159 : decode prog_6_method_5_code 159 = .ok (.iconst 1, 1) := by decide +kernel
theorem d_X4_ruledOut_160 : decode prog_6_method_5_code 160 = .ok (.iand, 1) := by decide +kernel
theorem d_X4_ruledOut_161 : decode prog_6_method_5_code 161 = .ok (.ifCond .ne 15, 3) := by decide +kernel
theorem d_X4_ruledOut_164 : decode prog_6_method_5_code 164 = .ok (.aload_n 0, 1) := by decide +kernel
theorem d_X4_ruledOut_165 : decode prog_6_method_5_code 165 = .ok (.getfield 19, 3) := by decide +kernel
theorem d_X4_ruledOut_168 : decode prog_6_method_5_code 168 = .ok (.bipush 8, 2) := by decide +kernel
theorem d_X4_ruledOut_170 : decode prog_6_method_5_code 170 = .ok (.iload 4, 2) := by decide +kernel
theorem d_X4_ruledOut_172 : decode prog_6_method_5_code 172 = .ok (.invokevirtual 69, 3) := by decide +kernel
theorem d_X4_ruledOut_175 : decode prog_6_method_5_code 175 = .ok (.ireturn, 1) := by decide +kernel
theorem d_X4_ruledOut_176 : decode prog_6_method_5_code 176 = .ok (.aload_n 1, 1) := by decide +kernel
theorem d_X4_ruledOut_177 : decode prog_6_method_5_code 177 = .ok (.getfield 84, 3) := by decide +kernel
theorem d_X4_ruledOut_180 : decode prog_6_method_5_code 180 = .ok (.iload 7, 2) := by decide +kernel
theorem d_X4_ruledOut_182 : decode prog_6_method_5_code 182 = .ok (.iload_n 2, 1) := by decide +kernel
theorem d_X4_ruledOut_183 : decode prog_6_method_5_code 183 = .ok (.invokevirtual 126, 3) := by decide +kernel
theorem d_X4_ruledOut_186 : decode prog_6_method_5_code 186 = .ok (.istore 7, 2) := by decide +kernel
theorem d_X4_ruledOut_188 : decode prog_6_method_5_code 188 = .ok (.iinc 8 1, 3) := by decide +kernel
theorem d_X4_ruledOut_191 : decode prog_6_method_5_code 191 = .ok (.goto (-61), 3) := by decide +kernel
theorem d_X4_ruledOut_194 : decode prog_6_method_5_code 194 = .ok (.aload_n 0, 1) := by decide +kernel
theorem d_X4_ruledOut_195 : decode prog_6_method_5_code 195 = .ok (.getfield 19, 3) := by decide +kernel
theorem d_X4_ruledOut_198 : decode prog_6_method_5_code 198 = .ok (.invokevirtual 73, 3) := by decide +kernel
theorem d_X4_ruledOut_201 : decode prog_6_method_5_code 201 = .ok (.iconst 1, 1) := by decide +kernel
theorem d_X4_ruledOut_202 : decode prog_6_method_5_code 202 = .ok (.ireturn, 1) := by decide +kernel
theorem v_X4_ruledOut_0 {E : EE} {d : Nat} {Q : Option AV → AH → Prop} {x0 : Nat} {x1 : Nat} {x2 : Int32} {x3 : Int32} {G : AH} (h0 : 0 < d) (h : isO E G x0 4 ∧ (isO E G (gR G x0 0) 10 ∧ (wpV E (d - 1) M_X10_step [vr (gR G x0 0)] G (fun G3 => isO E G3 x0 4 ∧ (isO E G3 (gR G3 x0 0) 10 ∧ (((gI G3 (gR G3 x0 0) 6) = 2 → isO E G3 x1 3 ∧ (wpI E (d - 1) M_X3_lookUp [vr x1, vj (gJ G3 (gR G3 x0 0) 7)] G3 (fun r6 G7 => (r6 < 0 → wp E d M_X4_ruledOut 69 [some (vr x0), some (vr x1), some (vi x2), some (vi x3), some (vi (gI G (gR G x0 0) 8)), some (vi r6), some (vi (r6 - r6 / 24 * 24)), none, none] [] G7 Q) ∧ (¬ (r6 < 0) → ((r6 / 24) = 2 → isO E G7 x1 3 ∧ (isO E G7 (gR G7 x1 5) 2 ∧ ((¬ (((gI G7 (gR G7 x1 5) 0) >>> ((r6 - r6 / 24 * 24) &&& 31)) &&& 1) = 0 → isO E G7 (gR G7 x1 4) 7 ∧ (wpI E (d - 1) M_X7_lowest [vr (gR G7 x1 4), vi x3, vi x2] G7 (fun r10 G11 => wp E d M_X4_ruledOut 130 [some (vr x0), some (vr x1), some (vi x2), some (vi x3), some (vi (gI G (gR G x0 0) 8)), some (vi r6), some (vi (r6 - r6 / 24 * 24)), some (vi r10), some (vi 0)] [] G11 Q))) ∧ ((((gI G7 (gR G7 x1 5) 0) >>> ((r6 - r6 / 24 * 24) &&& 31)) &&& 1) = 0 → isO E G7 x0 4 ∧ (isO E G7 (gR G7 x0 0) 10 ∧ (wpI E (d - 1) M_X10_fail [vr (gR G7 x0 0), vi 4, vi (gI G7 (gR G7 x0 0) 8)] G7 (fun r15 G16 => okI .boolean r15 ∧ Q (some (vi r15)) G16))))))) ∧ (¬ ((r6 / 24) = 2) → wp E d M_X4_ruledOut 69 [some (vr x0), some (vr x1), some (vi x2), some (vi x3), some (vi (gI G (gR G x0 0) 8)), some (vi r6), some (vi (r6 - r6 / 24 * 24)), none, none] [] G7 Q))))) ∧ (¬ ((gI G3 (gR G3 x0 0) 6) = 2) → wpI E (d - 1) M_X10_refuse [vr (gR G3 x0 0)] G3 (fun r18 G19 => okI .boolean r18 ∧ Q (some (vi r18)) G19)))))))) : wp E d M_X4_ruledOut 0 [some (vr x0), some (vr x1), some (vi x2), some (vi x3), none, none, none, none, none] [] G Q := by
  refine wp_aload_n (pc := 0) d_X4_ruledOut_0 rfl ?_
  obtain ⟨ho1, h⟩ := h
  refine wp_getR (pc := 1) d_X4_ruledOut_1 fl_X4_19 (fun _ _ _ => rfl) ho1 ?_
  obtain ⟨ho2, h⟩ := h
  refine wp_getI (pc := 4) d_X4_ruledOut_4 fl_X4_66 (fun _ _ _ => rfl) ho2 ?_
  refine wp_istore (pc := 7) (lv' := [some (vr _), some (vr _), some (vi _), some (vi _), some (vi _), none, none, none, none]) d_X4_ruledOut_7 (by decide) rfl ?_
  refine wp_aload_n (pc := 9) d_X4_ruledOut_9 rfl ?_
  refine wp_getR (pc := 10) d_X4_ruledOut_10 fl_X4_19 (fun _ _ _ => rfl) ho1 ?_
  refine wp_invV (pc := 13) (N := M_X10_step) (As := []) (rest := []) (r := (cn_10, ct_10, 12)) d_X4_ruledOut_13 ml_X4_73 mk_X10_step mv_X10_step h0 ho2 rfl rfl (Nat.le_of_ble_eq_true rfl) ?_
  refine wpM.mono h (fun rr G3 hr => ?_)
  obtain ⟨rfl, h⟩ := hr
  show wp E d M_X4_ruledOut 16 [some (vr _), some (vr _), some (vi _), some (vi _), some (vi _), none, none, none, none] [] G3 Q
  refine wp_aload_n (pc := 16) d_X4_ruledOut_16 rfl ?_
  obtain ⟨ho4, h⟩ := h
  refine wp_getR (pc := 17) d_X4_ruledOut_17 fl_X4_19 (fun _ _ _ => rfl) ho4 ?_
  obtain ⟨ho5, h⟩ := h
  refine wp_getI (pc := 20) d_X4_ruledOut_20 fl_X4_42 (fun _ _ _ => rfl) ho5 ?_
  refine wp_iconst (pc := 23) (v := 2) d_X4_ruledOut_23 rfl ?_
  refine wp_icmp_eq (pc := 24) (tgt := 35) d_X4_ruledOut_24 (by decide) (fun hc => ?_) (fun hc => ?_)
  · have h := h.1 hc
    refine wp_aload_n (pc := 35) d_X4_ruledOut_35 rfl ?_
    refine wp_aload_n (pc := 36) d_X4_ruledOut_36 rfl ?_
    refine wp_getR (pc := 37) d_X4_ruledOut_37 fl_X4_19 (fun _ _ _ => rfl) ho4 ?_
    refine wp_getJ (pc := 40) d_X4_ruledOut_40 fl_X4_76 (fun _ _ _ => rfl) ho5 ?_
    obtain ⟨ho17, h⟩ := h
    refine wp_invV (pc := 43) (N := M_X3_lookUp) (As := [vj _]) (rest := []) (r := (cn_3, ct_3, 19)) d_X4_ruledOut_43 ml_X4_80 mk_X3_lookUp mv_X3_lookUp h0 ho17 rfl rfl (Nat.le_of_ble_eq_true rfl) ?_
    refine wpM.mono h (fun rr G7 hr => ?_)
    obtain ⟨r6, rfl, h⟩ := hr
    show wp E d M_X4_ruledOut 46 [some (vr _), some (vr _), some (vi _), some (vi _), some (vi _), none, none, none, none] [vi _] G7 Q
    refine wp_istore (pc := 46) (lv' := [some (vr _), some (vr _), some (vi _), some (vi _), some (vi _), some (vi _), none, none, none]) d_X4_ruledOut_46 (by decide) rfl ?_
    refine wp_iload (pc := 48) d_X4_ruledOut_48 rfl ?_
    refine wp_bipush (pc := 50) (v := 24) d_X4_ruledOut_50 rfl ?_
    refine wp_irem (pc := 52) d_X4_ruledOut_52 (by decide) ?_
    refine wp_istore (pc := 53) (lv' := [some (vr _), some (vr _), some (vi _), some (vi _), some (vi _), some (vi _), some (vi _), none, none]) d_X4_ruledOut_53 (by decide) rfl ?_
    refine wp_iload (pc := 55) d_X4_ruledOut_55 rfl ?_
    refine wp_if_lt (pc := 57) (tgt := 69) d_X4_ruledOut_57 (by decide) (fun hc => ?_) (fun hc => ?_)
    · have h := h.1 hc
      refine wp_sub ?_ h
      exact ⟨rfl, ⟨rfl, ⟨rfl, ⟨rfl, ⟨rfl, ⟨rfl, ⟨rfl, trivial⟩⟩⟩⟩⟩⟩⟩
    · have h := h.2 hc
      refine wp_iload (pc := 60) d_X4_ruledOut_60 rfl ?_
      refine wp_bipush (pc := 62) (v := 24) d_X4_ruledOut_62 rfl ?_
      refine wp_idiv (pc := 64) d_X4_ruledOut_64 (by decide) ?_
      refine wp_iconst (pc := 65) (v := 2) d_X4_ruledOut_65 rfl ?_
      refine wp_icmp_eq (pc := 66) (tgt := 85) d_X4_ruledOut_66 (by decide) (fun hc => ?_) (fun hc => ?_)
      · have h := h.1 hc
        refine wp_aload_n (pc := 85) d_X4_ruledOut_85 rfl ?_
        obtain ⟨ho8, h⟩ := h
        refine wp_getR (pc := 86) d_X4_ruledOut_86 fl_X4_100 (fun _ _ _ => rfl) ho8 ?_
        obtain ⟨ho9, h⟩ := h
        refine wp_getI (pc := 89) d_X4_ruledOut_89 fl_X4_104 (fun _ _ _ => rfl) ho9 ?_
        refine wp_iload (pc := 92) d_X4_ruledOut_92 rfl ?_
        refine wp_ishr (pc := 94) d_X4_ruledOut_94 ?_
        refine wp_iconst (pc := 95) (v := 1) d_X4_ruledOut_95 rfl ?_
        refine wp_iand (pc := 96) d_X4_ruledOut_96 ?_
        refine wp_if_ne (pc := 97) (tgt := 116) d_X4_ruledOut_97 (by decide) (fun hc => ?_) (fun hc => ?_)
        · have h := h.1 hc
          refine wp_aload_n (pc := 116) d_X4_ruledOut_116 rfl ?_
          refine wp_getR (pc := 117) d_X4_ruledOut_117 fl_X4_84 (fun _ _ _ => rfl) ho8 ?_
          refine wp_iload_n (pc := 120) d_X4_ruledOut_120 rfl ?_
          refine wp_iload_n (pc := 121) d_X4_ruledOut_121 rfl ?_
          obtain ⟨ho12, h⟩ := h
          refine wp_invV (pc := 122) (N := M_X7_lowest) (As := [vi _, vi _]) (rest := []) (r := (cn_7, ct_7, 5)) d_X4_ruledOut_122 ml_X4_109 mk_X7_lowest mv_X7_lowest h0 ho12 rfl rfl (Nat.le_of_ble_eq_true rfl) ?_
          refine wpM.mono h (fun rr G11 hr => ?_)
          obtain ⟨r10, rfl, h⟩ := hr
          show wp E d M_X4_ruledOut 125 [some (vr _), some (vr _), some (vi _), some (vi _), some (vi _), some (vi _), some (vi _), none, none] [vi _] G11 Q
          refine wp_istore (pc := 125) (lv' := [some (vr _), some (vr _), some (vi _), some (vi _), some (vi _), some (vi _), some (vi _), some (vi _), none]) d_X4_ruledOut_125 (by decide) rfl ?_
          refine wp_iconst (pc := 127) (v := 0) d_X4_ruledOut_127 rfl ?_
          refine wp_istore (pc := 128) (lv' := [some (vr _), some (vr _), some (vi _), some (vi _), some (vi _), some (vi _), some (vi _), some (vi _), some (vi _)]) d_X4_ruledOut_128 (by decide) rfl ?_
          refine wp_sub ?_ h
          exact ⟨rfl, ⟨rfl, ⟨rfl, ⟨rfl, ⟨rfl, ⟨rfl, ⟨rfl, ⟨rfl, ⟨rfl, trivial⟩⟩⟩⟩⟩⟩⟩⟩⟩
        · have h := h.2 hc
          refine wp_aload_n (pc := 100) d_X4_ruledOut_100 rfl ?_
          obtain ⟨ho13, h⟩ := h
          refine wp_getR (pc := 101) d_X4_ruledOut_101 fl_X4_19 (fun _ _ _ => rfl) ho13 ?_
          refine wp_iconst (pc := 104) (v := 4) d_X4_ruledOut_104 rfl ?_
          refine wp_aload_n (pc := 105) d_X4_ruledOut_105 rfl ?_
          refine wp_getR (pc := 106) d_X4_ruledOut_106 fl_X4_19 (fun _ _ _ => rfl) ho13 ?_
          obtain ⟨ho14, h⟩ := h
          refine wp_getI (pc := 109) d_X4_ruledOut_109 fl_X4_66 (fun _ _ _ => rfl) ho14 ?_
          refine wp_invV (pc := 112) (N := M_X10_fail) (As := [vi _, vi _]) (rest := []) (r := (cn_10, ct_10, 12)) d_X4_ruledOut_112 ml_X4_69 mk_X10_fail mv_X10_fail h0 ho14 rfl rfl (Nat.le_of_ble_eq_true rfl) ?_
          refine wpM.mono h (fun rr G16 hr => ?_)
          obtain ⟨r15, rfl, h⟩ := hr
          show wp E d M_X4_ruledOut 115 [some (vr _), some (vr _), some (vi _), some (vi _), some (vi _), some (vi _), some (vi _), none, none] [vi _] G16 Q
          exact wp_zret (pc := 115) d_X4_ruledOut_115 rfl h.1.1 h.2
      · have h := h.2 hc
        refine wp_sub ?_ h
        exact ⟨rfl, ⟨rfl, ⟨rfl, ⟨rfl, ⟨rfl, ⟨rfl, ⟨rfl, trivial⟩⟩⟩⟩⟩⟩⟩
  · have h := h.2 hc
    refine wp_aload_n (pc := 27) d_X4_ruledOut_27 rfl ?_
    refine wp_getR (pc := 28) d_X4_ruledOut_28 fl_X4_19 (fun _ _ _ => rfl) ho4 ?_
    refine wp_invV (pc := 31) (N := M_X10_refuse) (As := []) (rest := []) (r := (cn_10, ct_10, 12)) d_X4_ruledOut_31 ml_X4_45 mk_X10_refuse mv_X10_refuse h0 ho5 rfl rfl (Nat.le_of_ble_eq_true rfl) ?_
    refine wpM.mono h (fun rr G19 hr => ?_)
    obtain ⟨r18, rfl, h⟩ := hr
    show wp E d M_X4_ruledOut 34 [some (vr _), some (vr _), some (vi _), some (vi _), some (vi _), none, none, none, none] [vi _] G19 Q
    exact wp_zret (pc := 34) d_X4_ruledOut_34 rfl h.1.1 h.2
theorem v_X4_ruledOut_69 {E : EE} {d : Nat} {Q : Option AV → AH → Prop} {x0 : Nat} {x1 : Nat} {x2 : Int32} {x3 : Int32} {x4 : Int32} {x5 : Int32} {x6 : Int32} {G : AH} (h0 : 0 < d) (h : isO E G x0 4 ∧ (isO E G (gR G x0 0) 10 ∧ (wpI E (d - 1) M_X10_fail [vr (gR G x0 0), vi 4, vi (gI G (gR G x0 0) 8)] G (fun r3 G4 => okI .boolean r3 ∧ Q (some (vi r3)) G4)))) : wp E d M_X4_ruledOut 69 [some (vr x0), some (vr x1), some (vi x2), some (vi x3), some (vi x4), some (vi x5), some (vi x6), none, none] [] G Q := by
  refine wp_aload_n (pc := 69) d_X4_ruledOut_69 rfl ?_
  obtain ⟨ho1, h⟩ := h
  refine wp_getR (pc := 70) d_X4_ruledOut_70 fl_X4_19 (fun _ _ _ => rfl) ho1 ?_
  refine wp_iconst (pc := 73) (v := 4) d_X4_ruledOut_73 rfl ?_
  refine wp_aload_n (pc := 74) d_X4_ruledOut_74 rfl ?_
  refine wp_getR (pc := 75) d_X4_ruledOut_75 fl_X4_19 (fun _ _ _ => rfl) ho1 ?_
  obtain ⟨ho2, h⟩ := h
  refine wp_getI (pc := 78) d_X4_ruledOut_78 fl_X4_66 (fun _ _ _ => rfl) ho2 ?_
  refine wp_invV (pc := 81) (N := M_X10_fail) (As := [vi _, vi _]) (rest := []) (r := (cn_10, ct_10, 12)) d_X4_ruledOut_81 ml_X4_69 mk_X10_fail mv_X10_fail h0 ho2 rfl rfl (Nat.le_of_ble_eq_true rfl) ?_
  refine wpM.mono h (fun rr G4 hr => ?_)
  obtain ⟨r3, rfl, h⟩ := hr
  show wp E d M_X4_ruledOut 84 [some (vr _), some (vr _), some (vi _), some (vi _), some (vi _), some (vi _), some (vi _), none, none] [vi _] G4 Q
  exact wp_zret (pc := 84) d_X4_ruledOut_84 rfl h.1.1 h.2
theorem v_X4_ruledOut_130 {E : EE} {d : Nat} {Q : Option AV → AH → Prop} {x0 : Nat} {x1 : Nat} {x2 : Int32} {x3 : Int32} {x4 : Int32} {x5 : Int32} {x6 : Int32} {x7 : Int32} {x8 : Int32} {G : AH} (h0 : 0 < d) (h : isO E G x1 3 ∧ (isO E G (gR G x1 4) 7 ∧ (((gI G (gR G x1 4) 1) ≤ x8 → wp E d M_X4_ruledOut 194 [some (vr x0), some (vr x1), some (vi x2), some (vi x3), some (vi x4), some (vi x5), some (vi x6), some (vi x7), some (vi x8)] [] G Q) ∧ (¬ ((gI G (gR G x1 4) 1) ≤ x8) → (x7 < 0 → wp E d M_X4_ruledOut 194 [some (vr x0), some (vr x1), some (vi x2), some (vi x3), some (vi x4), some (vi x5), some (vi x6), some (vi x7), some (vi x8)] [] G Q) ∧ (¬ (x7 < 0) → isO E G (gR G x1 6) 9 ∧ (wpI E (d - 1) M_X9_setOf [vr (gR G x1 6), vi x7] G (fun r3 G4 => (¬ ((r3 >>> (x6 &&& 31)) &&& 1) = 0 → isO E G4 x1 3 ∧ (isO E G4 (gR G4 x1 4) 7 ∧ (wpI E (d - 1) M_X7_following [vr (gR G4 x1 4), vi x7, vi x2] G4 (fun r6 G7 => wp E d M_X4_ruledOut 130 [some (vr x0), some (vr x1), some (vi x2), some (vi x3), some (vi x4), some (vi x5), some (vi x6), some (vi r6), some (vi (x8 + 1))] [] G7 Q)))) ∧ (((r3 >>> (x6 &&& 31)) &&& 1) = 0 → isO E G4 x0 4 ∧ (isO E G4 (gR G4 x0 0) 10 ∧ (wpI E (d - 1) M_X10_fail [vr (gR G4 x0 0), vi 8, vi x4] G4 (fun r10 G11 => okI .boolean r10 ∧ Q (some (vi r10)) G11))))))))))) : wp E d M_X4_ruledOut 130 [some (vr x0), some (vr x1), some (vi x2), some (vi x3), some (vi x4), some (vi x5), some (vi x6), some (vi x7), some (vi x8)] [] G Q := by
  refine wp_iload (pc := 130) d_X4_ruledOut_130 rfl ?_
  refine wp_aload_n (pc := 132) d_X4_ruledOut_132 rfl ?_
  obtain ⟨ho1, h⟩ := h
  refine wp_getR (pc := 133) d_X4_ruledOut_133 fl_X4_84 (fun _ _ _ => rfl) ho1 ?_
  obtain ⟨ho2, h⟩ := h
  refine wp_getI (pc := 136) d_X4_ruledOut_136 fl_X4_113 (fun _ _ _ => rfl) ho2 ?_
  refine wp_icmp_ge (pc := 139) (tgt := 194) d_X4_ruledOut_139 (by decide) (fun hc => ?_) (fun hc => ?_)
  · have h := h.1 hc
    refine wp_sub ?_ h
    exact ⟨rfl, ⟨rfl, ⟨rfl, ⟨rfl, ⟨rfl, ⟨rfl, ⟨rfl, ⟨rfl, ⟨rfl, trivial⟩⟩⟩⟩⟩⟩⟩⟩⟩
  · have h := h.2 hc
    refine wp_iload (pc := 142) d_X4_ruledOut_142 rfl ?_
    refine wp_if_lt (pc := 144) (tgt := 194) d_X4_ruledOut_144 (by decide) (fun hc => ?_) (fun hc => ?_)
    · have h := h.1 hc
      refine wp_sub ?_ h
      exact ⟨rfl, ⟨rfl, ⟨rfl, ⟨rfl, ⟨rfl, ⟨rfl, ⟨rfl, ⟨rfl, ⟨rfl, trivial⟩⟩⟩⟩⟩⟩⟩⟩⟩
    · have h := h.2 hc
      refine wp_aload_n (pc := 147) d_X4_ruledOut_147 rfl ?_
      refine wp_getR (pc := 148) d_X4_ruledOut_148 fl_X4_116 (fun _ _ _ => rfl) ho1 ?_
      refine wp_iload (pc := 151) d_X4_ruledOut_151 rfl ?_
      obtain ⟨ho13, h⟩ := h
      refine wp_invV (pc := 153) (N := M_X9_setOf) (As := [vi _]) (rest := []) (r := (cn_9, ct_9, 8)) d_X4_ruledOut_153 ml_X4_120 mk_X9_setOf mv_X9_setOf h0 ho13 rfl rfl (Nat.le_of_ble_eq_true rfl) ?_
      refine wpM.mono h (fun rr G4 hr => ?_)
      obtain ⟨r3, rfl, h⟩ := hr
      show wp E d M_X4_ruledOut 156 [some (vr _), some (vr _), some (vi _), some (vi _), some (vi _), some (vi _), some (vi _), some (vi _), some (vi _)] [vi _] G4 Q
      refine wp_iload (pc := 156) d_X4_ruledOut_156 rfl ?_
      refine wp_ishr (pc := 158) d_X4_ruledOut_158 ?_
      refine wp_iconst (pc := 159) (v := 1) d_X4_ruledOut_159 rfl ?_
      refine wp_iand (pc := 160) d_X4_ruledOut_160 ?_
      refine wp_if_ne (pc := 161) (tgt := 176) d_X4_ruledOut_161 (by decide) (fun hc => ?_) (fun hc => ?_)
      · have h := h.1 hc
        refine wp_aload_n (pc := 176) d_X4_ruledOut_176 rfl ?_
        obtain ⟨ho5, h⟩ := h
        refine wp_getR (pc := 177) d_X4_ruledOut_177 fl_X4_84 (fun _ _ _ => rfl) ho5 ?_
        refine wp_iload (pc := 180) d_X4_ruledOut_180 rfl ?_
        refine wp_iload_n (pc := 182) d_X4_ruledOut_182 rfl ?_
        obtain ⟨ho8, h⟩ := h
        refine wp_invV (pc := 183) (N := M_X7_following) (As := [vi _, vi _]) (rest := []) (r := (cn_7, ct_7, 5)) d_X4_ruledOut_183 ml_X4_126 mk_X7_following mv_X7_following h0 ho8 rfl rfl (Nat.le_of_ble_eq_true rfl) ?_
        refine wpM.mono h (fun rr G7 hr => ?_)
        obtain ⟨r6, rfl, h⟩ := hr
        show wp E d M_X4_ruledOut 186 [some (vr _), some (vr _), some (vi _), some (vi _), some (vi _), some (vi _), some (vi _), some (vi _), some (vi _)] [vi _] G7 Q
        refine wp_istore (pc := 186) (lv' := [some (vr _), some (vr _), some (vi _), some (vi _), some (vi _), some (vi _), some (vi _), some (vi _), some (vi _)]) d_X4_ruledOut_186 (by decide) rfl ?_
        refine wp_iinc (pc := 188) (v := 1) (lv' := [some (vr _), some (vr _), some (vi _), some (vi _), some (vi _), some (vi _), some (vi _), some (vi _), some (vi _)]) d_X4_ruledOut_188 (by decide) rfl rfl rfl ?_
        refine wp_goto (pc := 191) (tgt := 130) d_X4_ruledOut_191 (by decide) ?_
        refine wp_sub ?_ h
        exact ⟨rfl, ⟨rfl, ⟨rfl, ⟨rfl, ⟨rfl, ⟨rfl, ⟨rfl, ⟨rfl, ⟨rfl, trivial⟩⟩⟩⟩⟩⟩⟩⟩⟩
      · have h := h.2 hc
        refine wp_aload_n (pc := 164) d_X4_ruledOut_164 rfl ?_
        obtain ⟨ho9, h⟩ := h
        refine wp_getR (pc := 165) d_X4_ruledOut_165 fl_X4_19 (fun _ _ _ => rfl) ho9 ?_
        refine wp_bipush (pc := 168) (v := 8) d_X4_ruledOut_168 rfl ?_
        refine wp_iload (pc := 170) d_X4_ruledOut_170 rfl ?_
        obtain ⟨ho12, h⟩ := h
        refine wp_invV (pc := 172) (N := M_X10_fail) (As := [vi _, vi _]) (rest := []) (r := (cn_10, ct_10, 12)) d_X4_ruledOut_172 ml_X4_69 mk_X10_fail mv_X10_fail h0 ho12 rfl rfl (Nat.le_of_ble_eq_true rfl) ?_
        refine wpM.mono h (fun rr G11 hr => ?_)
        obtain ⟨r10, rfl, h⟩ := hr
        show wp E d M_X4_ruledOut 175 [some (vr _), some (vr _), some (vi _), some (vi _), some (vi _), some (vi _), some (vi _), some (vi _), some (vi _)] [vi _] G11 Q
        exact wp_zret (pc := 175) d_X4_ruledOut_175 rfl h.1.1 h.2
theorem v_X4_ruledOut_194 {E : EE} {d : Nat} {Q : Option AV → AH → Prop} {x0 : Nat} {x1 : Nat} {x2 : Int32} {x3 : Int32} {x4 : Int32} {x5 : Int32} {x6 : Int32} {x7 : Int32} {x8 : Int32} {G : AH} (h0 : 0 < d) (h : isO E G x0 4 ∧ (isO E G (gR G x0 0) 10 ∧ (wpV E (d - 1) M_X10_step [vr (gR G x0 0)] G (fun G2 => Q (some (vi 1)) G2)))) : wp E d M_X4_ruledOut 194 [some (vr x0), some (vr x1), some (vi x2), some (vi x3), some (vi x4), some (vi x5), some (vi x6), some (vi x7), some (vi x8)] [] G Q := by
  refine wp_aload_n (pc := 194) d_X4_ruledOut_194 rfl ?_
  obtain ⟨ho1, h⟩ := h
  refine wp_getR (pc := 195) d_X4_ruledOut_195 fl_X4_19 (fun _ _ _ => rfl) ho1 ?_
  obtain ⟨ho3, h⟩ := h
  refine wp_invV (pc := 198) (N := M_X10_step) (As := []) (rest := []) (r := (cn_10, ct_10, 12)) d_X4_ruledOut_198 ml_X4_73 mk_X10_step mv_X10_step h0 ho3 rfl rfl (Nat.le_of_ble_eq_true rfl) ?_
  refine wpM.mono h (fun rr G2 hr => ?_)
  obtain ⟨rfl, h⟩ := hr
  show wp E d M_X4_ruledOut 201 [some (vr _), some (vr _), some (vi _), some (vi _), some (vi _), some (vi _), some (vi _), some (vi _), some (vi _)] [] G2 Q
  refine wp_iconst (pc := 201) (v := 1) d_X4_ruledOut_201 rfl ?_
  exact wp_zret (pc := 202) d_X4_ruledOut_202 rfl rfl h
theorem d_X4_isNoGain_0 : decode prog_6_method_6_code 0 = .ok (.iload_n 1, 1) := by decide +kernel
theorem d_X4_isNoGain_1 : decode prog_6_method_6_code 1 = .ok (.iconst 1, 1) := by decide +kernel
theorem d_X4_isNoGain_2 : decode prog_6_method_6_code 2 = .ok (.aload_n 0, 1) := by decide +kernel
theorem d_X4_isNoGain_3 : decode prog_6_method_6_code 3 = .ok (.getfield 84, 3) := by decide +kernel
theorem d_X4_isNoGain_6 : decode prog_6_method_6_code 6 = .ok (.getfield 129, 3) := by decide +kernel
theorem d_X4_isNoGain_9 : decode prog_6_method_6_code 9 = .ok (.ishl, 1) := by decide +kernel
theorem d_X4_isNoGain_10 : decode prog_6_method_6_code 10 = .ok (.iconst 1, 1) := by decide +kernel
theorem d_X4_isNoGain_11 : decode prog_6_method_6_code 11 = .ok (.isub, 1) := by decide +kernel
theorem d_X4_isNoGain_12 : decode prog_6_method_6_code 12 = .ok (.if_icmp .eq 5, 3) := by decide +kernel
theorem d_X4_isNoGain_15 : decode prog_6_method_6_code 15 = .ok (.iconst 0, 1) := by decide +kernel
theorem d_X4_isNoGain_16 : decode prog_6_method_6_code 16 = .ok (.ireturn, 1) := by decide +kernel
theorem d_X4_isNoGain_17 : decode prog_6_method_6_code 17 = .ok (.aload_n 0, 1) := by decide +kernel
theorem d_X4_isNoGain_18 : decode prog_6_method_6_code 18 = .ok (.getfield 116, 3) := by decide +kernel
theorem d_X4_isNoGain_21 : decode prog_6_method_6_code 21 = .ok (.iload_n 2, 1) := by decide +kernel
theorem d_X4_isNoGain_22 : decode prog_6_method_6_code 22 = .ok (.invokevirtual 120, 3) := by decide +kernel
theorem d_X4_isNoGain_25 : decode prog_6_method_6_code 25 = .ok (.aload_n 0, 1) := by decide +kernel
theorem d_X4_isNoGain_26 : decode prog_6_method_6_code 26 = .ok (.getfield 100, 3) := by decide +kernel
theorem d_X4_isNoGain_29 : decode prog_6_method_6_code 29 = .ok (.getfield 104, 3) := by decide +kernel
theorem d_X4_isNoGain_32 : decode prog_6_method_6_code 32 = .ok (.iand, 1) := by decide +kernel
theorem d_X4_isNoGain_33 : decode prog_6_method_6_code 33 = .ok (.ifCond .ne 18, 3) := by decide +kernel
theorem d_X4_isNoGain_36 : decode prog_6_method_6_code 36 = .ok (.aload_n 0, 1) := by decide +kernel
theorem d_X4_isNoGain_37 : decode prog_6_method_6_code 37 = .ok (.getfield 116, 3) := by decide +kernel
theorem d_X4_isNoGain_40 : decode prog_6_method_6_code 40 = .ok (.iload_n 2, 1) := by decide +kernel
theorem d_X4_isNoGain_41 : decode prog_6_method_6_code 41 = .ok (.aload_n 0, 1) := by decide +kernel
theorem d_X4_isNoGain_42 : decode prog_6_method_6_code 42 = .ok (.getfield 35, 3) := by decide +kernel
theorem d_X4_isNoGain_45 : decode prog_6_method_6_code 45 = .ok (.invokevirtual 132, 3) := by decide +kernel
theorem d_X4_isNoGain_48 : decode prog_6_method_6_code 48 = .ok (.ifCond .ne 7, 3) := by decide +kernel
theorem d_X4_isNoGain_51 : decode prog_6_method_6_code 51 = .ok (.iconst 1, 1) := by decide +kernel
theorem d_X4_isNoGain_52 : decode prog_6_method_6_code 52 = .ok (.goto 4, 3) := by decide +kernel
theorem d_X4_isNoGain_55 : decode prog_6_method_6_code 55 = .ok (.iconst 0, 1) := by decide +kernel
theorem d_X4_isNoGain_56 : decode prog_6_method_6_code 56 = .ok (.ireturn, 1) := by decide +kernel
theorem v_X4_isNoGain_0 {E : EE} {d : Nat} {Q : Option AV → AH → Prop} {x0 : Nat} {x1 : Int32} {x2 : Int32} {G : AH} (h0 : 0 < d) (h : isO E G x0 3 ∧ (isO E G (gR G x0 4) 7 ∧ ((x1 = ((1 <<< ((gI G (gR G x0 4) 0) &&& 31)) - 1) → isO E G (gR G x0 6) 9 ∧ (wpI E (d - 1) M_X9_setOf [vr (gR G x0 6), vi x2] G (fun r3 G4 => isO E G4 x0 3 ∧ (isO E G4 (gR G4 x0 5) 2 ∧ ((¬ (r3 &&& (gI G4 (gR G4 x0 5) 0)) = 0 → wp E d M_X4_isNoGain 51 [some (vr x0), some (vi x1), some (vi x2)] [] G4 Q) ∧ ((r3 &&& (gI G4 (gR G4 x0 5) 0)) = 0 → isO E G4 (gR G4 x0 6) 9 ∧ (wpI E (d - 1) M_X9_isBetter [vr (gR G4 x0 6), vi x2, vi (gI G4 x0 8)] G4 (fun r7 G8 => (¬ r7 = 0 → Q (some (vi 0)) G8) ∧ (r7 = 0 → wp E d M_X4_isNoGain 51 [some (vr x0), some (vi x1), some (vi x2)] [] G8 Q))))))))) ∧ (¬ (x1 = ((1 <<< ((gI G (gR G x0 4) 0) &&& 31)) - 1)) → Q (some (vi 0)) G)))) : wp E d M_X4_isNoGain 0 [some (vr x0), some (vi x1), some (vi x2)] [] G Q := by
  refine wp_iload_n (pc := 0) d_X4_isNoGain_0 rfl ?_
  refine wp_iconst (pc := 1) (v := 1) d_X4_isNoGain_1 rfl ?_
  refine wp_aload_n (pc := 2) d_X4_isNoGain_2 rfl ?_
  obtain ⟨ho1, h⟩ := h
  refine wp_getR (pc := 3) d_X4_isNoGain_3 fl_X4_84 (fun _ _ _ => rfl) ho1 ?_
  obtain ⟨ho2, h⟩ := h
  refine wp_getI (pc := 6) d_X4_isNoGain_6 fl_X4_129 (fun _ _ _ => rfl) ho2 ?_
  refine wp_ishl (pc := 9) d_X4_isNoGain_9 ?_
  refine wp_iconst (pc := 10) (v := 1) d_X4_isNoGain_10 rfl ?_
  refine wp_isub (pc := 11) d_X4_isNoGain_11 ?_
  refine wp_icmp_eq (pc := 12) (tgt := 17) d_X4_isNoGain_12 (by decide) (fun hc => ?_) (fun hc => ?_)
  · have h := h.1 hc
    refine wp_aload_n (pc := 17) d_X4_isNoGain_17 rfl ?_
    refine wp_getR (pc := 18) d_X4_isNoGain_18 fl_X4_116 (fun _ _ _ => rfl) ho1 ?_
    refine wp_iload_n (pc := 21) d_X4_isNoGain_21 rfl ?_
    obtain ⟨ho10, h⟩ := h
    refine wp_invV (pc := 22) (N := M_X9_setOf) (As := [vi _]) (rest := []) (r := (cn_9, ct_9, 8)) d_X4_isNoGain_22 ml_X4_120 mk_X9_setOf mv_X9_setOf h0 ho10 rfl rfl (Nat.le_of_ble_eq_true rfl) ?_
    refine wpM.mono h (fun rr G4 hr => ?_)
    obtain ⟨r3, rfl, h⟩ := hr
    show wp E d M_X4_isNoGain 25 [some (vr _), some (vi _), some (vi _)] [vi _] G4 Q
    refine wp_aload_n (pc := 25) d_X4_isNoGain_25 rfl ?_
    obtain ⟨ho5, h⟩ := h
    refine wp_getR (pc := 26) d_X4_isNoGain_26 fl_X4_100 (fun _ _ _ => rfl) ho5 ?_
    obtain ⟨ho6, h⟩ := h
    refine wp_getI (pc := 29) d_X4_isNoGain_29 fl_X4_104 (fun _ _ _ => rfl) ho6 ?_
    refine wp_iand (pc := 32) d_X4_isNoGain_32 ?_
    refine wp_if_ne (pc := 33) (tgt := 51) d_X4_isNoGain_33 (by decide) (fun hc => ?_) (fun hc => ?_)
    · have h := h.1 hc
      refine wp_sub ?_ h
      exact ⟨rfl, ⟨rfl, ⟨rfl, trivial⟩⟩⟩
    · have h := h.2 hc
      refine wp_aload_n (pc := 36) d_X4_isNoGain_36 rfl ?_
      refine wp_getR (pc := 37) d_X4_isNoGain_37 fl_X4_116 (fun _ _ _ => rfl) ho5 ?_
      refine wp_iload_n (pc := 40) d_X4_isNoGain_40 rfl ?_
      refine wp_aload_n (pc := 41) d_X4_isNoGain_41 rfl ?_
      refine wp_getI (pc := 42) d_X4_isNoGain_42 fl_X4_35 (fun _ _ _ => rfl) ho5 ?_
      obtain ⟨ho9, h⟩ := h
      refine wp_invV (pc := 45) (N := M_X9_isBetter) (As := [vi _, vi _]) (rest := []) (r := (cn_9, ct_9, 8)) d_X4_isNoGain_45 ml_X4_132 mk_X9_isBetter mv_X9_isBetter h0 ho9 rfl rfl (Nat.le_of_ble_eq_true rfl) ?_
      refine wpM.mono h (fun rr G8 hr => ?_)
      obtain ⟨r7, rfl, h⟩ := hr
      show wp E d M_X4_isNoGain 48 [some (vr _), some (vi _), some (vi _)] [vi _] G8 Q
      refine wp_if_ne (pc := 48) (tgt := 55) d_X4_isNoGain_48 (by decide) (fun hc => ?_) (fun hc => ?_)
      · have h := h.1 hc
        refine wp_iconst (pc := 55) (v := 0) d_X4_isNoGain_55 rfl ?_
        exact wp_zret (pc := 56) d_X4_isNoGain_56 rfl rfl h
      · have h := h.2 hc
        refine wp_sub ?_ h
        exact ⟨rfl, ⟨rfl, ⟨rfl, trivial⟩⟩⟩
  · have h := h.2 hc
    refine wp_iconst (pc := 15) (v := 0) d_X4_isNoGain_15 rfl ?_
    exact wp_zret (pc := 16) d_X4_isNoGain_16 rfl rfl h
theorem v_X4_isNoGain_51 {E : EE} {d : Nat} {Q : Option AV → AH → Prop} {x0 : Nat} {x1 : Int32} {x2 : Int32} {G : AH} (h : Q (some (vi 1)) G) : wp E d M_X4_isNoGain 51 [some (vr x0), some (vi x1), some (vi x2)] [] G Q := by
  refine wp_iconst (pc := 51) (v := 1) d_X4_isNoGain_51 rfl ?_
  refine wp_goto (pc := 52) (tgt := 56) d_X4_isNoGain_52 (by decide) ?_
  exact wp_zret (pc := 56) d_X4_isNoGain_56 rfl rfl h
theorem d_X4_isBounded_0 : decode prog_6_method_7_code 0 = .ok (.aload_n 0, 1) := by decide +kernel
theorem d_X4_isBounded_1 : decode prog_6_method_7_code 1 = .ok (.getfield 9, 3) := by decide +kernel
theorem d_X4_isBounded_4 : decode prog_6_method_7_code 4 = .ok (.ldc 137, 2) := by decide +kernel
theorem d_X4_isBounded_6 : decode prog_6_method_7_code 6 = .ok (.invokestatic 138, 3) := by decide +kernel
theorem d_X4_isBounded_9 : decode prog_6_method_7_code 9 = .ok (.aload_n 1, 1) := by decide +kernel
theorem d_X4_isBounded_10 : decode prog_6_method_7_code 10 = .ok (.getfield 84, 3) := by decide +kernel
theorem d_X4_isBounded_13 : decode prog_6_method_7_code 13 = .ok (.iload_n 3, 1) := by decide +kernel
theorem d_X4_isBounded_14 : decode prog_6_method_7_code 14 = .ok (.iload_n 2, 1) := by decide +kernel
theorem d_X4_isBounded_15 : decode prog_6_method_7_code 15 = .ok (.invokevirtual 109, 3) := by decide +kernel
theorem d_X4_isBounded_18 : decode prog_6_method_7_code 18 = .ok (.istore 4, 2) := by decide +kernel
theorem d_X4_isBounded_20 : decode prog_6_method_7_code 20 = .ok (.iconst 0, 1) := by decide +kernel
theorem d_X4_isBounded_21 : decode prog_6_method_7_code 21 = .ok (.istore 5, 2) := by decide +kernel
theorem d_X4_isBounded_23 : decode prog_6_method_7_code 23 = .ok (.iload 5, 2) := by decide +kernel
theorem d_X4_isBounded_25 : decode prog_6_method_7_code 25 = .ok (.aload_n 1, 1) := by decide +kernel
theorem d_X4_isBounded_26 : decode prog_6_method_7_code 26 = .ok (.getfield 84, 3) := by decide +kernel
theorem d_X4_isBounded_29 : decode prog_6_method_7_code 29 = .ok (.getfield 113, 3) := by decide +kernel
theorem d_X4_isBounded_32 : decode prog_6_method_7_code 32 = .ok (.if_icmp .ge 100, 3) := by decide +kernel
theorem d_X4_isBounded_35 : decode prog_6_method_7_code 35 = .ok (.iload 4, 2) := by decide +kernel
theorem d_X4_isBounded_37 : decode prog_6_method_7_code 37 = .ok (.ifCond .lt 95, 3) := by decide +kernel
theorem d_X4_isBounded_40 : decode prog_6_method_7_code 40 = .ok (.aload_n 1, 1) := by decide +kernel
theorem d_X4_isBounded_41 : decode prog_6_method_7_code 41 = .ok (.getfield 100, 3) := by decide +kernel
theorem d_X4_isBounded_44 : decode prog_6_method_7_code 44 = .ok (.aload_n 1, 1) := by decide +kernel
theorem d_X4_isBounded_45 : decode prog_6_method_7_code 45 = .ok (.getfield 84, 3) := by decide +kernel
theorem d_X4_isBounded_48 : decode prog_6_method_7_code 48 = .ok (.iload 4, 2) := by decide +kernel
theorem d_X4_isBounded_50 : decode prog_6_method_7_code 50 = .ok (.invokevirtual 144, 3) := by decide +kernel
theorem d_X4_isBounded_53 : decode prog_6_method_7_code 53 = .ok (.iconst 0, 1) := by decide +kernel
theorem d_X4_isBounded_54 : decode prog_6_method_7_code 54 = .ok (.istore 6, 2) := by decide +kernel
theorem d_X4_isBounded_56 : decode prog_6_method_7_code 56 = .ok (.iload 6, 2) := by decide +kernel
theorem d_X4_isBounded_58 : decode prog_6_method_7_code 58 = .ok (.aload_n 0, 1) := by decide +kernel
theorem d_X4_isBounded_59 : decode prog_6_method_7_code 59 = .ok (.getfield 9, 3) := by decide +kernel
theorem d_X4_isBounded_62 : decode prog_6_method_7_code 62 = .ok (.arraylength, 1) := by decide +kernel
theorem d_X4_isBounded_63 : decode prog_6_method_7_code 63 = .ok (.if_icmp .ge 51, 3) := by decide +kernel
theorem d_X4_isBounded_66 : decode prog_6_method_7_code 66 = .ok (.aload_n 1, 1) := by decide +kernel
theorem d_X4_isBounded_67 : decode prog_6_method_7_code 67 = .ok (.getfield 100, 3) := by decide +kernel
theorem d_X4_isBounded_70 : decode prog_6_method_7_code 70 = .ok (.iload 6, 2) := by decide +kernel
theorem d_X4_isBounded_72 : decode prog_6_method_7_code 72 = .ok (.invokevirtual 148, 3) := by decide +kernel
theorem d_X4_isBounded_75 : decode prog_6_method_7_code 75 = .ok (.ifCond .eq 33, 3) := by decide +kernel
theorem d_X4_isBounded_78 : decode prog_6_method_7_code 78 = .ok (.aload_n 0, 1) := by decide +kernel
theorem d_X4_isBounded_79 : decode prog_6_method_7_code 79 = .ok (.getfield 9, 3) := by decide +kernel
theorem d_X4_isBounded_82 : decode prog_6_method_7_code 82 = .ok (.iload 6, 2) := by decide +kernel
theorem d_X4_isBounded_84 : decode prog_6_method_7_code 84 = .ok (.aload_n 0, 1) := by decide +kernel
theorem d_X4_isBounded_85 : decode prog_6_method_7_code 85 = .ok (.getfield 9, 3) := by decide +kernel
theorem d_X4_isBounded_88 : decode prog_6_method_7_code 88 = .ok (.iload 6, 2) := by decide +kernel
theorem d_X4_isBounded_90 : decode prog_6_method_7_code 90 = .ok (.iaload, 1) := by decide +kernel
theorem d_X4_isBounded_91 : decode prog_6_method_7_code 91 = .ok (.aload_n 1, 1) := by decide +kernel
theorem d_X4_isBounded_92 : decode prog_6_method_7_code 92 = .ok (.getfield 100, 3) := by decide +kernel
theorem d_X4_isBounded_95 : decode prog_6_method_7_code 95 = .ok (.iload 6, 2) := by decide +kernel
theorem d_X4_isBounded_97 : decode prog_6_method_7_code 97 = .ok (.aload_n 1, 1) := by decide +kernel
theorem d_X4_isBounded_98 : decode prog_6_method_7_code 98 = .ok (.getfield 151, 3) := by decide +kernel
theorem d_X4_isBounded_101 : decode prog_6_method_7_code 101 = .ok (.invokevirtual 154, 3) := by decide +kernel
theorem d_X4_isBounded_104 : decode prog_6_method_7_code 104 = .ok (.invokestatic 158, 3) := by decide +kernel
theorem d_X4_isBounded_107 : decode prog_6_method_7_code 107 = .ok (.iastore, 1) := by decide +kernel
theorem d_X4_isBounded_108 : decode prog_6_method_7_code 108 = .ok (.iinc 6 1, 3) := by decide +kernel
theorem d_X4_isBounded_111 : decode prog_6_method_7_code 111 = .ok (.goto (-55), 3) := by decide +kernel
theorem d_X4_isBounded_114 : decode prog_6_method_7_code 114 = .ok (.aload_n 1, 1) := by decide +kernel
theorem d_X4_isBounded_115 : decode prog_6_method_7_code 115 = .ok (.getfield 84, 3) := by decide +kernel
theorem d_X4_isBounded_118 : decode prog_6_method_7_code 118 = .ok (.iload 4, 2) := by decide +kernel
theorem d_X4_isBounded_120 : decode prog_6_method_7_code 120 = .ok (.iload_n 2, 1) := by decide +kernel
theorem d_X4_isBounded_121 : decode prog_6_method_7_code 121 = .ok (.invokevirtual 126, 3) := by decide +kernel
theorem d_X4_isBounded_124 : decode prog_6_method_7_code 124 = .ok (.istore 4, 2) := by decide +kernel
theorem d_X4_isBounded_126 : decode prog_6_method_7_code 126 = .ok (.iinc 5 1, 3) := by decide +kernel
theorem d_X4_isBounded_129 : decode prog_6_method_7_code 129 = .ok (.goto (-106), 3) := by decide +kernel
theorem d_X4_isBounded_132 : decode prog_6_method_7_code 132 = .ok (.aload_n 0, 1) := by decide +kernel
theorem d_X4_isBounded_133 : decode prog_6_method_7_code 133 = .ok (.getfield 15, 3) := by decide +kernel
theorem d_X4_isBounded_136 : decode prog_6_method_7_code 136 = .ok (.lconst 0, 1) := by decide +kernel
theorem d_X4_isBounded_137 : decode prog_6_method_7_code 137 = .ok (.invokestatic 163, 3) := by decide +kernel
theorem d_X4_isBounded_140 : decode prog_6_method_7_code 140 = .ok (.iconst 0, 1) := by decide +kernel
theorem d_X4_isBounded_141 : decode prog_6_method_7_code 141 = .ok (.istore 5, 2) := by decide +kernel
theorem d_X4_isBounded_143 : decode prog_6_method_7_code 143 = .ok (.iload 5, 2) := by decide +kernel
theorem d_X4_isBounded_145 : decode prog_6_method_7_code 145 = .ok (.aload_n 0, 1) := by decide +kernel
theorem d_X4_isBounded_146 : decode prog_6_method_7_code 146 = .ok (.getfield 9, 3) := by decide +kernel
theorem d_X4_isBounded_149 : decode prog_6_method_7_code 149 = .ok (.arraylength, 1) := by decide +kernel
theorem d_X4_isBounded_150 : decode prog_6_method_7_code 150 = .ok (.if_icmp .ge 70, 3) := by decide +kernel
theorem d_X4_isBounded_153 : decode prog_6_method_7_code 153 = .ok (.aload_n 1, 1) := by decide +kernel
theorem d_X4_isBounded_154 : decode prog_6_method_7_code 154 = .ok (.getfield 100, 3) := by decide +kernel
theorem d_X4_isBounded_157 : decode prog_6_method_7_code 157 = .ok (.iload 5, 2) := by decide +kernel
theorem d_X4_isBounded_159 : decode prog_6_method_7_code 159 = .ok (.invokevirtual 148, 3) := by decide +kernel
theorem d_X4_isBounded_162 : decode prog_6_method_7_code 162 = .ok (.ifCond .eq 52, 3) := by decide +kernel
theorem d_X4_isBounded_165 : decode prog_6_method_7_code 165 = .ok (.aload_n 0, 1) := by decide +kernel
theorem d_X4_isBounded_166 : decode prog_6_method_7_code 166 = .ok (.getfield 15, 3) := by decide +kernel
theorem d_X4_isBounded_169 : decode prog_6_method_7_code 169 = .ok (.aload_n 1, 1) := by decide +kernel
theorem d_X4_isBounded_170 : decode prog_6_method_7_code 170 = .ok (.getfield 100, 3) := by decide +kernel
theorem d_X4_isBounded_173 : decode prog_6_method_7_code 173 = .ok (.getfield 166, 3) := by decide +kernel
theorem d_X4_isBounded_176 : decode prog_6_method_7_code 176 = .ok (.iload 5, 2) := by decide +kernel
theorem d_X4_isBounded_178 : decode prog_6_method_7_code 178 = .ok (.iaload, 1) := by decide +kernel
theorem d_X4_isBounded_179 : decode prog_6_method_7_code 179 = .ok (.dup2, 1) := by decide +kernel
theorem d_X4_isBounded_180 : decode prog_6_method_7_code 180 = .ok (.laload, 1) := by decide +kernel
theorem d_X4_isBounded_181 : decode prog_6_method_7_code 181 = .ok (.aload_n 0, 1) := by decide +kernel
theorem d_X4_isBounded_182 : decode prog_6_method_7_code 182 = .ok (.getfield 9, 3) := by decide +kernel
theorem d_X4_isBounded_185 : decode prog_6_method_7_code 185 = .ok (.iload 5, 2) := by decide +kernel
theorem d_X4_isBounded_187 : decode prog_6_method_7_code 187 = .ok (.iaload, 1) := by decide +kernel
theorem d_X4_isBounded_188 : decode prog_6_method_7_code 188 = .ok (.i2l, 1) := by decide +kernel
theorem d_X4_isBounded_189 : decode prog_6_method_7_code 189 = .ok (.iload 5, 2) := by decide +kernel
theorem d_X4_isBounded_191 : decode prog_6_method_7_code 191 = .ok (.bipush 24, 2) := by decide +kernel
theorem d_X4_isBounded_193 : decode prog_6_method_7_code 193 = .ok (.if_icmp .ge 16, 3) := by decide +kernel
theorem d_X4_isBounded_196 : decode prog_6_method_7_code 196 = .ok (.aload_n 1, 1) := by decide +kernel
theorem d_X4_isBounded_197 : decode prog_6_method_7_code 197 = .ok (.getfield 100, 3) := by decide +kernel
theorem d_X4_isBounded_200 : decode prog_6_method_7_code 200 = .ok (.getfield 169, 3) := by decide +kernel
theorem d_X4_isBounded_203 : decode prog_6_method_7_code 203 = .ok (.iload 5, 2) := by decide +kernel
theorem d_X4_isBounded_205 : decode prog_6_method_7_code 205 = .ok (.iaload, 1) := by decide +kernel
theorem d_X4_isBounded_206 : decode prog_6_method_7_code 206 = .ok (.goto 4, 3) := by decide +kernel
theorem d_X4_isBounded_209 : decode prog_6_method_7_code 209 = .ok (.iconst 1, 1) := by decide +kernel
theorem d_X4_isBounded_210 : decode prog_6_method_7_code 210 = .ok (.i2l, 1) := by decide +kernel
theorem d_X4_isBounded_211 : decode prog_6_method_7_code 211 = .ok (.lmul, 1) := by decide +kernel
theorem d_X4_isBounded_212 : decode prog_6_method_7_code 212 = .ok (.ladd, 1) := by decide +kernel
theorem d_X4_isBounded_213 : decode prog_6_method_7_code 213 = .ok (.lastore, 1) := by decide +kernel
theorem d_X4_isBounded_214 : decode prog_6_method_7_code 214 = .ok (.iinc 5 1, 3) := by decide +kernel
theorem d_X4_isBounded_217 : decode prog_6_method_7_code 217 = .ok (.goto (-74), 3) := by decide +kernel
theorem d_X4_isBounded_220 : decode prog_6_method_7_code 220 = .ok (.iconst 0, 1) := by decide +kernel
theorem d_X4_isBounded_221 : decode prog_6_method_7_code 221 = .ok (.istore 5, 2) := by decide +kernel
theorem d_X4_isBounded_223 : decode prog_6_method_7_code 223 = .ok (.iload 5, 2) := by decide +kernel
theorem d_X4_isBounded_225 : decode prog_6_method_7_code 225 = .ok (.iconst 3, 1) := by decide +kernel
theorem d_X4_isBounded_226 : decode prog_6_method_7_code 226 = .ok (.if_icmp .ge 56, 3) := by decide +kernel
theorem d_X4_isBounded_229 : decode prog_6_method_7_code 229 = .ok (.aload_n 1, 1) := by decide +kernel
theorem d_X4_isBounded_230 : decode prog_6_method_7_code 230 = .ok (.getfield 116, 3) := by decide +kernel
theorem d_X4_isBounded_233 : decode prog_6_method_7_code 233 = .ok (.aload_n 1, 1) := by decide +kernel
theorem d_X4_isBounded_234 : decode prog_6_method_7_code 234 = .ok (.getfield 35, 3) := by decide +kernel
theorem d_X4_isBounded_237 : decode prog_6_method_7_code 237 = .ok (.iload 5, 2) := by decide +kernel
theorem d_X4_isBounded_239 : decode prog_6_method_7_code 239 = .ok (.invokevirtual 172, 3) := by decide +kernel
theorem d_X4_isBounded_242 : decode prog_6_method_7_code 242 = .ok (.lstore 6, 2) := by decide +kernel
theorem d_X4_isBounded_244 : decode prog_6_method_7_code 244 = .ok (.lload 6, 2) := by decide +kernel
theorem d_X4_isBounded_246 : decode prog_6_method_7_code 246 = .ok (.aload_n 0, 1) := by decide +kernel
theorem d_X4_isBounded_247 : decode prog_6_method_7_code 247 = .ok (.getfield 15, 3) := by decide +kernel
theorem d_X4_isBounded_250 : decode prog_6_method_7_code 250 = .ok (.iload 5, 2) := by decide +kernel
theorem d_X4_isBounded_252 : decode prog_6_method_7_code 252 = .ok (.laload, 1) := by decide +kernel
theorem d_X4_isBounded_253 : decode prog_6_method_7_code 253 = .ok (.lcmp, 1) := by decide +kernel
theorem d_X4_isBounded_254 : decode prog_6_method_7_code 254 = .ok (.ifCond .eq 22, 3) := by decide +kernel
theorem d_X4_isBounded_257 : decode prog_6_method_7_code 257 = .ok (.lload 6, 2) := by decide +kernel
theorem d_X4_isBounded_259 : decode prog_6_method_7_code 259 = .ok (.aload_n 0, 1) := by decide +kernel
theorem d_X4_isBounded_260 : decode prog_6_method_7_code 260 = .ok (.getfield 15, 3) := by decide +kernel
theorem d_X4_isBounded_263 : decode prog_6_method_7_code 263 = .ok (.iload 5, 2) := by decide +kernel
theorem d_X4_isBounded_265 : decode prog_6_method_7_code 265 = .ok (.laload, 1) := by decide +kernel
theorem d_X4_isBounded_266 : decode prog_6_method_7_code 266 = .ok (.lcmp, 1) := by decide +kernel
theorem d_X4_isBounded_267 : decode prog_6_method_7_code 267 = .ok (.ifCond .ge 7, 3) := by decide +kernel
theorem d_X4_isBounded_270 : decode prog_6_method_7_code 270 = .ok (.iconst 1, 1) := by decide +kernel
theorem d_X4_isBounded_271 : decode prog_6_method_7_code 271 = .ok (.goto 4, 3) := by decide +kernel
theorem d_X4_isBounded_274 : decode prog_6_method_7_code 274 = .ok (.iconst 0, 1) := by decide +kernel
theorem d_X4_isBounded_275 : decode prog_6_method_7_code 275 = .ok (.ireturn, 1) := by decide +kernel
theorem d_X4_isBounded_276 : decode prog_6_method_7_code 276 = .ok (.iinc 5 1, 3) := by decide +kernel
theorem d_X4_isBounded_279 : decode prog_6_method_7_code 279 = .ok (.goto (-56), 3) := by decide +kernel
theorem d_X4_isBounded_282 : decode prog_6_method_7_code 282 = .ok (.iconst 1, 1) := by decide +kernel
theorem d_X4_isBounded_283 : decode prog_6_method_7_code 283 = .ok (.ireturn, 1) := by decide +kernel
theorem v_X4_isBounded_0 {E : EE} {d : Nat} {Q : Option AV → AH → Prop} {x0 : Nat} {x1 : Nat} {x2 : Int32} {x3 : Int32} {G : AH} (h0 : 0 < d) (h : isO E G x0 4 ∧ (wpV E (d - 1) M_J7_fill_53178 [vr (gR G x0 1), vi 2147483647] G (fun G2 => isO E G2 x1 3 ∧ (isO E G2 (gR G2 x1 4) 7 ∧ (wpI E (d - 1) M_X7_lowest [vr (gR G2 x1 4), vi x3, vi x2] G2 (fun r4 G5 => wp E d M_X4_isBounded 23 [some (vr x0), some (vr x1), some (vi x2), some (vi x3), some (vi r4), some (vi 0), none, none] [] G5 Q)))))) : wp E d M_X4_isBounded 0 [some (vr x0), some (vr x1), some (vi x2), some (vi x3), none, none, none, none] [] G Q := by
  refine wp_aload_n (pc := 0) d_X4_isBounded_0 rfl ?_
  obtain ⟨ho1, h⟩ := h
  refine wp_getR (pc := 1) d_X4_isBounded_1 fl_X4_9 (fun _ _ _ => rfl) ho1 ?_
  refine wp_ldc (pc := 4) (v := 2147483647) d_X4_isBounded_4 ci_X4_137 ?_
  refine wp_invS (pc := 6) (N := M_J7_fill_53178) (As := [vr _, vi _]) (rest := []) d_X4_isBounded_6 ml_X4_138 mk_J7_fill_53178 ms_J7_fill_53178 h0 (Nat.le_of_ble_eq_true rfl) ?_
  refine wpM.mono h (fun rr G2 hr => ?_)
  obtain ⟨rfl, h⟩ := hr
  show wp E d M_X4_isBounded 9 [some (vr _), some (vr _), some (vi _), some (vi _), none, none, none, none] [] G2 Q
  refine wp_aload_n (pc := 9) d_X4_isBounded_9 rfl ?_
  obtain ⟨ho3, h⟩ := h
  refine wp_getR (pc := 10) d_X4_isBounded_10 fl_X4_84 (fun _ _ _ => rfl) ho3 ?_
  refine wp_iload_n (pc := 13) d_X4_isBounded_13 rfl ?_
  refine wp_iload_n (pc := 14) d_X4_isBounded_14 rfl ?_
  obtain ⟨ho6, h⟩ := h
  refine wp_invV (pc := 15) (N := M_X7_lowest) (As := [vi _, vi _]) (rest := []) (r := (cn_7, ct_7, 5)) d_X4_isBounded_15 ml_X4_109 mk_X7_lowest mv_X7_lowest h0 ho6 rfl rfl (Nat.le_of_ble_eq_true rfl) ?_
  refine wpM.mono h (fun rr G5 hr => ?_)
  obtain ⟨r4, rfl, h⟩ := hr
  show wp E d M_X4_isBounded 18 [some (vr _), some (vr _), some (vi _), some (vi _), none, none, none, none] [vi _] G5 Q
  refine wp_istore (pc := 18) (lv' := [some (vr _), some (vr _), some (vi _), some (vi _), some (vi _), none, none, none]) d_X4_isBounded_18 (by decide) rfl ?_
  refine wp_iconst (pc := 20) (v := 0) d_X4_isBounded_20 rfl ?_
  refine wp_istore (pc := 21) (lv' := [some (vr _), some (vr _), some (vi _), some (vi _), some (vi _), some (vi _), none, none]) d_X4_isBounded_21 (by decide) rfl ?_
  refine wp_sub ?_ h
  exact ⟨rfl, ⟨rfl, ⟨rfl, ⟨rfl, ⟨rfl, ⟨rfl, trivial⟩⟩⟩⟩⟩⟩
theorem v_X4_isBounded_23 {E : EE} {d : Nat} {Q : Option AV → AH → Prop} {x0 : Nat} {x1 : Nat} {x2 : Int32} {x3 : Int32} {x4 : Int32} {x5 : Int32} {G : AH} (h0 : 0 < d) (h : isO E G x1 3 ∧ (isO E G (gR G x1 4) 7 ∧ (((gI G (gR G x1 4) 1) ≤ x5 → wp E d M_X4_isBounded 132 [some (vr x0), some (vr x1), some (vi x2), some (vi x3), some (vi x4), some (vi x5), none, none] [] G Q) ∧ (¬ ((gI G (gR G x1 4) 1) ≤ x5) → (x4 < 0 → wp E d M_X4_isBounded 132 [some (vr x0), some (vr x1), some (vi x2), some (vi x3), some (vi x4), some (vi x5), none, none] [] G Q) ∧ (¬ (x4 < 0) → isO E G (gR G x1 5) 2 ∧ (wpV E (d - 1) M_X2_look [vr (gR G x1 5), vr (gR G x1 4), vi x4] G (fun G3 => wp E d M_X4_isBounded 56 [some (vr x0), some (vr x1), some (vi x2), some (vi x3), some (vi x4), some (vi x5), some (vi 0), none] [] G3 Q))))))) : wp E d M_X4_isBounded 23 [some (vr x0), some (vr x1), some (vi x2), some (vi x3), some (vi x4), some (vi x5), none, none] [] G Q := by
  refine wp_iload (pc := 23) d_X4_isBounded_23 rfl ?_
  refine wp_aload_n (pc := 25) d_X4_isBounded_25 rfl ?_
  obtain ⟨ho1, h⟩ := h
  refine wp_getR (pc := 26) d_X4_isBounded_26 fl_X4_84 (fun _ _ _ => rfl) ho1 ?_
  obtain ⟨ho2, h⟩ := h
  refine wp_getI (pc := 29) d_X4_isBounded_29 fl_X4_113 (fun _ _ _ => rfl) ho2 ?_
  refine wp_icmp_ge (pc := 32) (tgt := 132) d_X4_isBounded_32 (by decide) (fun hc => ?_) (fun hc => ?_)
  · have h := h.1 hc
    refine wp_sub ?_ h
    exact ⟨rfl, ⟨rfl, ⟨rfl, ⟨rfl, ⟨rfl, ⟨rfl, trivial⟩⟩⟩⟩⟩⟩
  · have h := h.2 hc
    refine wp_iload (pc := 35) d_X4_isBounded_35 rfl ?_
    refine wp_if_lt (pc := 37) (tgt := 132) d_X4_isBounded_37 (by decide) (fun hc => ?_) (fun hc => ?_)
    · have h := h.1 hc
      refine wp_sub ?_ h
      exact ⟨rfl, ⟨rfl, ⟨rfl, ⟨rfl, ⟨rfl, ⟨rfl, trivial⟩⟩⟩⟩⟩⟩
    · have h := h.2 hc
      refine wp_aload_n (pc := 40) d_X4_isBounded_40 rfl ?_
      refine wp_getR (pc := 41) d_X4_isBounded_41 fl_X4_100 (fun _ _ _ => rfl) ho1 ?_
      refine wp_aload_n (pc := 44) d_X4_isBounded_44 rfl ?_
      refine wp_getR (pc := 45) d_X4_isBounded_45 fl_X4_84 (fun _ _ _ => rfl) ho1 ?_
      refine wp_iload (pc := 48) d_X4_isBounded_48 rfl ?_
      obtain ⟨ho4, h⟩ := h
      refine wp_invV (pc := 50) (N := M_X2_look) (As := [vr _, vi _]) (rest := []) (r := (cn_2, ct_2, 15)) d_X4_isBounded_50 ml_X4_144 mk_X2_look mv_X2_look h0 ho4 rfl rfl (Nat.le_of_ble_eq_true rfl) ?_
      refine wpM.mono h (fun rr G3 hr => ?_)
      obtain ⟨rfl, h⟩ := hr
      show wp E d M_X4_isBounded 53 [some (vr _), some (vr _), some (vi _), some (vi _), some (vi _), some (vi _), none, none] [] G3 Q
      refine wp_iconst (pc := 53) (v := 0) d_X4_isBounded_53 rfl ?_
      refine wp_istore (pc := 54) (lv' := [some (vr _), some (vr _), some (vi _), some (vi _), some (vi _), some (vi _), some (vi _), none]) d_X4_isBounded_54 (by decide) rfl ?_
      refine wp_sub ?_ h
      exact ⟨rfl, ⟨rfl, ⟨rfl, ⟨rfl, ⟨rfl, ⟨rfl, ⟨rfl, trivial⟩⟩⟩⟩⟩⟩⟩
theorem v_X4_isBounded_56 {E : EE} {d : Nat} {Q : Option AV → AH → Prop} {x0 : Nat} {x1 : Nat} {x2 : Int32} {x3 : Int32} {x4 : Int32} {x5 : Int32} {x6 : Int32} {G : AH} (h0 : 0 < d) (h : isO E G x0 4 ∧ (isO E G (gR G x0 1) 14 ∧ (((nI (gN G (gR G x0 1))) ≤ x6 → isO E G x1 3 ∧ (isO E G (gR G x1 4) 7 ∧ (wpI E (d - 1) M_X7_following [vr (gR G x1 4), vi x4, vi x2] G (fun r4 G5 => wp E d M_X4_isBounded 23 [some (vr x0), some (vr x1), some (vi x2), some (vi x3), some (vi r4), some (vi (x5 + 1)), none, none] [] G5 Q)))) ∧ (¬ ((nI (gN G (gR G x0 1))) ≤ x6) → isO E G x1 3 ∧ (isO E G (gR G x1 5) 2 ∧ (wpI E (d - 1) M_X2_isPart [vr (gR G x1 5), vi x6] G (fun r8 G9 => (r8 = 0 → wp E d M_X4_isBounded 108 [some (vr x0), some (vr x1), some (vi x2), some (vi x3), some (vi x4), some (vi x5), some (vi x6), none] [] G9 Q) ∧ (¬ (r8 = 0) → isO E G9 x0 4 ∧ (isO E G9 (gR G9 x0 1) 14 ∧ (vp_in x6 (gN G9 (gR G9 x0 1)) ∧ (isO E G9 x1 3 ∧ (isO E G9 (gR G9 x1 5) 2 ∧ (wpI E (d - 1) M_X2_run [vr (gR G9 x1 5), vi x6, vr (gR G9 x1 7)] G9 (fun r14 G15 => isO E G15 (gR G9 x0 1) 14 ∧ (vp_in x6 (gN G15 (gR G9 x0 1)) ∧ (wp E d M_X4_isBounded 108 [some (vr x0), some (vr x1), some (vi x2), some (vi x3), some (vi x4), some (vi x5), some (vi x6), none] [] (sI G15 (gR G9 x0 1) (Int32.toNatClampNeg x6) (imin (gI G9 (gR G9 x0 1) (Int32.toNatClampNeg x6)) r14)) Q)))))))))))))))) : wp E d M_X4_isBounded 56 [some (vr x0), some (vr x1), some (vi x2), some (vi x3), some (vi x4), some (vi x5), some (vi x6), none] [] G Q := by
  refine wp_iload (pc := 56) d_X4_isBounded_56 rfl ?_
  refine wp_aload_n (pc := 58) d_X4_isBounded_58 rfl ?_
  obtain ⟨ho1, h⟩ := h
  refine wp_getR (pc := 59) d_X4_isBounded_59 fl_X4_9 (fun _ _ _ => rfl) ho1 ?_
  obtain ⟨ho2, h⟩ := h
  refine wp_alen (pc := 62) d_X4_isBounded_62 ho2 (by decide) rfl ?_
  refine wp_icmp_ge (pc := 63) (tgt := 114) d_X4_isBounded_63 (by decide) (fun hc => ?_) (fun hc => ?_)
  · have h := h.1 hc
    refine wp_aload_n (pc := 114) d_X4_isBounded_114 rfl ?_
    obtain ⟨ho3, h⟩ := h
    refine wp_getR (pc := 115) d_X4_isBounded_115 fl_X4_84 (fun _ _ _ => rfl) ho3 ?_
    refine wp_iload (pc := 118) d_X4_isBounded_118 rfl ?_
    refine wp_iload_n (pc := 120) d_X4_isBounded_120 rfl ?_
    obtain ⟨ho6, h⟩ := h
    refine wp_invV (pc := 121) (N := M_X7_following) (As := [vi _, vi _]) (rest := []) (r := (cn_7, ct_7, 5)) d_X4_isBounded_121 ml_X4_126 mk_X7_following mv_X7_following h0 ho6 rfl rfl (Nat.le_of_ble_eq_true rfl) ?_
    refine wpM.mono h (fun rr G5 hr => ?_)
    obtain ⟨r4, rfl, h⟩ := hr
    show wp E d M_X4_isBounded 124 [some (vr _), some (vr _), some (vi _), some (vi _), some (vi _), some (vi _), some (vi _), none] [vi _] G5 Q
    refine wp_istore (pc := 124) (lv' := [some (vr _), some (vr _), some (vi _), some (vi _), some (vi _), some (vi _), some (vi _), none]) d_X4_isBounded_124 (by decide) rfl ?_
    refine wp_iinc (pc := 126) (v := 1) (lv' := [some (vr _), some (vr _), some (vi _), some (vi _), some (vi _), some (vi _), some (vi _), none]) d_X4_isBounded_126 (by decide) rfl rfl rfl ?_
    refine wp_goto (pc := 129) (tgt := 23) d_X4_isBounded_129 (by decide) ?_
    refine wp_sub ?_ h
    exact ⟨rfl, ⟨rfl, ⟨rfl, ⟨rfl, ⟨rfl, ⟨rfl, trivial⟩⟩⟩⟩⟩⟩
  · have h := h.2 hc
    refine wp_aload_n (pc := 66) d_X4_isBounded_66 rfl ?_
    obtain ⟨ho7, h⟩ := h
    refine wp_getR (pc := 67) d_X4_isBounded_67 fl_X4_100 (fun _ _ _ => rfl) ho7 ?_
    refine wp_iload (pc := 70) d_X4_isBounded_70 rfl ?_
    obtain ⟨ho19, h⟩ := h
    refine wp_invV (pc := 72) (N := M_X2_isPart) (As := [vi _]) (rest := []) (r := (cn_2, ct_2, 15)) d_X4_isBounded_72 ml_X4_148 mk_X2_isPart mv_X2_isPart h0 ho19 rfl rfl (Nat.le_of_ble_eq_true rfl) ?_
    refine wpM.mono h (fun rr G9 hr => ?_)
    obtain ⟨r8, rfl, h⟩ := hr
    show wp E d M_X4_isBounded 75 [some (vr _), some (vr _), some (vi _), some (vi _), some (vi _), some (vi _), some (vi _), none] [vi _] G9 Q
    refine wp_if_eq (pc := 75) (tgt := 108) d_X4_isBounded_75 (by decide) (fun hc => ?_) (fun hc => ?_)
    · have h := h.1 hc
      refine wp_sub ?_ h
      exact ⟨rfl, ⟨rfl, ⟨rfl, ⟨rfl, ⟨rfl, ⟨rfl, ⟨rfl, trivial⟩⟩⟩⟩⟩⟩⟩
    · have h := h.2 hc
      refine wp_aload_n (pc := 78) d_X4_isBounded_78 rfl ?_
      obtain ⟨ho10, h⟩ := h
      refine wp_getR (pc := 79) d_X4_isBounded_79 fl_X4_9 (fun _ _ _ => rfl) ho10 ?_
      refine wp_iload (pc := 82) d_X4_isBounded_82 rfl ?_
      refine wp_aload_n (pc := 84) d_X4_isBounded_84 rfl ?_
      refine wp_getR (pc := 85) d_X4_isBounded_85 fl_X4_9 (fun _ _ _ => rfl) ho10 ?_
      refine wp_iload (pc := 88) d_X4_isBounded_88 rfl ?_
      obtain ⟨ho11, h⟩ := h
      obtain ⟨hi12, h⟩ := h
      refine wp_iald (pc := 90) d_X4_isBounded_90 ho11 hi12 ?_
      refine wp_aload_n (pc := 91) d_X4_isBounded_91 rfl ?_
      obtain ⟨ho13, h⟩ := h
      refine wp_getR (pc := 92) d_X4_isBounded_92 fl_X4_100 (fun _ _ _ => rfl) ho13 ?_
      refine wp_iload (pc := 95) d_X4_isBounded_95 rfl ?_
      refine wp_aload_n (pc := 97) d_X4_isBounded_97 rfl ?_
      refine wp_getR (pc := 98) d_X4_isBounded_98 fl_X4_151 (fun _ _ _ => rfl) ho13 ?_
      obtain ⟨ho18, h⟩ := h
      refine wp_invV (pc := 101) (N := M_X2_run) (As := [vi _, vr _]) (rest := [vi _, vi _, vr _]) (r := (cn_2, ct_2, 15)) d_X4_isBounded_101 ml_X4_154 mk_X2_run mv_X2_run h0 ho18 rfl rfl (Nat.le_of_ble_eq_true rfl) ?_
      refine wpM.mono h (fun rr G15 hr => ?_)
      obtain ⟨r14, rfl, h⟩ := hr
      show wp E d M_X4_isBounded 104 [some (vr _), some (vr _), some (vi _), some (vi _), some (vi _), some (vi _), some (vi _), none] [vi _, vi _, vi _, vr _] G15 Q
      refine wp_imin (pc := 104) d_X4_isBounded_104 ml_X4_158 ms_imin ii_math mc_imin h0 (Nat.le_of_ble_eq_true rfl) ?_
      obtain ⟨ho16, h⟩ := h
      obtain ⟨hi17, h⟩ := h
      refine wp_iast (pc := 107) d_X4_isBounded_107 ho16 hi17 ?_
      refine wp_sub ?_ h
      exact ⟨rfl, ⟨rfl, ⟨rfl, ⟨rfl, ⟨rfl, ⟨rfl, ⟨rfl, trivial⟩⟩⟩⟩⟩⟩⟩
theorem v_X4_isBounded_108 {E : EE} {d : Nat} {Q : Option AV → AH → Prop} {x0 : Nat} {x1 : Nat} {x2 : Int32} {x3 : Int32} {x4 : Int32} {x5 : Int32} {x6 : Int32} {G : AH} (h : wp E d M_X4_isBounded 56 [some (vr x0), some (vr x1), some (vi x2), some (vi x3), some (vi x4), some (vi x5), some (vi (x6 + 1)), none] [] G Q) : wp E d M_X4_isBounded 108 [some (vr x0), some (vr x1), some (vi x2), some (vi x3), some (vi x4), some (vi x5), some (vi x6), none] [] G Q := by
  refine wp_iinc (pc := 108) (v := 1) (lv' := [some (vr _), some (vr _), some (vi _), some (vi _), some (vi _), some (vi _), some (vi _), none]) d_X4_isBounded_108 (by decide) rfl rfl rfl ?_
  refine wp_goto (pc := 111) (tgt := 56) d_X4_isBounded_111 (by decide) ?_
  refine wp_sub ?_ h
  exact ⟨rfl, ⟨rfl, ⟨rfl, ⟨rfl, ⟨rfl, ⟨rfl, ⟨rfl, trivial⟩⟩⟩⟩⟩⟩⟩
theorem v_X4_isBounded_132 {E : EE} {d : Nat} {Q : Option AV → AH → Prop} {x0 : Nat} {x1 : Nat} {x2 : Int32} {x3 : Int32} {x4 : Int32} {x5 : Int32} {G : AH} (h0 : 0 < d) (h : isO E G x0 4 ∧ (wpV E (d - 1) M_J7_fill_d0a16 [vr (gR G x0 2), vj 0] G (fun G2 => wp E d M_X4_isBounded 143 [some (vr x0), some (vr x1), some (vi x2), some (vi x3), some (vi x4), some (vi 0), none, none] [] G2 Q))) : wp E d M_X4_isBounded 132 [some (vr x0), some (vr x1), some (vi x2), some (vi x3), some (vi x4), some (vi x5), none, none] [] G Q := by
  refine wp_aload_n (pc := 132) d_X4_isBounded_132 rfl ?_
  obtain ⟨ho1, h⟩ := h
  refine wp_getR (pc := 133) d_X4_isBounded_133 fl_X4_15 (fun _ _ _ => rfl) ho1 ?_
  refine wp_lconst (pc := 136) (v := 0) d_X4_isBounded_136 rfl ?_
  refine wp_invS (pc := 137) (N := M_J7_fill_d0a16) (As := [vr _, vj _]) (rest := []) d_X4_isBounded_137 ml_X4_163 mk_J7_fill_d0a16 ms_J7_fill_d0a16 h0 (Nat.le_of_ble_eq_true rfl) ?_
  refine wpM.mono h (fun rr G2 hr => ?_)
  obtain ⟨rfl, h⟩ := hr
  show wp E d M_X4_isBounded 140 [some (vr _), some (vr _), some (vi _), some (vi _), some (vi _), some (vi _), none, none] [] G2 Q
  refine wp_iconst (pc := 140) (v := 0) d_X4_isBounded_140 rfl ?_
  refine wp_istore (pc := 141) (lv' := [some (vr _), some (vr _), some (vi _), some (vi _), some (vi _), some (vi _), none, none]) d_X4_isBounded_141 (by decide) rfl ?_
  refine wp_sub ?_ h
  exact ⟨rfl, ⟨rfl, ⟨rfl, ⟨rfl, ⟨rfl, ⟨rfl, trivial⟩⟩⟩⟩⟩⟩
theorem v_X4_isBounded_143 {E : EE} {d : Nat} {Q : Option AV → AH → Prop} {x0 : Nat} {x1 : Nat} {x2 : Int32} {x3 : Int32} {x4 : Int32} {x5 : Int32} {G : AH} (h0 : 0 < d) (h : isO E G x0 4 ∧ (isO E G (gR G x0 1) 14 ∧ (((nI (gN G (gR G x0 1))) ≤ x5 → wp E d M_X4_isBounded 223 [some (vr x0), some (vr x1), some (vi x2), some (vi x3), some (vi x4), some (vi 0), none, none] [] G Q) ∧ (¬ ((nI (gN G (gR G x0 1))) ≤ x5) → isO E G x1 3 ∧ (isO E G (gR G x1 5) 2 ∧ (wpI E (d - 1) M_X2_isPart [vr (gR G x1 5), vi x5] G (fun r4 G5 => (r4 = 0 → wp E d M_X4_isBounded 214 [some (vr x0), some (vr x1), some (vi x2), some (vi x3), some (vi x4), some (vi x5), none, none] [] G5 Q) ∧ (¬ (r4 = 0) → isO E G5 x0 4 ∧ (isO E G5 x1 3 ∧ (isO E G5 (gR G5 x1 5) 2 ∧ (isO E G5 (gR G5 (gR G5 x1 5) 4) 14 ∧ (vp_in x5 (gN G5 (gR G5 (gR G5 x1 5) 4)) ∧ (isO E G5 (gR G5 x0 2) 15 ∧ (vp_in (gI G5 (gR G5 (gR G5 x1 5) 4) (Int32.toNatClampNeg x5)) (gN G5 (gR G5 x0 2)) ∧ (isO E G5 (gR G5 x0 1) 14 ∧ (vp_in x5 (gN G5 (gR G5 x0 1)) ∧ ((24 ≤ x5 → wp E d M_X4_isBounded 210 [some (vr x0), some (vr x1), some (vi x2), some (vi x3), some (vi x4), some (vi x5), none, none] [vi 1, vj (Int32.toInt64 (gI G5 (gR G5 x0 1) (Int32.toNatClampNeg x5))), vj (gJ G5 (gR G5 x0 2) (Int32.toNatClampNeg (gI G5 (gR G5 (gR G5 x1 5) 4) (Int32.toNatClampNeg x5)))), vi (gI G5 (gR G5 (gR G5 x1 5) 4) (Int32.toNatClampNeg x5)), vr (gR G5 x0 2)] G5 Q) ∧ (¬ (24 ≤ x5) → isO E G5 (gR G5 (gR G5 x1 5) 5) 14 ∧ (vp_in x5 (gN G5 (gR G5 (gR G5 x1 5) 5)) ∧ (wp E d M_X4_isBounded 210 [some (vr x0), some (vr x1), some (vi x2), some (vi x3), some (vi x4), some (vi x5), none, none] [vi (gI G5 (gR G5 (gR G5 x1 5) 5) (Int32.toNatClampNeg x5)), vj (Int32.toInt64 (gI G5 (gR G5 x0 1) (Int32.toNatClampNeg x5))), vj (gJ G5 (gR G5 x0 2) (Int32.toNatClampNeg (gI G5 (gR G5 (gR G5 x1 5) 4) (Int32.toNatClampNeg x5)))), vi (gI G5 (gR G5 (gR G5 x1 5) 4) (Int32.toNatClampNeg x5)), vr (gR G5 x0 2)] G5 Q)))))))))))))))))))) : wp E d M_X4_isBounded 143 [some (vr x0), some (vr x1), some (vi x2), some (vi x3), some (vi x4), some (vi x5), none, none] [] G Q := by
  refine wp_iload (pc := 143) d_X4_isBounded_143 rfl ?_
  refine wp_aload_n (pc := 145) d_X4_isBounded_145 rfl ?_
  obtain ⟨ho1, h⟩ := h
  refine wp_getR (pc := 146) d_X4_isBounded_146 fl_X4_9 (fun _ _ _ => rfl) ho1 ?_
  obtain ⟨ho2, h⟩ := h
  refine wp_alen (pc := 149) d_X4_isBounded_149 ho2 (by decide) rfl ?_
  refine wp_icmp_ge (pc := 150) (tgt := 220) d_X4_isBounded_150 (by decide) (fun hc => ?_) (fun hc => ?_)
  · have h := h.1 hc
    refine wp_iconst (pc := 220) (v := 0) d_X4_isBounded_220 rfl ?_
    refine wp_istore (pc := 221) (lv' := [some (vr _), some (vr _), some (vi _), some (vi _), some (vi _), some (vi _), none, none]) d_X4_isBounded_221 (by decide) rfl ?_
    refine wp_sub ?_ h
    exact ⟨rfl, ⟨rfl, ⟨rfl, ⟨rfl, ⟨rfl, ⟨rfl, trivial⟩⟩⟩⟩⟩⟩
  · have h := h.2 hc
    refine wp_aload_n (pc := 153) d_X4_isBounded_153 rfl ?_
    obtain ⟨ho3, h⟩ := h
    refine wp_getR (pc := 154) d_X4_isBounded_154 fl_X4_100 (fun _ _ _ => rfl) ho3 ?_
    refine wp_iload (pc := 157) d_X4_isBounded_157 rfl ?_
    obtain ⟨ho17, h⟩ := h
    refine wp_invV (pc := 159) (N := M_X2_isPart) (As := [vi _]) (rest := []) (r := (cn_2, ct_2, 15)) d_X4_isBounded_159 ml_X4_148 mk_X2_isPart mv_X2_isPart h0 ho17 rfl rfl (Nat.le_of_ble_eq_true rfl) ?_
    refine wpM.mono h (fun rr G5 hr => ?_)
    obtain ⟨r4, rfl, h⟩ := hr
    show wp E d M_X4_isBounded 162 [some (vr _), some (vr _), some (vi _), some (vi _), some (vi _), some (vi _), none, none] [vi _] G5 Q
    refine wp_if_eq (pc := 162) (tgt := 214) d_X4_isBounded_162 (by decide) (fun hc => ?_) (fun hc => ?_)
    · have h := h.1 hc
      refine wp_sub ?_ h
      exact ⟨rfl, ⟨rfl, ⟨rfl, ⟨rfl, ⟨rfl, ⟨rfl, trivial⟩⟩⟩⟩⟩⟩
    · have h := h.2 hc
      refine wp_aload_n (pc := 165) d_X4_isBounded_165 rfl ?_
      obtain ⟨ho6, h⟩ := h
      refine wp_getR (pc := 166) d_X4_isBounded_166 fl_X4_15 (fun _ _ _ => rfl) ho6 ?_
      refine wp_aload_n (pc := 169) d_X4_isBounded_169 rfl ?_
      obtain ⟨ho7, h⟩ := h
      refine wp_getR (pc := 170) d_X4_isBounded_170 fl_X4_100 (fun _ _ _ => rfl) ho7 ?_
      obtain ⟨ho8, h⟩ := h
      refine wp_getR (pc := 173) d_X4_isBounded_173 fl_X4_166 (fun _ _ _ => rfl) ho8 ?_
      refine wp_iload (pc := 176) d_X4_isBounded_176 rfl ?_
      obtain ⟨ho9, h⟩ := h
      obtain ⟨hi10, h⟩ := h
      refine wp_iald (pc := 178) d_X4_isBounded_178 ho9 hi10 ?_
      refine wp_dup2 (pc := 179) d_X4_isBounded_179 (c1_i _) (c1_r _) ?_
      obtain ⟨ho11, h⟩ := h
      obtain ⟨hi12, h⟩ := h
      refine wp_lald (pc := 180) d_X4_isBounded_180 ho11 hi12 ?_
      refine wp_aload_n (pc := 181) d_X4_isBounded_181 rfl ?_
      refine wp_getR (pc := 182) d_X4_isBounded_182 fl_X4_9 (fun _ _ _ => rfl) ho6 ?_
      refine wp_iload (pc := 185) d_X4_isBounded_185 rfl ?_
      obtain ⟨ho13, h⟩ := h
      obtain ⟨hi14, h⟩ := h
      refine wp_iald (pc := 187) d_X4_isBounded_187 ho13 hi14 ?_
      refine wp_i2l (pc := 188) d_X4_isBounded_188 ?_
      refine wp_iload (pc := 189) d_X4_isBounded_189 rfl ?_
      refine wp_bipush (pc := 191) (v := 24) d_X4_isBounded_191 rfl ?_
      refine wp_icmp_ge (pc := 193) (tgt := 209) d_X4_isBounded_193 (by decide) (fun hc => ?_) (fun hc => ?_)
      · have h := h.1 hc
        refine wp_iconst (pc := 209) (v := 1) d_X4_isBounded_209 rfl ?_
        refine wp_sub ?_ h
        exact ⟨rfl, ⟨rfl, ⟨rfl, ⟨rfl, ⟨rfl, ⟨rfl, trivial⟩⟩⟩⟩⟩⟩
      · have h := h.2 hc
        refine wp_aload_n (pc := 196) d_X4_isBounded_196 rfl ?_
        refine wp_getR (pc := 197) d_X4_isBounded_197 fl_X4_100 (fun _ _ _ => rfl) ho7 ?_
        refine wp_getR (pc := 200) d_X4_isBounded_200 fl_X4_169 (fun _ _ _ => rfl) ho8 ?_
        refine wp_iload (pc := 203) d_X4_isBounded_203 rfl ?_
        obtain ⟨ho15, h⟩ := h
        obtain ⟨hi16, h⟩ := h
        refine wp_iald (pc := 205) d_X4_isBounded_205 ho15 hi16 ?_
        refine wp_goto (pc := 206) (tgt := 210) d_X4_isBounded_206 (by decide) ?_
        refine wp_sub ?_ h
        exact ⟨rfl, ⟨rfl, ⟨rfl, ⟨rfl, ⟨rfl, ⟨rfl, trivial⟩⟩⟩⟩⟩⟩
theorem v_X4_isBounded_210 {E : EE} {d : Nat} {Q : Option AV → AH → Prop} {x0 : Nat} {x1 : Nat} {x2 : Int32} {x3 : Int32} {x4 : Int32} {x5 : Int32} {t0 : Nat} {t1 : Int32} {t2 : Int64} {t3 : Int64} {t4 : Int32} {G : AH} (h : isO E G t0 15 ∧ (vp_in t1 (gN G t0) ∧ (wp E d M_X4_isBounded 214 [some (vr x0), some (vr x1), some (vi x2), some (vi x3), some (vi x4), some (vi x5), none, none] [] (sJ G t0 (Int32.toNatClampNeg t1) (t2 + (t3 * (Int32.toInt64 t4)))) Q))) : wp E d M_X4_isBounded 210 [some (vr x0), some (vr x1), some (vi x2), some (vi x3), some (vi x4), some (vi x5), none, none] [vi t4, vj t3, vj t2, vi t1, vr t0] G Q := by
  refine wp_i2l (pc := 210) d_X4_isBounded_210 ?_
  refine wp_lmul (pc := 211) d_X4_isBounded_211 ?_
  refine wp_ladd (pc := 212) d_X4_isBounded_212 ?_
  obtain ⟨ho1, h⟩ := h
  obtain ⟨hi2, h⟩ := h
  refine wp_last (pc := 213) d_X4_isBounded_213 ho1 hi2 ?_
  refine wp_sub ?_ h
  exact ⟨rfl, ⟨rfl, ⟨rfl, ⟨rfl, ⟨rfl, ⟨rfl, trivial⟩⟩⟩⟩⟩⟩
theorem v_X4_isBounded_214 {E : EE} {d : Nat} {Q : Option AV → AH → Prop} {x0 : Nat} {x1 : Nat} {x2 : Int32} {x3 : Int32} {x4 : Int32} {x5 : Int32} {G : AH} (h : wp E d M_X4_isBounded 143 [some (vr x0), some (vr x1), some (vi x2), some (vi x3), some (vi x4), some (vi (x5 + 1)), none, none] [] G Q) : wp E d M_X4_isBounded 214 [some (vr x0), some (vr x1), some (vi x2), some (vi x3), some (vi x4), some (vi x5), none, none] [] G Q := by
  refine wp_iinc (pc := 214) (v := 1) (lv' := [some (vr _), some (vr _), some (vi _), some (vi _), some (vi _), some (vi _), none, none]) d_X4_isBounded_214 (by decide) rfl rfl rfl ?_
  refine wp_goto (pc := 217) (tgt := 143) d_X4_isBounded_217 (by decide) ?_
  refine wp_sub ?_ h
  exact ⟨rfl, ⟨rfl, ⟨rfl, ⟨rfl, ⟨rfl, ⟨rfl, trivial⟩⟩⟩⟩⟩⟩
theorem v_X4_isBounded_223 {E : EE} {d : Nat} {Q : Option AV → AH → Prop} {x0 : Nat} {x1 : Nat} {x2 : Int32} {x3 : Int32} {x4 : Int32} {x5 : Int32} {G : AH} (h0 : 0 < d) (h : (3 ≤ x5 → Q (some (vi 1)) G) ∧ (¬ (3 ≤ x5) → isO E G x1 3 ∧ (isO E G (gR G x1 6) 9 ∧ (wpJ E (d - 1) M_X9_scoreOf [vr (gR G x1 6), vi (gI G x1 8), vi x5] G (fun r2 G3 => isO E G3 x0 4 ∧ (isO E G3 (gR G3 x0 2) 15 ∧ (vp_in x5 (gN G3 (gR G3 x0 2)) ∧ ((r2 = (gJ G3 (gR G3 x0 2) (Int32.toNatClampNeg x5)) → wp E d M_X4_isBounded 223 [some (vr x0), some (vr x1), some (vi x2), some (vi x3), some (vi x4), some (vi (x5 + 1)), none, none] [] G3 Q) ∧ (¬ (r2 = (gJ G3 (gR G3 x0 2) (Int32.toNatClampNeg x5))) → vp_in x5 (gN G3 (gR G3 x0 2)) ∧ (((gJ G3 (gR G3 x0 2) (Int32.toNatClampNeg x5)) ≤ r2 → Q (some (vi 0)) G3) ∧ (¬ ((gJ G3 (gR G3 x0 2) (Int32.toNatClampNeg x5)) ≤ r2) → Q (some (vi 1)) G3))))))))))) : wp E d M_X4_isBounded 223 [some (vr x0), some (vr x1), some (vi x2), some (vi x3), some (vi x4), some (vi x5), none, none] [] G Q := by
  refine wp_iload (pc := 223) d_X4_isBounded_223 rfl ?_
  refine wp_iconst (pc := 225) (v := 3) d_X4_isBounded_225 rfl ?_
  refine wp_icmp_ge (pc := 226) (tgt := 282) d_X4_isBounded_226 (by decide) (fun hc => ?_) (fun hc => ?_)
  · have h := h.1 hc
    refine wp_iconst (pc := 282) (v := 1) d_X4_isBounded_282 rfl ?_
    exact wp_zret (pc := 283) d_X4_isBounded_283 rfl rfl h
  · have h := h.2 hc
    refine wp_aload_n (pc := 229) d_X4_isBounded_229 rfl ?_
    obtain ⟨ho1, h⟩ := h
    refine wp_getR (pc := 230) d_X4_isBounded_230 fl_X4_116 (fun _ _ _ => rfl) ho1 ?_
    refine wp_aload_n (pc := 233) d_X4_isBounded_233 rfl ?_
    refine wp_getI (pc := 234) d_X4_isBounded_234 fl_X4_35 (fun _ _ _ => rfl) ho1 ?_
    refine wp_iload (pc := 237) d_X4_isBounded_237 rfl ?_
    obtain ⟨ho8, h⟩ := h
    refine wp_invV (pc := 239) (N := M_X9_scoreOf) (As := [vi _, vi _]) (rest := []) (r := (cn_9, ct_9, 8)) d_X4_isBounded_239 ml_X4_172 mk_X9_scoreOf mv_X9_scoreOf h0 ho8 rfl rfl (Nat.le_of_ble_eq_true rfl) ?_
    refine wpM.mono h (fun rr G3 hr => ?_)
    obtain ⟨r2, rfl, h⟩ := hr
    show wp E d M_X4_isBounded 242 [some (vr _), some (vr _), some (vi _), some (vi _), some (vi _), some (vi _), none, none] [vj _] G3 Q
    refine wp_lstore (pc := 242) (lv' := [some (vr _), some (vr _), some (vi _), some (vi _), some (vi _), some (vi _), some (vj _), none]) d_X4_isBounded_242 (by decide) rfl ?_
    refine wp_lload (pc := 244) d_X4_isBounded_244 rfl ?_
    refine wp_aload_n (pc := 246) d_X4_isBounded_246 rfl ?_
    obtain ⟨ho4, h⟩ := h
    refine wp_getR (pc := 247) d_X4_isBounded_247 fl_X4_15 (fun _ _ _ => rfl) ho4 ?_
    refine wp_iload (pc := 250) d_X4_isBounded_250 rfl ?_
    obtain ⟨ho5, h⟩ := h
    obtain ⟨hi6, h⟩ := h
    refine wp_lald (pc := 252) d_X4_isBounded_252 ho5 hi6 ?_
    refine wp_lcmp_eq (pc := 253) (tgt := 276) d_X4_isBounded_253 d_X4_isBounded_254 (by decide) (fun hc => ?_) (fun hc => ?_)
    · have h := h.1 hc
      refine wp_iinc (pc := 276) (v := 1) (lv' := [some (vr _), some (vr _), some (vi _), some (vi _), some (vi _), some (vi _), some (vj _), none]) d_X4_isBounded_276 (by decide) rfl rfl rfl ?_
      refine wp_goto (pc := 279) (tgt := 223) d_X4_isBounded_279 (by decide) ?_
      refine wp_sub ?_ h
      exact ⟨rfl, ⟨rfl, ⟨rfl, ⟨rfl, ⟨rfl, ⟨rfl, trivial⟩⟩⟩⟩⟩⟩
    · have h := h.2 hc
      refine wp_lload (pc := 257) d_X4_isBounded_257 rfl ?_
      refine wp_aload_n (pc := 259) d_X4_isBounded_259 rfl ?_
      refine wp_getR (pc := 260) d_X4_isBounded_260 fl_X4_15 (fun _ _ _ => rfl) ho4 ?_
      refine wp_iload (pc := 263) d_X4_isBounded_263 rfl ?_
      obtain ⟨hi7, h⟩ := h
      refine wp_lald (pc := 265) d_X4_isBounded_265 ho5 hi7 ?_
      refine wp_lcmp_ge (pc := 266) (tgt := 274) d_X4_isBounded_266 d_X4_isBounded_267 (by decide) (fun hc => ?_) (fun hc => ?_)
      · have h := h.1 hc
        refine wp_iconst (pc := 274) (v := 0) d_X4_isBounded_274 rfl ?_
        exact wp_zret (pc := 275) d_X4_isBounded_275 rfl rfl h
      · have h := h.2 hc
        refine wp_iconst (pc := 270) (v := 1) d_X4_isBounded_270 rfl ?_
        refine wp_goto (pc := 271) (tgt := 275) d_X4_isBounded_271 (by decide) ?_
        exact wp_zret (pc := 275) d_X4_isBounded_275 rfl rfl h
theorem d_X8_init_0 : decode prog_10_method_1_code 0 = .ok (.aload_n 0, 1) := by decide +kernel
theorem d_X8_init_1 : decode prog_10_method_1_code 1 = .ok (.invokespecial 5, 3) := by decide +kernel
theorem d_X8_init_4 : decode prog_10_method_1_code 4 = .ok (.aload_n 0, 1) := by decide +kernel
theorem d_X8_init_5 : decode prog_10_method_1_code 5 = .ok (.new 11, 3) := by decide +kernel
theorem d_X8_init_8 : decode prog_10_method_1_code 8 = .ok (.dup, 1) := by decide +kernel
theorem d_X8_init_9 : decode prog_10_method_1_code 9 = .ok (.invokespecial 13, 3) := by decide +kernel
theorem d_X8_init_12 : decode prog_10_method_1_code 12 = .ok (.putfield 14, 3) := by decide +kernel
theorem d_X8_init_15 : decode prog_10_method_1_code 15 = .ok (.aload_n 0, 1) := by decide +kernel
theorem d_X8_init_16 : decode prog_10_method_1_code 16 = .ok (.iconst 0, 1) := by decide +kernel
theorem d_X8_init_17 : decode prog_10_method_1_code 17 = .ok (.putfield 18, 3) := by decide +kernel
theorem d_X8_init_20 : decode prog_10_method_1_code 20 = .ok (.aload_n 0, 1) := by decide +kernel
theorem d_X8_init_21 : decode prog_10_method_1_code 21 = .ok (.bipush 100, 2) := by decide +kernel
theorem d_X8_init_23 : decode prog_10_method_1_code 23 = .ok (.newarray .int, 2) := by decide +kernel
theorem d_X8_init_25 : decode prog_10_method_1_code 25 = .ok (.putfield 22, 3) := by decide +kernel
theorem d_X8_init_28 : decode prog_10_method_1_code 28 = .ok (.aload_n 0, 1) := by decide +kernel
theorem d_X8_init_29 : decode prog_10_method_1_code 29 = .ok (.bipush 100, 2) := by decide +kernel
theorem d_X8_init_31 : decode prog_10_method_1_code 31 = .ok (.newarray .int, 2) := by decide +kernel
theorem d_X8_init_33 : decode prog_10_method_1_code 33 = .ok (.putfield 26, 3) := by decide +kernel
theorem d_X8_init_36 : decode prog_10_method_1_code 36 = .ok (.aload_n 0, 1) := by decide +kernel
theorem d_X8_init_37 : decode prog_10_method_1_code 37 = .ok (.iconst (-1), 1) := by decide +kernel
theorem d_X8_init_38 : decode prog_10_method_1_code 38 = .ok (.putfield 29, 3) := by decide +kernel
theorem d_X8_init_41 : decode prog_10_method_1_code 41 = .ok (.return_, 1) := by decide +kernel
theorem v_X8_init_0 {E : EE} {d : Nat} {Q : Option AV → AH → Prop} {x0 : Nat} {G : AH} (h0 : 0 < d) (h : isO E G x0 8 ∧ (eB E ≤ gT G ∧ (∀ G6 : AH, G6 = nw G 0 0 2 → wpV E (d - 1) M_X0_init [vr (gT G)] G6 (fun G10 => isO E G10 x0 8 ∧ (∀ G12 : AH, G12 = sR G10 x0 0 (gT G) → ∀ G14 : AH, G14 = sI G12 x0 1 0 → eB E ≤ gT G14 ∧ (∀ G20 : AH, G20 = nw G14 14 (Int32.toNatClampNeg 100) (Int32.toNatClampNeg 100) → ∀ G24 : AH, G24 = sR G20 x0 2 (gT G14) → ∀ G30 : AH, G30 = nw G24 14 (Int32.toNatClampNeg 100) (Int32.toNatClampNeg 100) → ∀ G34 : AH, G34 = sR G30 x0 3 (gT G24) → ∀ G37 : AH, G37 = sI G34 x0 4 (-1) → Q none G37)))))) : wp E d M_X8_init 0 [some (vr x0)] [] G Q := by
  refine wp_aload_n (pc := 0) d_X8_init_0 rfl ?_
  obtain ⟨ho1, h⟩ := h
  refine wp_objI (pc := 1) d_X8_init_1 ml_X8_5 in_obj mc_obj h0 ho1 (Nat.le_of_ble_eq_true rfl) ?_
  refine wp_aload_n (pc := 4) d_X8_init_4 rfl ?_
  obtain ⟨hb2, h⟩ := h
  refine wp_new (pc := 5) (c := 0) (r := (cn_0, ct_0, 2)) d_X8_init_5 rfl cx_X8_11 it_0 ii_0 ?_
  refine wp_nm (fun G6 eG6 => ?_)
  have h := h G6 eG6
  have ho7 := isO_nwE eG6 ho1
  have hb8 := base_nwE eG6 hb2
  have ho9 := isO_newE eG6 hb2
  refine wp_dup (pc := 8) d_X8_init_8 (c1_r _) ?_
  refine wp_invI (pc := 9) (N := M_X0_init) (As := []) (rest := [vr _, vr _]) d_X8_init_9 ml_X8_13 mk_X0_init mi_X0_init h0 ho9 (Nat.le_of_ble_eq_true rfl) ?_
  refine wpM.mono h (fun rr G10 hr => ?_)
  obtain ⟨rfl, h⟩ := hr
  show wp E d M_X8_init 12 [some (vr _)] [vr _, vr _] G10 Q
  obtain ⟨ho11, h⟩ := h
  refine wp_putR (pc := 12) d_X8_init_12 fl_X8_14 (fun _ _ _ => rfl) (Or.inl ⟨_, rfl⟩) (Or.inr ⟨rfl, rfl, rfl⟩) ho11 ?_
  refine wp_nm (fun G12 eG12 => ?_)
  have h := h G12 eG12
  have ho13 := isO_sR eG12 ho11
  refine wp_aload_n (pc := 15) d_X8_init_15 rfl ?_
  refine wp_iconst (pc := 16) (v := 0) d_X8_init_16 rfl ?_
  refine wp_putI (pc := 17) d_X8_init_17 fl_X8_18 (fun _ _ _ => rfl) (Or.inl rfl) ho13 (okI_int _) ?_
  refine wp_nm (fun G14 eG14 => ?_)
  have h := h G14 eG14
  have ho15 := isO_sI eG14 ho13
  refine wp_aload_n (pc := 20) d_X8_init_20 rfl ?_
  refine wp_bipush (pc := 21) (v := 100) d_X8_init_21 rfl ?_
  obtain ⟨hb16, h⟩ := h
  refine wp_newa (pc := 23) (t0 := 1) (kd := 14) d_X8_init_23 rfl (fun _ q => by cases q) ac_int (by decide) (fun _ => rfl) rfl (by decide) (by decide) (by decide) ?_
  refine wp_nm (fun G20 eG20 => ?_)
  have h := h G20 eG20
  have ho21 := isO_nwE eG20 ho15
  have hb22 := base_nwE eG20 hb16
  have ho23 := isO_newE eG20 hb16
  refine wp_putR (pc := 25) d_X8_init_25 fl_X8_22 (fun _ _ _ => rfl) (Or.inr ⟨_, rfl⟩) (Or.inr ⟨rfl, rfl, rfl⟩) ho21 ?_
  refine wp_nm (fun G24 eG24 => ?_)
  have h := h G24 eG24
  have ho25 := isO_sR eG24 ho21
  have hb26 := base_sR eG24 hb22
  refine wp_aload_n (pc := 28) d_X8_init_28 rfl ?_
  refine wp_bipush (pc := 29) (v := 100) d_X8_init_29 rfl ?_
  refine wp_newa (pc := 31) (t0 := 1) (kd := 14) d_X8_init_31 rfl (fun _ q => by cases q) ac_int (by decide) (fun _ => rfl) rfl (by decide) (by decide) (by decide) ?_
  refine wp_nm (fun G30 eG30 => ?_)
  have h := h G30 eG30
  have ho31 := isO_nwE eG30 ho25
  have hb32 := base_nwE eG30 hb26
  have ho33 := isO_newE eG30 hb26
  refine wp_putR (pc := 33) d_X8_init_33 fl_X8_26 (fun _ _ _ => rfl) (Or.inr ⟨_, rfl⟩) (Or.inr ⟨rfl, rfl, rfl⟩) ho31 ?_
  refine wp_nm (fun G34 eG34 => ?_)
  have h := h G34 eG34
  have ho35 := isO_sR eG34 ho31
  have hb36 := base_sR eG34 hb32
  refine wp_aload_n (pc := 36) d_X8_init_36 rfl ?_
  refine wp_iconst (pc := 37) (v := (-1)) d_X8_init_37 rfl ?_
  refine wp_putI (pc := 38) d_X8_init_38 fl_X8_29 (fun _ _ _ => rfl) (Or.inl rfl) ho35 (okI_int _) ?_
  refine wp_nm (fun G37 eG37 => ?_)
  have h := h G37 eG37
  have ho38 := isO_sI eG37 ho35
  have hb39 := base_sI eG37 hb36
  exact wp_vret (pc := 41) d_X8_init_41 rfl h
theorem d_X8_announced_0 : decode prog_10_method_11_code 0 = .ok (.aload_n 1, 1) := by decide +kernel
theorem d_X8_announced_1 : decode prog_10_method_11_code 1 = .ok (.getfield 32, 3) := by decide +kernel
theorem d_X8_announced_4 : decode prog_10_method_11_code 4 = .ok (.bipush 8, 2) := by decide +kernel
theorem d_X8_announced_6 : decode prog_10_method_11_code 6 = .ok (.isub, 1) := by decide +kernel
theorem d_X8_announced_7 : decode prog_10_method_11_code 7 = .ok (.istore_n 2, 1) := by decide +kernel
theorem d_X8_announced_8 : decode prog_10_method_11_code 8 = .ok (.iload_n 2, 1) := by decide +kernel
theorem d_X8_announced_9 : decode prog_10_method_11_code 9 = .ok (.iconst 2, 1) := by decide +kernel
theorem d_X8_announced_10 : decode prog_10_method_11_code 10 = .ok (.if_icmp .lt 20, 3) := by decide +kernel
theorem d_X8_announced_13 : decode prog_10_method_11_code 13 = .ok (.aload_n 1, 1) := by decide +kernel
theorem d_X8_announced_14 : decode prog_10_method_11_code 14 = .ok (.iconst 0, 1) := by decide +kernel
theorem d_X8_announced_15 : decode prog_10_method_11_code 15 = .ok (.iload_n 2, 1) := by decide +kernel
theorem d_X8_announced_16 : decode prog_10_method_11_code 16 = .ok (.invokevirtual 89, 3) := by decide +kernel
theorem d_X8_announced_19 : decode prog_10_method_11_code 19 = .ok (.aload_n 1, 1) := by decide +kernel
theorem d_X8_announced_20 : decode prog_10_method_11_code 20 = .ok (.iload_n 2, 1) := by decide +kernel
theorem d_X8_announced_21 : decode prog_10_method_11_code 21 = .ok (.bipush 8, 2) := by decide +kernel
theorem d_X8_announced_23 : decode prog_10_method_11_code 23 = .ok (.invokevirtual 97, 3) := by decide +kernel
theorem d_X8_announced_26 : decode prog_10_method_11_code 26 = .ok (.lcmp, 1) := by decide +kernel
theorem d_X8_announced_27 : decode prog_10_method_11_code 27 = .ok (.ifCond .eq 5, 3) := by decide +kernel
theorem d_X8_announced_30 : decode prog_10_method_11_code 30 = .ok (.iconst (-1), 1) := by decide +kernel
theorem d_X8_announced_31 : decode prog_10_method_11_code 31 = .ok (.ireturn, 1) := by decide +kernel
theorem d_X8_announced_32 : decode prog_10_method_11_code 32 = .ok (.aload_n 1, 1) := by decide +kernel
theorem d_X8_announced_33 : decode prog_10_method_11_code 33 = .ok (.iconst 0, 1) := by decide +kernel
theorem d_X8_announced_34 : decode prog_10_method_11_code 34 = .ok (.iconst 2, 1) := by decide +kernel
theorem d_X8_announced_35 : decode prog_10_method_11_code 35 = .ok (.invokevirtual 97, 3) := by decide +kernel
theorem d_X8_announced_38 : decode prog_10_method_11_code 38 = .ok (.l2i, 1) := by decide +kernel
theorem d_X8_announced_39 : decode prog_10_method_11_code 39 = .ok (.ireturn, 1) := by decide +kernel
theorem v_X8_announced_0 {E : EE} {d : Nat} {Q : Option AV → AH → Prop} {x0 : Nat} {x1 : Nat} {G : AH} (h0 : 0 < d) (h : isO E G x1 0 ∧ ((((gI G x1 1) - 8) < 2 → Q (some (vi (-1))) G) ∧ (¬ (((gI G x1 1) - 8) < 2) → wpJ E (d - 1) M_X0_sum [vr x1, vi 0, vi ((gI G x1 1) - 8)] G (fun r2 G3 => isO E G3 x1 0 ∧ (wpJ E (d - 1) M_X0_number [vr x1, vi ((gI G x1 1) - 8), vi 8] G3 (fun r4 G5 => (r2 = r4 → isO E G5 x1 0 ∧ (wpJ E (d - 1) M_X0_number [vr x1, vi 0, vi 2] G5 (fun r6 G7 => Q (some (vi (Int64.toInt32 r6))) G7))) ∧ (¬ (r2 = r4) → Q (some (vi (-1))) G5))))))) : wp E d M_X8_announced 0 [some (vr x0), some (vr x1), none] [] G Q := by
  refine wp_aload_n (pc := 0) d_X8_announced_0 rfl ?_
  obtain ⟨ho1, h⟩ := h
  refine wp_getI (pc := 1) d_X8_announced_1 fl_X8_32 (fun _ _ _ => rfl) ho1 ?_
  refine wp_bipush (pc := 4) (v := 8) d_X8_announced_4 rfl ?_
  refine wp_isub (pc := 6) d_X8_announced_6 ?_
  refine wp_istore_n (pc := 7) (lv' := [some (vr _), some (vr _), some (vi _)]) d_X8_announced_7 (by decide) rfl ?_
  refine wp_iload_n (pc := 8) d_X8_announced_8 rfl ?_
  refine wp_iconst (pc := 9) (v := 2) d_X8_announced_9 rfl ?_
  refine wp_icmp_lt (pc := 10) (tgt := 30) d_X8_announced_10 (by decide) (fun hc => ?_) (fun hc => ?_)
  · have h := h.1 hc
    refine wp_iconst (pc := 30) (v := (-1)) d_X8_announced_30 rfl ?_
    exact wp_iret (pc := 31) d_X8_announced_31 rfl h
  · have h := h.2 hc
    refine wp_aload_n (pc := 13) d_X8_announced_13 rfl ?_
    refine wp_iconst (pc := 14) (v := 0) d_X8_announced_14 rfl ?_
    refine wp_iload_n (pc := 15) d_X8_announced_15 rfl ?_
    refine wp_invV (pc := 16) (N := M_X0_sum) (As := [vi _, vi _]) (rest := []) (r := (cn_0, ct_0, 2)) d_X8_announced_16 ml_X8_89 mk_X0_sum mv_X0_sum h0 ho1 rfl rfl (Nat.le_of_ble_eq_true rfl) ?_
    refine wpM.mono h (fun rr G3 hr => ?_)
    obtain ⟨r2, rfl, h⟩ := hr
    show wp E d M_X8_announced 19 [some (vr _), some (vr _), some (vi _)] [vj _] G3 Q
    refine wp_aload_n (pc := 19) d_X8_announced_19 rfl ?_
    refine wp_iload_n (pc := 20) d_X8_announced_20 rfl ?_
    refine wp_bipush (pc := 21) (v := 8) d_X8_announced_21 rfl ?_
    obtain ⟨ho9, h⟩ := h
    refine wp_invV (pc := 23) (N := M_X0_number) (As := [vi _, vi _]) (rest := [vj _]) (r := (cn_0, ct_0, 2)) d_X8_announced_23 ml_X8_97 mk_X0_number mv_X0_number h0 ho9 rfl rfl (Nat.le_of_ble_eq_true rfl) ?_
    refine wpM.mono h (fun rr G5 hr => ?_)
    obtain ⟨r4, rfl, h⟩ := hr
    show wp E d M_X8_announced 26 [some (vr _), some (vr _), some (vi _)] [vj _, vj _] G5 Q
    refine wp_lcmp_eq (pc := 26) (tgt := 32) d_X8_announced_26 d_X8_announced_27 (by decide) (fun hc => ?_) (fun hc => ?_)
    · have h := h.1 hc
      refine wp_aload_n (pc := 32) d_X8_announced_32 rfl ?_
      refine wp_iconst (pc := 33) (v := 0) d_X8_announced_33 rfl ?_
      refine wp_iconst (pc := 34) (v := 2) d_X8_announced_34 rfl ?_
      obtain ⟨ho8, h⟩ := h
      refine wp_invV (pc := 35) (N := M_X0_number) (As := [vi _, vi _]) (rest := []) (r := (cn_0, ct_0, 2)) d_X8_announced_35 ml_X8_97 mk_X0_number mv_X0_number h0 ho8 rfl rfl (Nat.le_of_ble_eq_true rfl) ?_
      refine wpM.mono h (fun rr G7 hr => ?_)
      obtain ⟨r6, rfl, h⟩ := hr
      show wp E d M_X8_announced 38 [some (vr _), some (vr _), some (vi _)] [vj _] G7 Q
      refine wp_l2i (pc := 38) d_X8_announced_38 ?_
      exact wp_iret (pc := 39) d_X8_announced_39 rfl h
    · have h := h.2 hc
      refine wp_iconst (pc := 30) (v := (-1)) d_X8_announced_30 rfl ?_
      exact wp_iret (pc := 31) d_X8_announced_31 rfl h
theorem d_X8_textLength_0 : decode prog_10_method_6_code 0 = .ok (.aload_n 1, 1) := by decide +kernel
theorem d_X8_textLength_1 : decode prog_10_method_6_code 1 = .ok (.iload_n 2, 1) := by decide +kernel
theorem d_X8_textLength_2 : decode prog_10_method_6_code 2 = .ok (.invokevirtual 93, 3) := by decide +kernel
theorem d_X8_textLength_5 : decode prog_10_method_6_code 5 = .ok (.sipush 211, 3) := by decide +kernel
theorem d_X8_textLength_8 : decode prog_10_method_6_code 8 = .ok (.if_icmp .ne 13, 3) := by decide +kernel
theorem d_X8_textLength_11 : decode prog_10_method_6_code 11 = .ok (.iload_n 2, 1) := by decide +kernel
theorem d_X8_textLength_12 : decode prog_10_method_6_code 12 = .ok (.iconst 3, 1) := by decide +kernel
theorem d_X8_textLength_13 : decode prog_10_method_6_code 13 = .ok (.iadd, 1) := by decide +kernel
theorem d_X8_textLength_14 : decode prog_10_method_6_code 14 = .ok (.aload_n 1, 1) := by decide +kernel
theorem d_X8_textLength_15 : decode prog_10_method_6_code 15 = .ok (.getfield 32, 3) := by decide +kernel
theorem d_X8_textLength_18 : decode prog_10_method_6_code 18 = .ok (.if_icmp .le 5, 3) := by decide +kernel
theorem d_X8_textLength_21 : decode prog_10_method_6_code 21 = .ok (.iconst (-1), 1) := by decide +kernel
theorem d_X8_textLength_22 : decode prog_10_method_6_code 22 = .ok (.ireturn, 1) := by decide +kernel
theorem d_X8_textLength_23 : decode prog_10_method_6_code 23 = .ok (.aload_n 1, 1) := by decide +kernel
theorem d_X8_textLength_24 : decode prog_10_method_6_code 24 = .ok (.iload_n 2, 1) := by decide +kernel
theorem d_X8_textLength_25 : decode prog_10_method_6_code 25 = .ok (.iconst 1, 1) := by decide +kernel
theorem d_X8_textLength_26 : decode prog_10_method_6_code 26 = .ok (.iadd, 1) := by decide +kernel
theorem d_X8_textLength_27 : decode prog_10_method_6_code 27 = .ok (.iconst 2, 1) := by decide +kernel
theorem d_X8_textLength_28 : decode prog_10_method_6_code 28 = .ok (.invokevirtual 97, 3) := by decide +kernel
theorem d_X8_textLength_31 : decode prog_10_method_6_code 31 = .ok (.l2i, 1) := by decide +kernel
theorem d_X8_textLength_32 : decode prog_10_method_6_code 32 = .ok (.istore_n 3, 1) := by decide +kernel
theorem d_X8_textLength_33 : decode prog_10_method_6_code 33 = .ok (.iload_n 2, 1) := by decide +kernel
theorem d_X8_textLength_34 : decode prog_10_method_6_code 34 = .ok (.iconst 3, 1) := by decide +kernel
theorem d_X8_textLength_35 : decode prog_10_method_6_code 35 = .ok (.iadd, 1) := by decide +kernel
theorem d_X8_textLength_36 : decode prog_10_method_6_code 36 = .ok (.iload_n 3, 1) := by decide +kernel
theorem d_X8_textLength_37 : decode prog_10_method_6_code 37 = .ok (.iadd, 1) := by decide +kernel
theorem d_X8_textLength_38 : decode prog_10_method_6_code 38 = .ok (.aload_n 1, 1) := by decide +kernel
theorem d_X8_textLength_39 : decode prog_10_method_6_code 39 = .ok (.getfield 32, 3) := by decide +kernel
theorem d_X8_textLength_42 : decode prog_10_method_6_code 42 = .ok (.if_icmp .le 7, 3) := by decide +kernel
theorem d_X8_textLength_45 : decode prog_10_method_6_code 45 = .ok (.iconst (-1), 1) := by decide +kernel
theorem d_X8_textLength_46 : decode prog_10_method_6_code 46 = .ok (.goto 4, 3) := by decide +kernel
theorem d_X8_textLength_49 : decode prog_10_method_6_code 49 = .ok (.iload_n 3, 1) := by decide +kernel
theorem d_X8_textLength_50 : decode prog_10_method_6_code 50 = .ok (.ireturn, 1) := by decide +kernel
theorem v_X8_textLength_0 {E : EE} {d : Nat} {Q : Option AV → AH → Prop} {x0 : Nat} {x1 : Nat} {x2 : Int32} {G : AH} (h0 : 0 < d) (h : isO E G x1 0 ∧ (wpI E (d - 1) M_X0_at [vr x1, vi x2] G (fun r1 G2 => (¬ r1 = 211 → Q (some (vi (-1))) G2) ∧ (r1 = 211 → isO E G2 x1 0 ∧ (((x2 + 3) ≤ (gI G2 x1 1) → wpJ E (d - 1) M_X0_number [vr x1, vi (x2 + 1), vi 2] G2 (fun r4 G5 => isO E G5 x1 0 ∧ ((((x2 + 3) + (Int64.toInt32 r4)) ≤ (gI G5 x1 1) → Q (some (vi (Int64.toInt32 r4))) G5) ∧ (¬ (((x2 + 3) + (Int64.toInt32 r4)) ≤ (gI G5 x1 1)) → Q (some (vi (-1))) G5)))) ∧ (¬ ((x2 + 3) ≤ (gI G2 x1 1)) → Q (some (vi (-1))) G2)))))) : wp E d M_X8_textLength 0 [some (vr x0), some (vr x1), some (vi x2), none] [] G Q := by
  refine wp_aload_n (pc := 0) d_X8_textLength_0 rfl ?_
  refine wp_iload_n (pc := 1) d_X8_textLength_1 rfl ?_
  obtain ⟨ho7, h⟩ := h
  refine wp_invV (pc := 2) (N := M_X0_at) (As := [vi _]) (rest := []) (r := (cn_0, ct_0, 2)) d_X8_textLength_2 ml_X8_93 mk_X0_at mv_X0_at h0 ho7 rfl rfl (Nat.le_of_ble_eq_true rfl) ?_
  refine wpM.mono h (fun rr G2 hr => ?_)
  obtain ⟨r1, rfl, h⟩ := hr
  show wp E d M_X8_textLength 5 [some (vr _), some (vr _), some (vi _), none] [vi _] G2 Q
  refine wp_sipush (pc := 5) (v := 211) d_X8_textLength_5 rfl ?_
  refine wp_icmp_ne (pc := 8) (tgt := 21) d_X8_textLength_8 (by decide) (fun hc => ?_) (fun hc => ?_)
  · have h := h.1 hc
    refine wp_iconst (pc := 21) (v := (-1)) d_X8_textLength_21 rfl ?_
    exact wp_iret (pc := 22) d_X8_textLength_22 rfl h
  · have h := h.2 hc
    refine wp_iload_n (pc := 11) d_X8_textLength_11 rfl ?_
    refine wp_iconst (pc := 12) (v := 3) d_X8_textLength_12 rfl ?_
    refine wp_iadd (pc := 13) d_X8_textLength_13 ?_
    refine wp_aload_n (pc := 14) d_X8_textLength_14 rfl ?_
    obtain ⟨ho3, h⟩ := h
    refine wp_getI (pc := 15) d_X8_textLength_15 fl_X8_32 (fun _ _ _ => rfl) ho3 ?_
    refine wp_icmp_le (pc := 18) (tgt := 23) d_X8_textLength_18 (by decide) (fun hc => ?_) (fun hc => ?_)
    · have h := h.1 hc
      refine wp_aload_n (pc := 23) d_X8_textLength_23 rfl ?_
      refine wp_iload_n (pc := 24) d_X8_textLength_24 rfl ?_
      refine wp_iconst (pc := 25) (v := 1) d_X8_textLength_25 rfl ?_
      refine wp_iadd (pc := 26) d_X8_textLength_26 ?_
      refine wp_iconst (pc := 27) (v := 2) d_X8_textLength_27 rfl ?_
      refine wp_invV (pc := 28) (N := M_X0_number) (As := [vi _, vi _]) (rest := []) (r := (cn_0, ct_0, 2)) d_X8_textLength_28 ml_X8_97 mk_X0_number mv_X0_number h0 ho3 rfl rfl (Nat.le_of_ble_eq_true rfl) ?_
      refine wpM.mono h (fun rr G5 hr => ?_)
      obtain ⟨r4, rfl, h⟩ := hr
      show wp E d M_X8_textLength 31 [some (vr _), some (vr _), some (vi _), none] [vj _] G5 Q
      refine wp_l2i (pc := 31) d_X8_textLength_31 ?_
      refine wp_istore_n (pc := 32) (lv' := [some (vr _), some (vr _), some (vi _), some (vi _)]) d_X8_textLength_32 (by decide) rfl ?_
      refine wp_iload_n (pc := 33) d_X8_textLength_33 rfl ?_
      refine wp_iconst (pc := 34) (v := 3) d_X8_textLength_34 rfl ?_
      refine wp_iadd (pc := 35) d_X8_textLength_35 ?_
      refine wp_iload_n (pc := 36) d_X8_textLength_36 rfl ?_
      refine wp_iadd (pc := 37) d_X8_textLength_37 ?_
      refine wp_aload_n (pc := 38) d_X8_textLength_38 rfl ?_
      obtain ⟨ho6, h⟩ := h
      refine wp_getI (pc := 39) d_X8_textLength_39 fl_X8_32 (fun _ _ _ => rfl) ho6 ?_
      refine wp_icmp_le (pc := 42) (tgt := 49) d_X8_textLength_42 (by decide) (fun hc => ?_) (fun hc => ?_)
      · have h := h.1 hc
        refine wp_iload_n (pc := 49) d_X8_textLength_49 rfl ?_
        exact wp_iret (pc := 50) d_X8_textLength_50 rfl h
      · have h := h.2 hc
        refine wp_iconst (pc := 45) (v := (-1)) d_X8_textLength_45 rfl ?_
        refine wp_goto (pc := 46) (tgt := 50) d_X8_textLength_46 (by decide) ?_
        exact wp_iret (pc := 50) d_X8_textLength_50 rfl h
    · have h := h.2 hc
      refine wp_iconst (pc := 21) (v := (-1)) d_X8_textLength_21 rfl ?_
      exact wp_iret (pc := 22) d_X8_textLength_22 rfl h
theorem d_X8_rowEnd_0 : decode prog_10_method_7_code 0 = .ok (.iload_n 2, 1) := by decide +kernel
theorem d_X8_rowEnd_1 : decode prog_10_method_7_code 1 = .ok (.iconst 3, 1) := by decide +kernel
theorem d_X8_rowEnd_2 : decode prog_10_method_7_code 2 = .ok (.iadd, 1) := by decide +kernel
theorem d_X8_rowEnd_3 : decode prog_10_method_7_code 3 = .ok (.aload_n 3, 1) := by decide +kernel
theorem d_X8_rowEnd_4 : decode prog_10_method_7_code 4 = .ok (.getfield 35, 3) := by decide +kernel
theorem d_X8_rowEnd_7 : decode prog_10_method_7_code 7 = .ok (.getfield 32, 3) := by decide +kernel
theorem d_X8_rowEnd_10 : decode prog_10_method_7_code 10 = .ok (.iadd, 1) := by decide +kernel
theorem d_X8_rowEnd_11 : decode prog_10_method_7_code 11 = .ok (.istore 4, 2) := by decide +kernel
theorem d_X8_rowEnd_13 : decode prog_10_method_7_code 13 = .ok (.iload 4, 2) := by decide +kernel
theorem d_X8_rowEnd_15 : decode prog_10_method_7_code 15 = .ok (.aload_n 3, 1) := by decide +kernel
theorem d_X8_rowEnd_16 : decode prog_10_method_7_code 16 = .ok (.invokestatic 40, 3) := by decide +kernel
theorem d_X8_rowEnd_19 : decode prog_10_method_7_code 19 = .ok (.iadd, 1) := by decide +kernel
theorem d_X8_rowEnd_20 : decode prog_10_method_7_code 20 = .ok (.istore 5, 2) := by decide +kernel
theorem d_X8_rowEnd_22 : decode prog_10_method_7_code 22 = .ok (.iload 5, 2) := by decide +kernel
theorem d_X8_rowEnd_24 : decode prog_10_method_7_code 24 = .ok (.bipush 8, 2) := by decide +kernel
theorem d_X8_rowEnd_26 : decode prog_10_method_7_code 26 = .ok (.iadd, 1) := by decide +kernel
theorem d_X8_rowEnd_27 : decode prog_10_method_7_code 27 = .ok (.aload_n 1, 1) := by decide +kernel
theorem d_X8_rowEnd_28 : decode prog_10_method_7_code 28 = .ok (.getfield 32, 3) := by decide +kernel
theorem d_X8_rowEnd_31 : decode prog_10_method_7_code 31 = .ok (.bipush 8, 2) := by decide +kernel
theorem d_X8_rowEnd_33 : decode prog_10_method_7_code 33 = .ok (.isub, 1) := by decide +kernel
theorem d_X8_rowEnd_34 : decode prog_10_method_7_code 34 = .ok (.if_icmp .le 5, 3) := by decide +kernel
theorem d_X8_rowEnd_37 : decode prog_10_method_7_code 37 = .ok (.iconst (-1), 1) := by decide +kernel
theorem d_X8_rowEnd_38 : decode prog_10_method_7_code 38 = .ok (.ireturn, 1) := by decide +kernel
theorem d_X8_rowEnd_39 : decode prog_10_method_7_code 39 = .ok (.aload_n 1, 1) := by decide +kernel
theorem d_X8_rowEnd_40 : decode prog_10_method_7_code 40 = .ok (.iload_n 2, 1) := by decide +kernel
theorem d_X8_rowEnd_41 : decode prog_10_method_7_code 41 = .ok (.iload 5, 2) := by decide +kernel
theorem d_X8_rowEnd_43 : decode prog_10_method_7_code 43 = .ok (.invokevirtual 89, 3) := by decide +kernel
theorem d_X8_rowEnd_46 : decode prog_10_method_7_code 46 = .ok (.aload_n 1, 1) := by decide +kernel
theorem d_X8_rowEnd_47 : decode prog_10_method_7_code 47 = .ok (.iload 5, 2) := by decide +kernel
theorem d_X8_rowEnd_49 : decode prog_10_method_7_code 49 = .ok (.bipush 8, 2) := by decide +kernel
theorem d_X8_rowEnd_51 : decode prog_10_method_7_code 51 = .ok (.invokevirtual 97, 3) := by decide +kernel
theorem d_X8_rowEnd_54 : decode prog_10_method_7_code 54 = .ok (.lcmp, 1) := by decide +kernel
theorem d_X8_rowEnd_55 : decode prog_10_method_7_code 55 = .ok (.ifCond .ne 14, 3) := by decide +kernel
theorem d_X8_rowEnd_58 : decode prog_10_method_7_code 58 = .ok (.aload_n 0, 1) := by decide +kernel
theorem d_X8_rowEnd_59 : decode prog_10_method_7_code 59 = .ok (.aload_n 1, 1) := by decide +kernel
theorem d_X8_rowEnd_60 : decode prog_10_method_7_code 60 = .ok (.iload 4, 2) := by decide +kernel
theorem d_X8_rowEnd_62 : decode prog_10_method_7_code 62 = .ok (.aload_n 3, 1) := by decide +kernel
theorem d_X8_rowEnd_63 : decode prog_10_method_7_code 63 = .ok (.invokevirtual 100, 3) := by decide +kernel
theorem d_X8_rowEnd_66 : decode prog_10_method_7_code 66 = .ok (.ifCond .ne 5, 3) := by decide +kernel
theorem d_X8_rowEnd_69 : decode prog_10_method_7_code 69 = .ok (.iconst (-1), 1) := by decide +kernel
theorem d_X8_rowEnd_70 : decode prog_10_method_7_code 70 = .ok (.ireturn, 1) := by decide +kernel
theorem d_X8_rowEnd_71 : decode prog_10_method_7_code 71 = .ok (.iload 5, 2) := by decide +kernel
theorem d_X8_rowEnd_73 : decode prog_10_method_7_code 73 = .ok (.bipush 8, 2) := by decide +kernel
theorem d_X8_rowEnd_75 : decode prog_10_method_7_code 75 = .ok (.iadd, 1) := by decide +kernel
theorem d_X8_rowEnd_76 : decode prog_10_method_7_code 76 = .ok (.ireturn, 1) := by decide +kernel
theorem v_X8_rowEnd_0 {E : EE} {d : Nat} {Q : Option AV → AH → Prop} {x0 : Nat} {x1 : Nat} {x2 : Int32} {x3 : Nat} {G : AH} (h0 : 0 < d) (h : isO E G x3 3 ∧ (isO E G (gR G x3 1) 0 ∧ (wpI E (d - 1) M_X8_stateLength [vr x3] G (fun r3 G4 => isO E G4 x1 0 ∧ ((((((x2 + 3) + (gI G (gR G x3 1) 1)) + r3) + 8) ≤ ((gI G4 x1 1) - 8) → wpJ E (d - 1) M_X0_sum [vr x1, vi x2, vi (((x2 + 3) + (gI G (gR G x3 1) 1)) + r3)] G4 (fun r6 G7 => isO E G7 x1 0 ∧ (wpJ E (d - 1) M_X0_number [vr x1, vi (((x2 + 3) + (gI G (gR G x3 1) 1)) + r3), vi 8] G7 (fun r8 G9 => (¬ r6 = r8 → Q (some (vi (-1))) G9) ∧ (r6 = r8 → isO E G9 x0 8 ∧ (wpI E (d - 1) M_X8_restore [vr x0, vr x1, vi ((x2 + 3) + (gI G (gR G x3 1) 1)), vr x3] G9 (fun r10 G11 => (¬ r10 = 0 → Q (some (vi ((((x2 + 3) + (gI G (gR G x3 1) 1)) + r3) + 8))) G11) ∧ (r10 = 0 → Q (some (vi (-1))) G11)))))))) ∧ (¬ (((((x2 + 3) + (gI G (gR G x3 1) 1)) + r3) + 8) ≤ ((gI G4 x1 1) - 8)) → Q (some (vi (-1))) G4)))))) : wp E d M_X8_rowEnd 0 [some (vr x0), some (vr x1), some (vi x2), some (vr x3), none, none] [] G Q := by
  refine wp_iload_n (pc := 0) d_X8_rowEnd_0 rfl ?_
  refine wp_iconst (pc := 1) (v := 3) d_X8_rowEnd_1 rfl ?_
  refine wp_iadd (pc := 2) d_X8_rowEnd_2 ?_
  refine wp_aload_n (pc := 3) d_X8_rowEnd_3 rfl ?_
  obtain ⟨ho1, h⟩ := h
  refine wp_getR (pc := 4) d_X8_rowEnd_4 fl_X8_35 (fun _ _ _ => rfl) ho1 ?_
  obtain ⟨ho2, h⟩ := h
  refine wp_getI (pc := 7) d_X8_rowEnd_7 fl_X8_32 (fun _ _ _ => rfl) ho2 ?_
  refine wp_iadd (pc := 10) d_X8_rowEnd_10 ?_
  refine wp_istore (pc := 11) (lv' := [some (vr _), some (vr _), some (vi _), some (vr _), some (vi _), none]) d_X8_rowEnd_11 (by decide) rfl ?_
  refine wp_iload (pc := 13) d_X8_rowEnd_13 rfl ?_
  refine wp_aload_n (pc := 15) d_X8_rowEnd_15 rfl ?_
  refine wp_invS (pc := 16) (N := M_X8_stateLength) (As := [vr _]) (rest := [vi _]) d_X8_rowEnd_16 ml_X8_40 mk_X8_stateLength ms_X8_stateLength h0 (Nat.le_of_ble_eq_true rfl) ?_
  refine wpM.mono h (fun rr G4 hr => ?_)
  obtain ⟨r3, rfl, h⟩ := hr
  show wp E d M_X8_rowEnd 19 [some (vr _), some (vr _), some (vi _), some (vr _), some (vi _), none] [vi _, vi _] G4 Q
  refine wp_iadd (pc := 19) d_X8_rowEnd_19 ?_
  refine wp_istore (pc := 20) (lv' := [some (vr _), some (vr _), some (vi _), some (vr _), some (vi _), some (vi _)]) d_X8_rowEnd_20 (by decide) rfl ?_
  refine wp_iload (pc := 22) d_X8_rowEnd_22 rfl ?_
  refine wp_bipush (pc := 24) (v := 8) d_X8_rowEnd_24 rfl ?_
  refine wp_iadd (pc := 26) d_X8_rowEnd_26 ?_
  refine wp_aload_n (pc := 27) d_X8_rowEnd_27 rfl ?_
  obtain ⟨ho5, h⟩ := h
  refine wp_getI (pc := 28) d_X8_rowEnd_28 fl_X8_32 (fun _ _ _ => rfl) ho5 ?_
  refine wp_bipush (pc := 31) (v := 8) d_X8_rowEnd_31 rfl ?_
  refine wp_isub (pc := 33) d_X8_rowEnd_33 ?_
  refine wp_icmp_le (pc := 34) (tgt := 39) d_X8_rowEnd_34 (by decide) (fun hc => ?_) (fun hc => ?_)
  · have h := h.1 hc
    refine wp_aload_n (pc := 39) d_X8_rowEnd_39 rfl ?_
    refine wp_iload_n (pc := 40) d_X8_rowEnd_40 rfl ?_
    refine wp_iload (pc := 41) d_X8_rowEnd_41 rfl ?_
    refine wp_invV (pc := 43) (N := M_X0_sum) (As := [vi _, vi _]) (rest := []) (r := (cn_0, ct_0, 2)) d_X8_rowEnd_43 ml_X8_89 mk_X0_sum mv_X0_sum h0 ho5 rfl rfl (Nat.le_of_ble_eq_true rfl) ?_
    refine wpM.mono h (fun rr G7 hr => ?_)
    obtain ⟨r6, rfl, h⟩ := hr
    show wp E d M_X8_rowEnd 46 [some (vr _), some (vr _), some (vi _), some (vr _), some (vi _), some (vi _)] [vj _] G7 Q
    refine wp_aload_n (pc := 46) d_X8_rowEnd_46 rfl ?_
    refine wp_iload (pc := 47) d_X8_rowEnd_47 rfl ?_
    refine wp_bipush (pc := 49) (v := 8) d_X8_rowEnd_49 rfl ?_
    obtain ⟨ho13, h⟩ := h
    refine wp_invV (pc := 51) (N := M_X0_number) (As := [vi _, vi _]) (rest := [vj _]) (r := (cn_0, ct_0, 2)) d_X8_rowEnd_51 ml_X8_97 mk_X0_number mv_X0_number h0 ho13 rfl rfl (Nat.le_of_ble_eq_true rfl) ?_
    refine wpM.mono h (fun rr G9 hr => ?_)
    obtain ⟨r8, rfl, h⟩ := hr
    show wp E d M_X8_rowEnd 54 [some (vr _), some (vr _), some (vi _), some (vr _), some (vi _), some (vi _)] [vj _, vj _] G9 Q
    refine wp_lcmp_ne (pc := 54) (tgt := 69) d_X8_rowEnd_54 d_X8_rowEnd_55 (by decide) (fun hc => ?_) (fun hc => ?_)
    · have h := h.1 hc
      refine wp_iconst (pc := 69) (v := (-1)) d_X8_rowEnd_69 rfl ?_
      exact wp_iret (pc := 70) d_X8_rowEnd_70 rfl h
    · have h := h.2 hc
      refine wp_aload_n (pc := 58) d_X8_rowEnd_58 rfl ?_
      refine wp_aload_n (pc := 59) d_X8_rowEnd_59 rfl ?_
      refine wp_iload (pc := 60) d_X8_rowEnd_60 rfl ?_
      refine wp_aload_n (pc := 62) d_X8_rowEnd_62 rfl ?_
      obtain ⟨ho12, h⟩ := h
      refine wp_invV (pc := 63) (N := M_X8_restore) (As := [vr _, vi _, vr _]) (rest := []) (r := (cn_8, ct_8, 5)) d_X8_rowEnd_63 ml_X8_100 mk_X8_restore mv_X8_restore h0 ho12 rfl rfl (Nat.le_of_ble_eq_true rfl) ?_
      refine wpM.mono h (fun rr G11 hr => ?_)
      obtain ⟨r10, rfl, h⟩ := hr
      show wp E d M_X8_rowEnd 66 [some (vr _), some (vr _), some (vi _), some (vr _), some (vi _), some (vi _)] [vi _] G11 Q
      refine wp_if_ne (pc := 66) (tgt := 71) d_X8_rowEnd_66 (by decide) (fun hc => ?_) (fun hc => ?_)
      · have h := h.1 hc
        refine wp_iload (pc := 71) d_X8_rowEnd_71 rfl ?_
        refine wp_bipush (pc := 73) (v := 8) d_X8_rowEnd_73 rfl ?_
        refine wp_iadd (pc := 75) d_X8_rowEnd_75 ?_
        exact wp_iret (pc := 76) d_X8_rowEnd_76 rfl h
      · have h := h.2 hc
        refine wp_iconst (pc := 69) (v := (-1)) d_X8_rowEnd_69 rfl ?_
        exact wp_iret (pc := 70) d_X8_rowEnd_70 rfl h
  · have h := h.2 hc
    refine wp_iconst (pc := 37) (v := (-1)) d_X8_rowEnd_37 rfl ?_
    exact wp_iret (pc := 38) d_X8_rowEnd_38 rfl h
theorem d_X8_stateLength_0 : decode prog_10_method_5_code 0 = .ok (.iconst 4, 1) := by decide +kernel
theorem d_X8_stateLength_1 : decode prog_10_method_5_code 1 = .ok (.aload_n 0, 1) := by decide +kernel
theorem d_X8_stateLength_2 : decode prog_10_method_5_code 2 = .ok (.getfield 61, 3) := by decide +kernel
theorem d_X8_stateLength_5 : decode prog_10_method_5_code 5 = .ok (.iconst 0, 1) := by decide +kernel
theorem d_X8_stateLength_6 : decode prog_10_method_5_code 6 = .ok (.iaload, 1) := by decide +kernel
theorem d_X8_stateLength_7 : decode prog_10_method_5_code 7 = .ok (.imul, 1) := by decide +kernel
theorem d_X8_stateLength_8 : decode prog_10_method_5_code 8 = .ok (.iconst 3, 1) := by decide +kernel
theorem d_X8_stateLength_9 : decode prog_10_method_5_code 9 = .ok (.aload_n 0, 1) := by decide +kernel
theorem d_X8_stateLength_10 : decode prog_10_method_5_code 10 = .ok (.getfield 67, 3) := by decide +kernel
theorem d_X8_stateLength_13 : decode prog_10_method_5_code 13 = .ok (.getfield 71, 3) := by decide +kernel
theorem d_X8_stateLength_16 : decode prog_10_method_5_code 16 = .ok (.imul, 1) := by decide +kernel
theorem d_X8_stateLength_17 : decode prog_10_method_5_code 17 = .ok (.iadd, 1) := by decide +kernel
theorem d_X8_stateLength_18 : decode prog_10_method_5_code 18 = .ok (.iconst 2, 1) := by decide +kernel
theorem d_X8_stateLength_19 : decode prog_10_method_5_code 19 = .ok (.iadd, 1) := by decide +kernel
theorem d_X8_stateLength_20 : decode prog_10_method_5_code 20 = .ok (.ireturn, 1) := by decide +kernel
theorem v_X8_stateLength_0 {E : EE} {d : Nat} {Q : Option AV → AH → Prop} {x0 : Nat} {G : AH} (h : isO E G x0 3 ∧ (isO E G (gR G x0 3) 14 ∧ (vp_in 0 (gN G (gR G x0 3)) ∧ (isO E G (gR G x0 4) 7 ∧ (Q (some (vi (((4 * (gI G (gR G x0 3) (Int32.toNatClampNeg 0))) + (3 * (gI G (gR G x0 4) 0))) + 2))) G))))) : wp E d M_X8_stateLength 0 [some (vr x0)] [] G Q := by
  refine wp_iconst (pc := 0) (v := 4) d_X8_stateLength_0 rfl ?_
  refine wp_aload_n (pc := 1) d_X8_stateLength_1 rfl ?_
  obtain ⟨ho1, h⟩ := h
  refine wp_getR (pc := 2) d_X8_stateLength_2 fl_X8_61 (fun _ _ _ => rfl) ho1 ?_
  refine wp_iconst (pc := 5) (v := 0) d_X8_stateLength_5 rfl ?_
  obtain ⟨ho2, h⟩ := h
  obtain ⟨hi3, h⟩ := h
  refine wp_iald (pc := 6) d_X8_stateLength_6 ho2 hi3 ?_
  refine wp_imul (pc := 7) d_X8_stateLength_7 ?_
  refine wp_iconst (pc := 8) (v := 3) d_X8_stateLength_8 rfl ?_
  refine wp_aload_n (pc := 9) d_X8_stateLength_9 rfl ?_
  refine wp_getR (pc := 10) d_X8_stateLength_10 fl_X8_67 (fun _ _ _ => rfl) ho1 ?_
  obtain ⟨ho4, h⟩ := h
  refine wp_getI (pc := 13) d_X8_stateLength_13 fl_X8_71 (fun _ _ _ => rfl) ho4 ?_
  refine wp_imul (pc := 16) d_X8_stateLength_16 ?_
  refine wp_iadd (pc := 17) d_X8_stateLength_17 ?_
  refine wp_iconst (pc := 18) (v := 2) d_X8_stateLength_18 rfl ?_
  refine wp_iadd (pc := 19) d_X8_stateLength_19 ?_
  exact wp_iret (pc := 20) d_X8_stateLength_20 rfl h
theorem d_X8_restore_0 : decode prog_10_method_8_code 0 = .ok (.iload_n 2, 1) := by decide +kernel
theorem d_X8_restore_1 : decode prog_10_method_8_code 1 = .ok (.istore 4, 2) := by decide +kernel
theorem d_X8_restore_3 : decode prog_10_method_8_code 3 = .ok (.iconst 0, 1) := by decide +kernel
theorem d_X8_restore_4 : decode prog_10_method_8_code 4 = .ok (.istore 5, 2) := by decide +kernel
theorem d_X8_restore_6 : decode prog_10_method_8_code 6 = .ok (.iload 5, 2) := by decide +kernel
theorem d_X8_restore_8 : decode prog_10_method_8_code 8 = .ok (.aload_n 3, 1) := by decide +kernel
theorem d_X8_restore_9 : decode prog_10_method_8_code 9 = .ok (.getfield 61, 3) := by decide +kernel
theorem d_X8_restore_12 : decode prog_10_method_8_code 12 = .ok (.iconst 0, 1) := by decide +kernel
theorem d_X8_restore_13 : decode prog_10_method_8_code 13 = .ok (.iaload, 1) := by decide +kernel
theorem d_X8_restore_14 : decode prog_10_method_8_code 14 = .ok (.if_icmp .ge 55, 3) := by decide +kernel
theorem d_X8_restore_17 : decode prog_10_method_8_code 17 = .ok (.aload_n 3, 1) := by decide +kernel
theorem d_X8_restore_18 : decode prog_10_method_8_code 18 = .ok (.getfield 64, 3) := by decide +kernel
theorem d_X8_restore_21 : decode prog_10_method_8_code 21 = .ok (.iload 5, 2) := by decide +kernel
theorem d_X8_restore_23 : decode prog_10_method_8_code 23 = .ok (.aload_n 1, 1) := by decide +kernel
theorem d_X8_restore_24 : decode prog_10_method_8_code 24 = .ok (.iload 4, 2) := by decide +kernel
theorem d_X8_restore_26 : decode prog_10_method_8_code 26 = .ok (.iconst 4, 1) := by decide +kernel
theorem d_X8_restore_27 : decode prog_10_method_8_code 27 = .ok (.invokevirtual 97, 3) := by decide +kernel
theorem d_X8_restore_30 : decode prog_10_method_8_code 30 = .ok (.l2i, 1) := by decide +kernel
theorem d_X8_restore_31 : decode prog_10_method_8_code 31 = .ok (.iastore, 1) := by decide +kernel
theorem d_X8_restore_32 : decode prog_10_method_8_code 32 = .ok (.aload_n 3, 1) := by decide +kernel
theorem d_X8_restore_33 : decode prog_10_method_8_code 33 = .ok (.getfield 64, 3) := by decide +kernel
theorem d_X8_restore_36 : decode prog_10_method_8_code 36 = .ok (.iload 5, 2) := by decide +kernel
theorem d_X8_restore_38 : decode prog_10_method_8_code 38 = .ok (.iaload, 1) := by decide +kernel
theorem d_X8_restore_39 : decode prog_10_method_8_code 39 = .ok (.sipush (-9999), 3) := by decide +kernel
theorem d_X8_restore_42 : decode prog_10_method_8_code 42 = .ok (.if_icmp .lt 16, 3) := by decide +kernel
theorem d_X8_restore_45 : decode prog_10_method_8_code 45 = .ok (.aload_n 3, 1) := by decide +kernel
theorem d_X8_restore_46 : decode prog_10_method_8_code 46 = .ok (.getfield 64, 3) := by decide +kernel
theorem d_X8_restore_49 : decode prog_10_method_8_code 49 = .ok (.iload 5, 2) := by decide +kernel
theorem d_X8_restore_51 : decode prog_10_method_8_code 51 = .ok (.iaload, 1) := by decide +kernel
theorem d_X8_restore_52 : decode prog_10_method_8_code 52 = .ok (.sipush 9999, 3) := by decide +kernel
theorem d_X8_restore_55 : decode prog_10_method_8_code 55 = .ok (.if_icmp .le 5, 3) := by decide +kernel
theorem d_X8_restore_58 : decode prog_10_method_8_code 58 = .ok (.iconst 0, 1) := by decide +kernel
theorem d_X8_restore_59 : decode prog_10_method_8_code 59 = .ok (.ireturn, 1) := by decide +kernel
theorem d_X8_restore_60 : decode prog_10_method_8_code 60 = .ok (.iinc 4 4, 3) := by decide +kernel
theorem d_X8_restore_63 : decode prog_10_method_8_code 63 = .ok (.iinc 5 1, 3) := by decide +kernel
theorem d_X8_restore_66 : decode prog_10_method_8_code 66 = .ok (.goto (-60), 3) := by decide +kernel
theorem d_X8_restore_69 : decode prog_10_method_8_code 69 = .ok (.iconst 0, 1) := by decide +kernel
theorem d_X8_restore_70 : decode prog_10_method_8_code 70 = .ok (.istore 5, 2) := by decide +kernel
theorem d_X8_restore_72 : decode prog_10_method_8_code 72 = .ok (.iload 5, 2) := by decide +kernel
theorem d_X8_restore_74 : decode prog_10_method_8_code 74 = .ok (.aload_n 3, 1) := by decide +kernel
theorem d_X8_restore_75 : decode prog_10_method_8_code 75 = .ok (.getfield 67, 3) := by decide +kernel
theorem d_X8_restore_78 : decode prog_10_method_8_code 78 = .ok (.getfield 71, 3) := by decide +kernel
theorem d_X8_restore_81 : decode prog_10_method_8_code 81 = .ok (.if_icmp .ge 85, 3) := by decide +kernel
theorem d_X8_restore_84 : decode prog_10_method_8_code 84 = .ok (.aload_n 3, 1) := by decide +kernel
theorem d_X8_restore_85 : decode prog_10_method_8_code 85 = .ok (.getfield 67, 3) := by decide +kernel
theorem d_X8_restore_88 : decode prog_10_method_8_code 88 = .ok (.iload 5, 2) := by decide +kernel
theorem d_X8_restore_90 : decode prog_10_method_8_code 90 = .ok (.aload_n 1, 1) := by decide +kernel
theorem d_X8_restore_91 : decode prog_10_method_8_code 91 = .ok (.iload 4, 2) := by decide +kernel
theorem d_X8_restore_93 : decode prog_10_method_8_code 93 = .ok (.invokevirtual 93, 3) := by decide +kernel
theorem d_X8_restore_96 : decode prog_10_method_8_code 96 = .ok (.i2b, 1) := by decide +kernel
theorem d_X8_restore_97 : decode prog_10_method_8_code 97 = .ok (.invokevirtual 104, 3) := by decide +kernel
theorem d_X8_restore_100 : decode prog_10_method_8_code 100 = .ok (.istore 6, 2) := by decide +kernel
theorem d_X8_restore_102 : decode prog_10_method_8_code 102 = .ok (.aload_n 1, 1) := by decide +kernel
theorem d_X8_restore_103 : decode prog_10_method_8_code 103 = .ok (.iload 4, 2) := by decide +kernel
theorem d_X8_restore_105 : decode prog_10_method_8_code 105 = .ok (.iconst 1, 1) := by decide +kernel
theorem d_X8_restore_106 : decode prog_10_method_8_code 106 = .ok (.iadd, 1) := by decide +kernel
theorem d_X8_restore_107 : decode prog_10_method_8_code 107 = .ok (.iconst 2, 1) := by decide +kernel
theorem d_X8_restore_108 : decode prog_10_method_8_code 108 = .ok (.invokevirtual 97, 3) := by decide +kernel
theorem d_X8_restore_111 : decode prog_10_method_8_code 111 = .ok (.l2i, 1) := by decide +kernel
theorem d_X8_restore_112 : decode prog_10_method_8_code 112 = .ok (.istore 7, 2) := by decide +kernel
theorem d_X8_restore_114 : decode prog_10_method_8_code 114 = .ok (.iload 6, 2) := by decide +kernel
theorem d_X8_restore_116 : decode prog_10_method_8_code 116 = .ok (.ifCond .lt 11, 3) := by decide +kernel
theorem d_X8_restore_119 : decode prog_10_method_8_code 119 = .ok (.iload 7, 2) := by decide +kernel
theorem d_X8_restore_121 : decode prog_10_method_8_code 121 = .ok (.sipush 1000, 3) := by decide +kernel
theorem d_X8_restore_124 : decode prog_10_method_8_code 124 = .ok (.if_icmp .le 5, 3) := by decide +kernel
theorem d_X8_restore_127 : decode prog_10_method_8_code 127 = .ok (.iconst 0, 1) := by decide +kernel
theorem d_X8_restore_128 : decode prog_10_method_8_code 128 = .ok (.ireturn, 1) := by decide +kernel
theorem d_X8_restore_129 : decode prog_10_method_8_code 129 = .ok (.aload_n 3, 1) := by decide +kernel
theorem d_X8_restore_130 : decode prog_10_method_8_code 130 = .ok (.aload_n 3, 1) := by decide +kernel
theorem d_X8_restore_131 : decode prog_10_method_8_code 131 = .ok (.getfield 67, 3) := by decide +kernel
theorem d_X8_restore_134 : decode prog_10_method_8_code 134 = .ok (.aload_n 3, 1) := by decide +kernel
theorem d_X8_restore_135 : decode prog_10_method_8_code 135 = .ok (.getfield 76, 3) := by decide +kernel
theorem d_X8_restore_138 : decode prog_10_method_8_code 138 = .ok (.iload 5, 2) := by decide +kernel
theorem d_X8_restore_140 : decode prog_10_method_8_code 140 = .ok (.iload 6, 2) := by decide +kernel
theorem d_X8_restore_142 : decode prog_10_method_8_code 142 = .ok (.invokevirtual 107, 3) := by decide +kernel
theorem d_X8_restore_145 : decode prog_10_method_8_code 145 = .ok (.putfield 76, 3) := by decide +kernel
theorem d_X8_restore_148 : decode prog_10_method_8_code 148 = .ok (.aload_n 3, 1) := by decide +kernel
theorem d_X8_restore_149 : decode prog_10_method_8_code 149 = .ok (.getfield 83, 3) := by decide +kernel
theorem d_X8_restore_152 : decode prog_10_method_8_code 152 = .ok (.iload 5, 2) := by decide +kernel
theorem d_X8_restore_154 : decode prog_10_method_8_code 154 = .ok (.iload 7, 2) := by decide +kernel
theorem d_X8_restore_156 : decode prog_10_method_8_code 156 = .ok (.iastore, 1) := by decide +kernel
theorem d_X8_restore_157 : decode prog_10_method_8_code 157 = .ok (.iinc 4 3, 3) := by decide +kernel
theorem d_X8_restore_160 : decode prog_10_method_8_code 160 = .ok (.iinc 5 1, 3) := by decide +kernel
theorem d_X8_restore_163 : decode prog_10_method_8_code 163 = .ok (.goto (-91), 3) := by decide +kernel
theorem d_X8_restore_166 : decode prog_10_method_8_code 166 = .ok (.aload_n 3, 1) := by decide +kernel
theorem d_X8_restore_167 : decode prog_10_method_8_code 167 = .ok (.aload_n 1, 1) := by decide +kernel
theorem d_X8_restore_168 : decode prog_10_method_8_code 168 = .ok (.iload 4, 2) := by decide +kernel
theorem d_X8_restore_170 : decode prog_10_method_8_code 170 = .ok (.iconst 2, 1) := by decide +kernel
theorem d_X8_restore_171 : decode prog_10_method_8_code 171 = .ok (.invokevirtual 97, 3) := by decide +kernel
theorem d_X8_restore_174 : decode prog_10_method_8_code 174 = .ok (.l2i, 1) := by decide +kernel
theorem d_X8_restore_175 : decode prog_10_method_8_code 175 = .ok (.putfield 86, 3) := by decide +kernel
theorem d_X8_restore_178 : decode prog_10_method_8_code 178 = .ok (.aload_n 3, 1) := by decide +kernel
theorem d_X8_restore_179 : decode prog_10_method_8_code 179 = .ok (.getfield 86, 3) := by decide +kernel
theorem d_X8_restore_182 : decode prog_10_method_8_code 182 = .ok (.aload_n 3, 1) := by decide +kernel
theorem d_X8_restore_183 : decode prog_10_method_8_code 183 = .ok (.getfield 67, 3) := by decide +kernel
theorem d_X8_restore_186 : decode prog_10_method_8_code 186 = .ok (.getfield 71, 3) := by decide +kernel
theorem d_X8_restore_189 : decode prog_10_method_8_code 189 = .ok (.ishr, 1) := by decide +kernel
theorem d_X8_restore_190 : decode prog_10_method_8_code 190 = .ok (.ifCond .ne 7, 3) := by decide +kernel
theorem d_X8_restore_193 : decode prog_10_method_8_code 193 = .ok (.iconst 1, 1) := by decide +kernel
theorem d_X8_restore_194 : decode prog_10_method_8_code 194 = .ok (.goto 4, 3) := by decide +kernel
theorem d_X8_restore_197 : decode prog_10_method_8_code 197 = .ok (.iconst 0, 1) := by decide +kernel
theorem d_X8_restore_198 : decode prog_10_method_8_code 198 = .ok (.ireturn, 1) := by decide +kernel
theorem v_X8_restore_0 {E : EE} {d : Nat} {Q : Option AV → AH → Prop} {x0 : Nat} {x1 : Nat} {x2 : Int32} {x3 : Nat} {G : AH} (h : wp E d M_X8_restore 6 [some (vr x0), some (vr x1), some (vi x2), some (vr x3), some (vi x2), some (vi 0), none, none] [] G Q) : wp E d M_X8_restore 0 [some (vr x0), some (vr x1), some (vi x2), some (vr x3), none, none, none, none] [] G Q := by
  refine wp_iload_n (pc := 0) d_X8_restore_0 rfl ?_
  refine wp_istore (pc := 1) (lv' := [some (vr _), some (vr _), some (vi _), some (vr _), some (vi _), none, none, none]) d_X8_restore_1 (by decide) rfl ?_
  refine wp_iconst (pc := 3) (v := 0) d_X8_restore_3 rfl ?_
  refine wp_istore (pc := 4) (lv' := [some (vr _), some (vr _), some (vi _), some (vr _), some (vi _), some (vi _), none, none]) d_X8_restore_4 (by decide) rfl ?_
  refine wp_sub ?_ h
  exact ⟨rfl, ⟨rfl, ⟨rfl, ⟨rfl, ⟨rfl, ⟨rfl, trivial⟩⟩⟩⟩⟩⟩
theorem v_X8_restore_6 {E : EE} {d : Nat} {Q : Option AV → AH → Prop} {x0 : Nat} {x1 : Nat} {x2 : Int32} {x3 : Nat} {x4 : Int32} {x5 : Int32} {G : AH} (h0 : 0 < d) (h : isO E G x3 3 ∧ (isO E G (gR G x3 3) 14 ∧ (vp_in 0 (gN G (gR G x3 3)) ∧ (((gI G (gR G x3 3) (Int32.toNatClampNeg 0)) ≤ x5 → wp E d M_X8_restore 72 [some (vr x0), some (vr x1), some (vi x2), some (vr x3), some (vi x4), some (vi 0), none, none] [] G Q) ∧ (¬ ((gI G (gR G x3 3) (Int32.toNatClampNeg 0)) ≤ x5) → isO E G x1 0 ∧ (wpJ E (d - 1) M_X0_number [vr x1, vi x4, vi 4] G (fun r4 G5 => isO E G5 (gR G x3 7) 14 ∧ (vp_in x5 (gN G5 (gR G x3 7)) ∧ (isO E G5 x3 3 ∧ (isO E G5 (gR G5 x3 7) 14 ∧ (vp_in x5 (gN G5 (gR G5 x3 7)) ∧ (((gI (sI G5 (gR G x3 7) (Int32.toNatClampNeg x5) (Int64.toInt32 r4)) (gR G5 x3 7) (Int32.toNatClampNeg x5)) < (-9999) → Q (some (vi 0)) (sI G5 (gR G x3 7) (Int32.toNatClampNeg x5) (Int64.toInt32 r4))) ∧ (¬ ((gI (sI G5 (gR G x3 7) (Int32.toNatClampNeg x5) (Int64.toInt32 r4)) (gR G5 x3 7) (Int32.toNatClampNeg x5)) < (-9999)) → vp_in x5 (gN G5 (gR G5 x3 7)) ∧ (((gI (sI G5 (gR G x3 7) (Int32.toNatClampNeg x5) (Int64.toInt32 r4)) (gR G5 x3 7) (Int32.toNatClampNeg x5)) ≤ 9999 → wp E d M_X8_restore 6 [some (vr x0), some (vr x1), some (vi x2), some (vr x3), some (vi (x4 + 4)), some (vi (x5 + 1)), none, none] [] (sI G5 (gR G x3 7) (Int32.toNatClampNeg x5) (Int64.toInt32 r4)) Q) ∧ (¬ ((gI (sI G5 (gR G x3 7) (Int32.toNatClampNeg x5) (Int64.toInt32 r4)) (gR G5 x3 7) (Int32.toNatClampNeg x5)) ≤ 9999) → Q (some (vi 0)) (sI G5 (gR G x3 7) (Int32.toNatClampNeg x5) (Int64.toInt32 r4))))))))))))))))) : wp E d M_X8_restore 6 [some (vr x0), some (vr x1), some (vi x2), some (vr x3), some (vi x4), some (vi x5), none, none] [] G Q := by
  refine wp_iload (pc := 6) d_X8_restore_6 rfl ?_
  refine wp_aload_n (pc := 8) d_X8_restore_8 rfl ?_
  obtain ⟨ho1, h⟩ := h
  refine wp_getR (pc := 9) d_X8_restore_9 fl_X8_61 (fun _ _ _ => rfl) ho1 ?_
  refine wp_iconst (pc := 12) (v := 0) d_X8_restore_12 rfl ?_
  obtain ⟨ho2, h⟩ := h
  obtain ⟨hi3, h⟩ := h
  refine wp_iald (pc := 13) d_X8_restore_13 ho2 hi3 ?_
  refine wp_icmp_ge (pc := 14) (tgt := 69) d_X8_restore_14 (by decide) (fun hc => ?_) (fun hc => ?_)
  · have h := h.1 hc
    refine wp_iconst (pc := 69) (v := 0) d_X8_restore_69 rfl ?_
    refine wp_istore (pc := 70) (lv' := [some (vr _), some (vr _), some (vi _), some (vr _), some (vi _), some (vi _), none, none]) d_X8_restore_70 (by decide) rfl ?_
    refine wp_sub ?_ h
    exact ⟨rfl, ⟨rfl, ⟨rfl, ⟨rfl, ⟨rfl, ⟨rfl, trivial⟩⟩⟩⟩⟩⟩
  · have h := h.2 hc
    refine wp_aload_n (pc := 17) d_X8_restore_17 rfl ?_
    refine wp_getR (pc := 18) d_X8_restore_18 fl_X8_64 (fun _ _ _ => rfl) ho1 ?_
    refine wp_iload (pc := 21) d_X8_restore_21 rfl ?_
    refine wp_aload_n (pc := 23) d_X8_restore_23 rfl ?_
    refine wp_iload (pc := 24) d_X8_restore_24 rfl ?_
    refine wp_iconst (pc := 26) (v := 4) d_X8_restore_26 rfl ?_
    obtain ⟨ho12, h⟩ := h
    refine wp_invV (pc := 27) (N := M_X0_number) (As := [vi _, vi _]) (rest := [vi _, vr _]) (r := (cn_0, ct_0, 2)) d_X8_restore_27 ml_X8_97 mk_X0_number mv_X0_number h0 ho12 rfl rfl (Nat.le_of_ble_eq_true rfl) ?_
    refine wpM.mono h (fun rr G5 hr => ?_)
    obtain ⟨r4, rfl, h⟩ := hr
    show wp E d M_X8_restore 30 [some (vr _), some (vr _), some (vi _), some (vr _), some (vi _), some (vi _), none, none] [vj _, vi _, vr _] G5 Q
    refine wp_l2i (pc := 30) d_X8_restore_30 ?_
    obtain ⟨ho6, h⟩ := h
    obtain ⟨hi7, h⟩ := h
    refine wp_iast (pc := 31) d_X8_restore_31 ho6 hi7 ?_
    refine wp_aload_n (pc := 32) d_X8_restore_32 rfl ?_
    obtain ⟨ho8, h⟩ := h
    refine wp_getR (pc := 33) d_X8_restore_33 fl_X8_64 (fun _ _ _ => rfl) ho8 ?_
    show wp E d M_X8_restore 36 [some (vr x0), some (vr x1), some (vi x2), some (vr x3), some (vi x4), some (vi x5), none, none] [vr (gR G5 x3 7)] (sI G5 (gR G x3 7) (Int32.toNatClampNeg x5) (Int64.toInt32 r4)) Q
    refine wp_iload (pc := 36) d_X8_restore_36 rfl ?_
    obtain ⟨ho9, h⟩ := h
    obtain ⟨hi10, h⟩ := h
    refine wp_iald (pc := 38) d_X8_restore_38 ho9 hi10 ?_
    refine wp_sipush (pc := 39) (v := (-9999)) d_X8_restore_39 rfl ?_
    refine wp_icmp_lt (pc := 42) (tgt := 58) d_X8_restore_42 (by decide) (fun hc => ?_) (fun hc => ?_)
    · have h := h.1 hc
      refine wp_iconst (pc := 58) (v := 0) d_X8_restore_58 rfl ?_
      exact wp_zret (pc := 59) d_X8_restore_59 rfl rfl h
    · have h := h.2 hc
      refine wp_aload_n (pc := 45) d_X8_restore_45 rfl ?_
      refine wp_getR (pc := 46) d_X8_restore_46 fl_X8_64 (fun _ _ _ => rfl) ho8 ?_
      show wp E d M_X8_restore 49 [some (vr x0), some (vr x1), some (vi x2), some (vr x3), some (vi x4), some (vi x5), none, none] [vr (gR G5 x3 7)] (sI G5 (gR G x3 7) (Int32.toNatClampNeg x5) (Int64.toInt32 r4)) Q
      refine wp_iload (pc := 49) d_X8_restore_49 rfl ?_
      obtain ⟨hi11, h⟩ := h
      refine wp_iald (pc := 51) d_X8_restore_51 ho9 hi11 ?_
      refine wp_sipush (pc := 52) (v := 9999) d_X8_restore_52 rfl ?_
      refine wp_icmp_le (pc := 55) (tgt := 60) d_X8_restore_55 (by decide) (fun hc => ?_) (fun hc => ?_)
      · have h := h.1 hc
        refine wp_iinc (pc := 60) (v := 4) (lv' := [some (vr _), some (vr _), some (vi _), some (vr _), some (vi _), some (vi _), none, none]) d_X8_restore_60 (by decide) rfl rfl rfl ?_
        refine wp_iinc (pc := 63) (v := 1) (lv' := [some (vr _), some (vr _), some (vi _), some (vr _), some (vi _), some (vi _), none, none]) d_X8_restore_63 (by decide) rfl rfl rfl ?_
        refine wp_goto (pc := 66) (tgt := 6) d_X8_restore_66 (by decide) ?_
        refine wp_sub ?_ h
        exact ⟨rfl, ⟨rfl, ⟨rfl, ⟨rfl, ⟨rfl, ⟨rfl, trivial⟩⟩⟩⟩⟩⟩
      · have h := h.2 hc
        refine wp_iconst (pc := 58) (v := 0) d_X8_restore_58 rfl ?_
        exact wp_zret (pc := 59) d_X8_restore_59 rfl rfl h
theorem v_X8_restore_72 {E : EE} {d : Nat} {Q : Option AV → AH → Prop} {x0 : Nat} {x1 : Nat} {x2 : Int32} {x3 : Nat} {x4 : Int32} {x5 : Int32} {G : AH} (h0 : 0 < d) (h : isO E G x3 3 ∧ (isO E G (gR G x3 4) 7 ∧ (((gI G (gR G x3 4) 0) ≤ x5 → isO E G x1 0 ∧ (wpJ E (d - 1) M_X0_number [vr x1, vi x4, vi 2] G (fun r3 G4 => isO E G4 x3 3 ∧ (∀ G6 : AH, G6 = sI G4 x3 9 (Int64.toInt32 r3) → isO E G6 (gR G6 x3 4) 7 ∧ ((¬ ((gI G6 x3 9) >>> ((gI G6 (gR G6 x3 4) 0) &&& 31)) = 0 → Q (some (vi 0)) G6) ∧ (((gI G6 x3 9) >>> ((gI G6 (gR G6 x3 4) 0) &&& 31)) = 0 → Q (some (vi 1)) G6)))))) ∧ (¬ ((gI G (gR G x3 4) 0) ≤ x5) → isO E G x1 0 ∧ (wpI E (d - 1) M_X0_at [vr x1, vi x4] G (fun r10 G11 => isO E G11 (gR G x3 4) 7 ∧ (wpI E (d - 1) M_X7_placeOfValue [vr (gR G x3 4), vi x5, vi (i2b r10)] G11 (fun r12 G13 => isO E G13 x1 0 ∧ (wpJ E (d - 1) M_X0_number [vr x1, vi (x4 + 1), vi 2] G13 (fun r14 G15 => (r12 < 0 → Q (some (vi 0)) G15) ∧ (¬ (r12 < 0) → ((Int64.toInt32 r14) ≤ 1000 → isO E G15 x3 3 ∧ (isO E G15 (gR G15 x3 4) 7 ∧ (wpI E (d - 1) M_X7_moved [vr (gR G15 x3 4), vi (gI G15 x3 8), vi x5, vi r12] G15 (fun r17 G18 => isO E G18 x3 3 ∧ (∀ G20 : AH, G20 = sI G18 x3 8 r17 → isO E G20 (gR G20 x3 10) 14 ∧ (vp_in x5 (gN G20 (gR G20 x3 10)) ∧ (∀ G24 : AH, G24 = sI G20 (gR G20 x3 10) (Int32.toNatClampNeg x5) (Int64.toInt32 r14) → wp E d M_X8_restore 72 [some (vr x0), some (vr x1), some (vi x2), some (vr x3), some (vi (x4 + 3)), some (vi (x5 + 1)), none, none] [] G24 Q))))))) ∧ (¬ ((Int64.toInt32 r14) ≤ 1000) → Q (some (vi 0)) G15)))))))))))) : wp E d M_X8_restore 72 [some (vr x0), some (vr x1), some (vi x2), some (vr x3), some (vi x4), some (vi x5), none, none] [] G Q := by
  refine wp_iload (pc := 72) d_X8_restore_72 rfl ?_
  refine wp_aload_n (pc := 74) d_X8_restore_74 rfl ?_
  obtain ⟨ho1, h⟩ := h
  refine wp_getR (pc := 75) d_X8_restore_75 fl_X8_67 (fun _ _ _ => rfl) ho1 ?_
  obtain ⟨ho2, h⟩ := h
  refine wp_getI (pc := 78) d_X8_restore_78 fl_X8_71 (fun _ _ _ => rfl) ho2 ?_
  refine wp_icmp_ge (pc := 81) (tgt := 166) d_X8_restore_81 (by decide) (fun hc => ?_) (fun hc => ?_)
  · have h := h.1 hc
    refine wp_aload_n (pc := 166) d_X8_restore_166 rfl ?_
    refine wp_aload_n (pc := 167) d_X8_restore_167 rfl ?_
    refine wp_iload (pc := 168) d_X8_restore_168 rfl ?_
    refine wp_iconst (pc := 170) (v := 2) d_X8_restore_170 rfl ?_
    obtain ⟨ho9, h⟩ := h
    refine wp_invV (pc := 171) (N := M_X0_number) (As := [vi _, vi _]) (rest := [vr _]) (r := (cn_0, ct_0, 2)) d_X8_restore_171 ml_X8_97 mk_X0_number mv_X0_number h0 ho9 rfl rfl (Nat.le_of_ble_eq_true rfl) ?_
    refine wpM.mono h (fun rr G4 hr => ?_)
    obtain ⟨r3, rfl, h⟩ := hr
    show wp E d M_X8_restore 174 [some (vr _), some (vr _), some (vi _), some (vr _), some (vi _), some (vi _), none, none] [vj _, vr _] G4 Q
    refine wp_l2i (pc := 174) d_X8_restore_174 ?_
    obtain ⟨ho5, h⟩ := h
    refine wp_putI (pc := 175) d_X8_restore_175 fl_X8_86 (fun _ _ _ => rfl) (Or.inl rfl) ho5 (okI_int _) ?_
    refine wp_nm (fun G6 eG6 => ?_)
    have h := h G6 eG6
    have ho7 := isO_sI eG6 ho5
    refine wp_aload_n (pc := 178) d_X8_restore_178 rfl ?_
    refine wp_getI (pc := 179) d_X8_restore_179 fl_X8_86 (fun _ _ _ => rfl) ho7 ?_
    refine wp_aload_n (pc := 182) d_X8_restore_182 rfl ?_
    refine wp_getR (pc := 183) d_X8_restore_183 fl_X8_67 (fun _ _ _ => rfl) ho7 ?_
    obtain ⟨ho8, h⟩ := h
    refine wp_getI (pc := 186) d_X8_restore_186 fl_X8_71 (fun _ _ _ => rfl) ho8 ?_
    refine wp_ishr (pc := 189) d_X8_restore_189 ?_
    refine wp_if_ne (pc := 190) (tgt := 197) d_X8_restore_190 (by decide) (fun hc => ?_) (fun hc => ?_)
    · have h := h.1 hc
      refine wp_iconst (pc := 197) (v := 0) d_X8_restore_197 rfl ?_
      exact wp_zret (pc := 198) d_X8_restore_198 rfl rfl h
    · have h := h.2 hc
      refine wp_iconst (pc := 193) (v := 1) d_X8_restore_193 rfl ?_
      refine wp_goto (pc := 194) (tgt := 198) d_X8_restore_194 (by decide) ?_
      exact wp_zret (pc := 198) d_X8_restore_198 rfl rfl h
  · have h := h.2 hc
    refine wp_aload_n (pc := 84) d_X8_restore_84 rfl ?_
    refine wp_getR (pc := 85) d_X8_restore_85 fl_X8_67 (fun _ _ _ => rfl) ho1 ?_
    refine wp_iload (pc := 88) d_X8_restore_88 rfl ?_
    refine wp_aload_n (pc := 90) d_X8_restore_90 rfl ?_
    refine wp_iload (pc := 91) d_X8_restore_91 rfl ?_
    obtain ⟨ho29, h⟩ := h
    refine wp_invV (pc := 93) (N := M_X0_at) (As := [vi _]) (rest := [vi _, vr _]) (r := (cn_0, ct_0, 2)) d_X8_restore_93 ml_X8_93 mk_X0_at mv_X0_at h0 ho29 rfl rfl (Nat.le_of_ble_eq_true rfl) ?_
    refine wpM.mono h (fun rr G11 hr => ?_)
    obtain ⟨r10, rfl, h⟩ := hr
    show wp E d M_X8_restore 96 [some (vr _), some (vr _), some (vi _), some (vr _), some (vi _), some (vi _), none, none] [vi _, vi _, vr _] G11 Q
    refine wp_i2b (pc := 96) d_X8_restore_96 ?_
    obtain ⟨ho28, h⟩ := h
    refine wp_invV (pc := 97) (N := M_X7_placeOfValue) (As := [vi _, vi _]) (rest := []) (r := (cn_7, ct_7, 5)) d_X8_restore_97 ml_X8_104 mk_X7_placeOfValue mv_X7_placeOfValue h0 ho28 rfl rfl (Nat.le_of_ble_eq_true rfl) ?_
    refine wpM.mono h (fun rr G13 hr => ?_)
    obtain ⟨r12, rfl, h⟩ := hr
    show wp E d M_X8_restore 100 [some (vr _), some (vr _), some (vi _), some (vr _), some (vi _), some (vi _), none, none] [vi _] G13 Q
    refine wp_istore (pc := 100) (lv' := [some (vr _), some (vr _), some (vi _), some (vr _), some (vi _), some (vi _), some (vi _), none]) d_X8_restore_100 (by decide) rfl ?_
    refine wp_aload_n (pc := 102) d_X8_restore_102 rfl ?_
    refine wp_iload (pc := 103) d_X8_restore_103 rfl ?_
    refine wp_iconst (pc := 105) (v := 1) d_X8_restore_105 rfl ?_
    refine wp_iadd (pc := 106) d_X8_restore_106 ?_
    refine wp_iconst (pc := 107) (v := 2) d_X8_restore_107 rfl ?_
    obtain ⟨ho27, h⟩ := h
    refine wp_invV (pc := 108) (N := M_X0_number) (As := [vi _, vi _]) (rest := []) (r := (cn_0, ct_0, 2)) d_X8_restore_108 ml_X8_97 mk_X0_number mv_X0_number h0 ho27 rfl rfl (Nat.le_of_ble_eq_true rfl) ?_
    refine wpM.mono h (fun rr G15 hr => ?_)
    obtain ⟨r14, rfl, h⟩ := hr
    show wp E d M_X8_restore 111 [some (vr _), some (vr _), some (vi _), some (vr _), some (vi _), some (vi _), some (vi _), none] [vj _] G15 Q
    refine wp_l2i (pc := 111) d_X8_restore_111 ?_
    refine wp_istore (pc := 112) (lv' := [some (vr _), some (vr _), some (vi _), some (vr _), some (vi _), some (vi _), some (vi _), some (vi _)]) d_X8_restore_112 (by decide) rfl ?_
    refine wp_iload (pc := 114) d_X8_restore_114 rfl ?_
    refine wp_if_lt (pc := 116) (tgt := 127) d_X8_restore_116 (by decide) (fun hc => ?_) (fun hc => ?_)
    · have h := h.1 hc
      refine wp_iconst (pc := 127) (v := 0) d_X8_restore_127 rfl ?_
      exact wp_zret (pc := 128) d_X8_restore_128 rfl rfl h
    · have h := h.2 hc
      refine wp_iload (pc := 119) d_X8_restore_119 rfl ?_
      refine wp_sipush (pc := 121) (v := 1000) d_X8_restore_121 rfl ?_
      refine wp_icmp_le (pc := 124) (tgt := 129) d_X8_restore_124 (by decide) (fun hc => ?_) (fun hc => ?_)
      · have h := h.1 hc
        refine wp_aload_n (pc := 129) d_X8_restore_129 rfl ?_
        refine wp_aload_n (pc := 130) d_X8_restore_130 rfl ?_
        obtain ⟨ho16, h⟩ := h
        refine wp_getR (pc := 131) d_X8_restore_131 fl_X8_67 (fun _ _ _ => rfl) ho16 ?_
        refine wp_aload_n (pc := 134) d_X8_restore_134 rfl ?_
        refine wp_getI (pc := 135) d_X8_restore_135 fl_X8_76 (fun _ _ _ => rfl) ho16 ?_
        refine wp_iload (pc := 138) d_X8_restore_138 rfl ?_
        refine wp_iload (pc := 140) d_X8_restore_140 rfl ?_
        obtain ⟨ho26, h⟩ := h
        refine wp_invV (pc := 142) (N := M_X7_moved) (As := [vi _, vi _, vi _]) (rest := [vr _]) (r := (cn_7, ct_7, 5)) d_X8_restore_142 ml_X8_107 mk_X7_moved mv_X7_moved h0 ho26 rfl rfl (Nat.le_of_ble_eq_true rfl) ?_
        refine wpM.mono h (fun rr G18 hr => ?_)
        obtain ⟨r17, rfl, h⟩ := hr
        show wp E d M_X8_restore 145 [some (vr _), some (vr _), some (vi _), some (vr _), some (vi _), some (vi _), some (vi _), some (vi _)] [vi _, vr _] G18 Q
        obtain ⟨ho19, h⟩ := h
        refine wp_putI (pc := 145) d_X8_restore_145 fl_X8_76 (fun _ _ _ => rfl) (Or.inl rfl) ho19 (okI_int _) ?_
        refine wp_nm (fun G20 eG20 => ?_)
        have h := h G20 eG20
        have ho21 := isO_sI eG20 ho19
        refine wp_aload_n (pc := 148) d_X8_restore_148 rfl ?_
        refine wp_getR (pc := 149) d_X8_restore_149 fl_X8_83 (fun _ _ _ => rfl) ho21 ?_
        refine wp_iload (pc := 152) d_X8_restore_152 rfl ?_
        refine wp_iload (pc := 154) d_X8_restore_154 rfl ?_
        obtain ⟨ho22, h⟩ := h
        obtain ⟨hi23, h⟩ := h
        refine wp_iast (pc := 156) d_X8_restore_156 ho22 hi23 ?_
        refine wp_nm (fun G24 eG24 => ?_)
        have h := h G24 eG24
        have ho25 := isO_sI eG24 ho21
        refine wp_iinc (pc := 157) (v := 3) (lv' := [some (vr _), some (vr _), some (vi _), some (vr _), some (vi _), some (vi _), some (vi _), some (vi _)]) d_X8_restore_157 (by decide) rfl rfl rfl ?_
        refine wp_iinc (pc := 160) (v := 1) (lv' := [some (vr _), some (vr _), some (vi _), some (vr _), some (vi _), some (vi _), some (vi _), some (vi _)]) d_X8_restore_160 (by decide) rfl rfl rfl ?_
        refine wp_goto (pc := 163) (tgt := 72) d_X8_restore_163 (by decide) ?_
        refine wp_sub ?_ h
        exact ⟨rfl, ⟨rfl, ⟨rfl, ⟨rfl, ⟨rfl, ⟨rfl, trivial⟩⟩⟩⟩⟩⟩
      · have h := h.2 hc
        refine wp_iconst (pc := 127) (v := 0) d_X8_restore_127 rfl ?_
        exact wp_zret (pc := 128) d_X8_restore_128 rfl rfl h
theorem d_X8_noteEnd_0 : decode prog_10_method_12_code 0 = .ok (.iload_n 1, 1) := by decide +kernel
theorem d_X8_noteEnd_1 : decode prog_10_method_12_code 1 = .ok (.ifCond .lt 16, 3) := by decide +kernel
theorem d_X8_noteEnd_4 : decode prog_10_method_12_code 4 = .ok (.iload_n 1, 1) := by decide +kernel
theorem d_X8_noteEnd_5 : decode prog_10_method_12_code 5 = .ok (.bipush 100, 2) := by decide +kernel
theorem d_X8_noteEnd_7 : decode prog_10_method_12_code 7 = .ok (.if_icmp .ge 10, 3) := by decide +kernel
theorem d_X8_noteEnd_10 : decode prog_10_method_12_code 10 = .ok (.aload_n 0, 1) := by decide +kernel
theorem d_X8_noteEnd_11 : decode prog_10_method_12_code 11 = .ok (.getfield 26, 3) := by decide +kernel
theorem d_X8_noteEnd_14 : decode prog_10_method_12_code 14 = .ok (.iload_n 1, 1) := by decide +kernel
theorem d_X8_noteEnd_15 : decode prog_10_method_12_code 15 = .ok (.iload_n 2, 1) := by decide +kernel
theorem d_X8_noteEnd_16 : decode prog_10_method_12_code 16 = .ok (.iastore, 1) := by decide +kernel
theorem d_X8_noteEnd_17 : decode prog_10_method_12_code 17 = .ok (.return_, 1) := by decide +kernel
theorem v_X8_noteEnd_0 {E : EE} {d : Nat} {Q : Option AV → AH → Prop} {x0 : Nat} {x1 : Int32} {x2 : Int32} {G : AH} (h : (x1 < 0 → Q none G) ∧ (¬ (x1 < 0) → (100 ≤ x1 → Q none G) ∧ (¬ (100 ≤ x1) → isO E G x0 8 ∧ (isO E G (gR G x0 3) 14 ∧ (vp_in x1 (gN G (gR G x0 3)) ∧ (Q none (sI G (gR G x0 3) (Int32.toNatClampNeg x1) x2))))))) : wp E d M_X8_noteEnd 0 [some (vr x0), some (vi x1), some (vi x2)] [] G Q := by
  refine wp_iload_n (pc := 0) d_X8_noteEnd_0 rfl ?_
  refine wp_if_lt (pc := 1) (tgt := 17) d_X8_noteEnd_1 (by decide) (fun hc => ?_) (fun hc => ?_)
  · have h := h.1 hc
    exact wp_vret (pc := 17) d_X8_noteEnd_17 rfl h
  · have h := h.2 hc
    refine wp_iload_n (pc := 4) d_X8_noteEnd_4 rfl ?_
    refine wp_bipush (pc := 5) (v := 100) d_X8_noteEnd_5 rfl ?_
    refine wp_icmp_ge (pc := 7) (tgt := 17) d_X8_noteEnd_7 (by decide) (fun hc => ?_) (fun hc => ?_)
    · have h := h.1 hc
      exact wp_vret (pc := 17) d_X8_noteEnd_17 rfl h
    · have h := h.2 hc
      refine wp_aload_n (pc := 10) d_X8_noteEnd_10 rfl ?_
      obtain ⟨ho1, h⟩ := h
      refine wp_getR (pc := 11) d_X8_noteEnd_11 fl_X8_26 (fun _ _ _ => rfl) ho1 ?_
      refine wp_iload_n (pc := 14) d_X8_noteEnd_14 rfl ?_
      refine wp_iload_n (pc := 15) d_X8_noteEnd_15 rfl ?_
      obtain ⟨ho2, h⟩ := h
      obtain ⟨hi3, h⟩ := h
      refine wp_iast (pc := 16) d_X8_noteEnd_16 ho2 hi3 ?_
      exact wp_vret (pc := 17) d_X8_noteEnd_17 rfl h
theorem d_X8_hasRoom_0 : decode prog_10_method_3_code 0 = .ok (.aload_n 0, 1) := by decide +kernel
theorem d_X8_hasRoom_1 : decode prog_10_method_3_code 1 = .ok (.getfield 18, 3) := by decide +kernel
theorem d_X8_hasRoom_4 : decode prog_10_method_3_code 4 = .ok (.iload_n 1, 1) := by decide +kernel
theorem d_X8_hasRoom_5 : decode prog_10_method_3_code 5 = .ok (.iadd, 1) := by decide +kernel
theorem d_X8_hasRoom_6 : decode prog_10_method_3_code 6 = .ok (.bipush 100, 2) := by decide +kernel
theorem d_X8_hasRoom_8 : decode prog_10_method_3_code 8 = .ok (.if_icmp .gt 22, 3) := by decide +kernel
theorem d_X8_hasRoom_11 : decode prog_10_method_3_code 11 = .ok (.aload_n 0, 1) := by decide +kernel
theorem d_X8_hasRoom_12 : decode prog_10_method_3_code 12 = .ok (.getfield 14, 3) := by decide +kernel
theorem d_X8_hasRoom_15 : decode prog_10_method_3_code 15 = .ok (.getfield 32, 3) := by decide +kernel
theorem d_X8_hasRoom_18 : decode prog_10_method_3_code 18 = .ok (.iload_n 2, 1) := by decide +kernel
theorem d_X8_hasRoom_19 : decode prog_10_method_3_code 19 = .ok (.iadd, 1) := by decide +kernel
theorem d_X8_hasRoom_20 : decode prog_10_method_3_code 20 = .ok (.sipush 19990, 3) := by decide +kernel
theorem d_X8_hasRoom_23 : decode prog_10_method_3_code 23 = .ok (.if_icmp .gt 7, 3) := by decide +kernel
theorem d_X8_hasRoom_26 : decode prog_10_method_3_code 26 = .ok (.iconst 1, 1) := by decide +kernel
theorem d_X8_hasRoom_27 : decode prog_10_method_3_code 27 = .ok (.goto 4, 3) := by decide +kernel
theorem d_X8_hasRoom_30 : decode prog_10_method_3_code 30 = .ok (.iconst 0, 1) := by decide +kernel
theorem d_X8_hasRoom_31 : decode prog_10_method_3_code 31 = .ok (.ireturn, 1) := by decide +kernel
theorem v_X8_hasRoom_0 {E : EE} {d : Nat} {Q : Option AV → AH → Prop} {x0 : Nat} {x1 : Int32} {x2 : Int32} {G : AH} (h : isO E G x0 8 ∧ ((100 < ((gI G x0 1) + x1) → Q (some (vi 0)) G) ∧ (¬ (100 < ((gI G x0 1) + x1)) → isO E G (gR G x0 0) 0 ∧ ((19990 < ((gI G (gR G x0 0) 1) + x2) → Q (some (vi 0)) G) ∧ (¬ (19990 < ((gI G (gR G x0 0) 1) + x2)) → Q (some (vi 1)) G))))) : wp E d M_X8_hasRoom 0 [some (vr x0), some (vi x1), some (vi x2)] [] G Q := by
  refine wp_aload_n (pc := 0) d_X8_hasRoom_0 rfl ?_
  obtain ⟨ho1, h⟩ := h
  refine wp_getI (pc := 1) d_X8_hasRoom_1 fl_X8_18 (fun _ _ _ => rfl) ho1 ?_
  refine wp_iload_n (pc := 4) d_X8_hasRoom_4 rfl ?_
  refine wp_iadd (pc := 5) d_X8_hasRoom_5 ?_
  refine wp_bipush (pc := 6) (v := 100) d_X8_hasRoom_6 rfl ?_
  refine wp_icmp_gt (pc := 8) (tgt := 30) d_X8_hasRoom_8 (by decide) (fun hc => ?_) (fun hc => ?_)
  · have h := h.1 hc
    refine wp_iconst (pc := 30) (v := 0) d_X8_hasRoom_30 rfl ?_
    exact wp_zret (pc := 31) d_X8_hasRoom_31 rfl rfl h
  · have h := h.2 hc
    refine wp_aload_n (pc := 11) d_X8_hasRoom_11 rfl ?_
    refine wp_getR (pc := 12) d_X8_hasRoom_12 fl_X8_14 (fun _ _ _ => rfl) ho1 ?_
    obtain ⟨ho2, h⟩ := h
    refine wp_getI (pc := 15) d_X8_hasRoom_15 fl_X8_32 (fun _ _ _ => rfl) ho2 ?_
    refine wp_iload_n (pc := 18) d_X8_hasRoom_18 rfl ?_
    refine wp_iadd (pc := 19) d_X8_hasRoom_19 ?_
    refine wp_sipush (pc := 20) (v := 19990) d_X8_hasRoom_20 rfl ?_
    refine wp_icmp_gt (pc := 23) (tgt := 30) d_X8_hasRoom_23 (by decide) (fun hc => ?_) (fun hc => ?_)
    · have h := h.1 hc
      refine wp_iconst (pc := 30) (v := 0) d_X8_hasRoom_30 rfl ?_
      exact wp_zret (pc := 31) d_X8_hasRoom_31 rfl rfl h
    · have h := h.2 hc
      refine wp_iconst (pc := 26) (v := 1) d_X8_hasRoom_26 rfl ?_
      refine wp_goto (pc := 27) (tgt := 31) d_X8_hasRoom_27 (by decide) ?_
      exact wp_zret (pc := 31) d_X8_hasRoom_31 rfl rfl h
theorem d_X8_append_0 : decode prog_10_method_13_code 0 = .ok (.iload_n 2, 1) := by decide +kernel
theorem d_X8_append_1 : decode prog_10_method_13_code 1 = .ok (.iconst 1, 1) := by decide +kernel
theorem d_X8_append_2 : decode prog_10_method_13_code 2 = .ok (.if_icmp .lt 12, 3) := by decide +kernel
theorem d_X8_append_5 : decode prog_10_method_13_code 5 = .ok (.aload_n 0, 1) := by decide +kernel
theorem d_X8_append_6 : decode prog_10_method_13_code 6 = .ok (.iload_n 2, 1) := by decide +kernel
theorem d_X8_append_7 : decode prog_10_method_13_code 7 = .ok (.iload_n 3, 1) := by decide +kernel
theorem d_X8_append_8 : decode prog_10_method_13_code 8 = .ok (.invokevirtual 44, 3) := by decide +kernel
theorem d_X8_append_11 : decode prog_10_method_13_code 11 = .ok (.ifCond .ne 4, 3) := by decide +kernel
theorem d_X8_append_14 : decode prog_10_method_13_code 14 = .ok (.return_, 1) := by decide +kernel
theorem d_X8_append_15 : decode prog_10_method_13_code 15 = .ok (.aload_n 0, 1) := by decide +kernel
theorem d_X8_append_16 : decode prog_10_method_13_code 16 = .ok (.aload_n 0, 1) := by decide +kernel
theorem d_X8_append_17 : decode prog_10_method_13_code 17 = .ok (.getfield 18, 3) := by decide +kernel
theorem d_X8_append_20 : decode prog_10_method_13_code 20 = .ok (.putfield 29, 3) := by decide +kernel
theorem d_X8_append_23 : decode prog_10_method_13_code 23 = .ok (.iconst 0, 1) := by decide +kernel
theorem d_X8_append_24 : decode prog_10_method_13_code 24 = .ok (.istore 4, 2) := by decide +kernel
theorem d_X8_append_26 : decode prog_10_method_13_code 26 = .ok (.iload 4, 2) := by decide +kernel
theorem d_X8_append_28 : decode prog_10_method_13_code 28 = .ok (.iload_n 2, 1) := by decide +kernel
theorem d_X8_append_29 : decode prog_10_method_13_code 29 = .ok (.if_icmp .ge 36, 3) := by decide +kernel
theorem d_X8_append_32 : decode prog_10_method_13_code 32 = .ok (.aload_n 0, 1) := by decide +kernel
theorem d_X8_append_33 : decode prog_10_method_13_code 33 = .ok (.getfield 22, 3) := by decide +kernel
theorem d_X8_append_36 : decode prog_10_method_13_code 36 = .ok (.aload_n 0, 1) := by decide +kernel
theorem d_X8_append_37 : decode prog_10_method_13_code 37 = .ok (.getfield 18, 3) := by decide +kernel
theorem d_X8_append_40 : decode prog_10_method_13_code 40 = .ok (.iload 4, 2) := by decide +kernel
theorem d_X8_append_42 : decode prog_10_method_13_code 42 = .ok (.iadd, 1) := by decide +kernel
theorem d_X8_append_43 : decode prog_10_method_13_code 43 = .ok (.aload_n 0, 1) := by decide +kernel
theorem d_X8_append_44 : decode prog_10_method_13_code 44 = .ok (.getfield 14, 3) := by decide +kernel
theorem d_X8_append_47 : decode prog_10_method_13_code 47 = .ok (.getfield 32, 3) := by decide +kernel
theorem d_X8_append_50 : decode prog_10_method_13_code 50 = .ok (.aload_n 0, 1) := by decide +kernel
theorem d_X8_append_51 : decode prog_10_method_13_code 51 = .ok (.getfield 26, 3) := by decide +kernel
theorem d_X8_append_54 : decode prog_10_method_13_code 54 = .ok (.iload 4, 2) := by decide +kernel
theorem d_X8_append_56 : decode prog_10_method_13_code 56 = .ok (.iaload, 1) := by decide +kernel
theorem d_X8_append_57 : decode prog_10_method_13_code 57 = .ok (.iadd, 1) := by decide +kernel
theorem d_X8_append_58 : decode prog_10_method_13_code 58 = .ok (.iastore, 1) := by decide +kernel
theorem d_X8_append_59 : decode prog_10_method_13_code 59 = .ok (.iinc 4 1, 3) := by decide +kernel
theorem d_X8_append_62 : decode prog_10_method_13_code 62 = .ok (.goto (-36), 3) := by decide +kernel
theorem d_X8_append_65 : decode prog_10_method_13_code 65 = .ok (.aload_n 0, 1) := by decide +kernel
theorem d_X8_append_66 : decode prog_10_method_13_code 66 = .ok (.getfield 14, 3) := by decide +kernel
theorem d_X8_append_69 : decode prog_10_method_13_code 69 = .ok (.aload_n 1, 1) := by decide +kernel
theorem d_X8_append_70 : decode prog_10_method_13_code 70 = .ok (.iconst 2, 1) := by decide +kernel
theorem d_X8_append_71 : decode prog_10_method_13_code 71 = .ok (.iload_n 3, 1) := by decide +kernel
theorem d_X8_append_72 : decode prog_10_method_13_code 72 = .ok (.invokevirtual 57, 3) := by decide +kernel
theorem d_X8_append_75 : decode prog_10_method_13_code 75 = .ok (.aload_n 0, 1) := by decide +kernel
theorem d_X8_append_76 : decode prog_10_method_13_code 76 = .ok (.dup, 1) := by decide +kernel
theorem d_X8_append_77 : decode prog_10_method_13_code 77 = .ok (.getfield 18, 3) := by decide +kernel
theorem d_X8_append_80 : decode prog_10_method_13_code 80 = .ok (.iload_n 2, 1) := by decide +kernel
theorem d_X8_append_81 : decode prog_10_method_13_code 81 = .ok (.iadd, 1) := by decide +kernel
theorem d_X8_append_82 : decode prog_10_method_13_code 82 = .ok (.putfield 18, 3) := by decide +kernel
theorem d_X8_append_85 : decode prog_10_method_13_code 85 = .ok (.return_, 1) := by decide +kernel
theorem v_X8_append_0 {E : EE} {d : Nat} {Q : Option AV → AH → Prop} {x0 : Nat} {x1 : Nat} {x2 : Int32} {x3 : Int32} {G : AH} (h0 : 0 < d) (h : (x2 < 1 → Q none G) ∧ (¬ (x2 < 1) → isO E G x0 8 ∧ (wpI E (d - 1) M_X8_hasRoom [vr x0, vi x2, vi x3] G (fun r1 G2 => (¬ r1 = 0 → isO E G2 x0 8 ∧ (wp E d M_X8_append 26 [some (vr x0), some (vr x1), some (vi x2), some (vi x3), some (vi 0)] [] (sI G2 x0 4 (gI G2 x0 1)) Q)) ∧ (r1 = 0 → Q none G2))))) : wp E d M_X8_append 0 [some (vr x0), some (vr x1), some (vi x2), some (vi x3), none] [] G Q := by
  refine wp_iload_n (pc := 0) d_X8_append_0 rfl ?_
  refine wp_iconst (pc := 1) (v := 1) d_X8_append_1 rfl ?_
  refine wp_icmp_lt (pc := 2) (tgt := 14) d_X8_append_2 (by decide) (fun hc => ?_) (fun hc => ?_)
  · have h := h.1 hc
    exact wp_vret (pc := 14) d_X8_append_14 rfl h
  · have h := h.2 hc
    refine wp_aload_n (pc := 5) d_X8_append_5 rfl ?_
    refine wp_iload_n (pc := 6) d_X8_append_6 rfl ?_
    refine wp_iload_n (pc := 7) d_X8_append_7 rfl ?_
    obtain ⟨ho4, h⟩ := h
    refine wp_invV (pc := 8) (N := M_X8_hasRoom) (As := [vi _, vi _]) (rest := []) (r := (cn_8, ct_8, 5)) d_X8_append_8 ml_X8_44 mk_X8_hasRoom mv_X8_hasRoom h0 ho4 rfl rfl (Nat.le_of_ble_eq_true rfl) ?_
    refine wpM.mono h (fun rr G2 hr => ?_)
    obtain ⟨r1, rfl, h⟩ := hr
    show wp E d M_X8_append 11 [some (vr _), some (vr _), some (vi _), some (vi _), none] [vi _] G2 Q
    refine wp_if_ne (pc := 11) (tgt := 15) d_X8_append_11 (by decide) (fun hc => ?_) (fun hc => ?_)
    · have h := h.1 hc
      refine wp_aload_n (pc := 15) d_X8_append_15 rfl ?_
      refine wp_aload_n (pc := 16) d_X8_append_16 rfl ?_
      obtain ⟨ho3, h⟩ := h
      refine wp_getI (pc := 17) d_X8_append_17 fl_X8_18 (fun _ _ _ => rfl) ho3 ?_
      refine wp_putI (pc := 20) d_X8_append_20 fl_X8_29 (fun _ _ _ => rfl) (Or.inl rfl) ho3 (okI_int _) ?_
      refine wp_iconst (pc := 23) (v := 0) d_X8_append_23 rfl ?_
      refine wp_istore (pc := 24) (lv' := [some (vr _), some (vr _), some (vi _), some (vi _), some (vi _)]) d_X8_append_24 (by decide) rfl ?_
      refine wp_sub ?_ h
      exact ⟨rfl, ⟨rfl, ⟨rfl, ⟨rfl, ⟨rfl, trivial⟩⟩⟩⟩⟩
    · have h := h.2 hc
      exact wp_vret (pc := 14) d_X8_append_14 rfl h
theorem v_X8_append_26 {E : EE} {d : Nat} {Q : Option AV → AH → Prop} {x0 : Nat} {x1 : Nat} {x2 : Int32} {x3 : Int32} {x4 : Int32} {G : AH} (h0 : 0 < d) (h : (x2 ≤ x4 → isO E G x0 8 ∧ (isO E G (gR G x0 0) 0 ∧ (wpV E (d - 1) M_X0_addAll [vr (gR G x0 0), vr x1, vi 2, vi x3] G (fun G2 => isO E G2 x0 8 ∧ (Q none (sI G2 x0 1 ((gI G2 x0 1) + x2))))))) ∧ (¬ (x2 ≤ x4) → isO E G x0 8 ∧ (isO E G (gR G x0 0) 0 ∧ (isO E G (gR G x0 3) 14 ∧ (vp_in x4 (gN G (gR G x0 3)) ∧ (isO E G (gR G x0 2) 14 ∧ (vp_in ((gI G x0 1) + x4) (gN G (gR G x0 2)) ∧ (wp E d M_X8_append 26 [some (vr x0), some (vr x1), some (vi x2), some (vi x3), some (vi (x4 + 1))] [] (sI G (gR G x0 2) (Int32.toNatClampNeg ((gI G x0 1) + x4)) ((gI G (gR G x0 0) 1) + (gI G (gR G x0 3) (Int32.toNatClampNeg x4)))) Q)))))))) : wp E d M_X8_append 26 [some (vr x0), some (vr x1), some (vi x2), some (vi x3), some (vi x4)] [] G Q := by
  refine wp_iload (pc := 26) d_X8_append_26 rfl ?_
  refine wp_iload_n (pc := 28) d_X8_append_28 rfl ?_
  refine wp_icmp_ge (pc := 29) (tgt := 65) d_X8_append_29 (by decide) (fun hc => ?_) (fun hc => ?_)
  · have h := h.1 hc
    refine wp_aload_n (pc := 65) d_X8_append_65 rfl ?_
    obtain ⟨ho1, h⟩ := h
    refine wp_getR (pc := 66) d_X8_append_66 fl_X8_14 (fun _ _ _ => rfl) ho1 ?_
    refine wp_aload_n (pc := 69) d_X8_append_69 rfl ?_
    refine wp_iconst (pc := 70) (v := 2) d_X8_append_70 rfl ?_
    refine wp_iload_n (pc := 71) d_X8_append_71 rfl ?_
    obtain ⟨ho4, h⟩ := h
    refine wp_invV (pc := 72) (N := M_X0_addAll) (As := [vr _, vi _, vi _]) (rest := []) (r := (cn_0, ct_0, 2)) d_X8_append_72 ml_X8_57 mk_X0_addAll mv_X0_addAll h0 ho4 rfl rfl (Nat.le_of_ble_eq_true rfl) ?_
    refine wpM.mono h (fun rr G2 hr => ?_)
    obtain ⟨rfl, h⟩ := hr
    show wp E d M_X8_append 75 [some (vr _), some (vr _), some (vi _), some (vi _), some (vi _)] [] G2 Q
    refine wp_aload_n (pc := 75) d_X8_append_75 rfl ?_
    refine wp_dup (pc := 76) d_X8_append_76 (c1_r _) ?_
    obtain ⟨ho3, h⟩ := h
    refine wp_getI (pc := 77) d_X8_append_77 fl_X8_18 (fun _ _ _ => rfl) ho3 ?_
    refine wp_iload_n (pc := 80) d_X8_append_80 rfl ?_
    refine wp_iadd (pc := 81) d_X8_append_81 ?_
    refine wp_putI (pc := 82) d_X8_append_82 fl_X8_18 (fun _ _ _ => rfl) (Or.inl rfl) ho3 (okI_int _) ?_
    exact wp_vret (pc := 85) d_X8_append_85 rfl h
  · have h := h.2 hc
    refine wp_aload_n (pc := 32) d_X8_append_32 rfl ?_
    obtain ⟨ho5, h⟩ := h
    refine wp_getR (pc := 33) d_X8_append_33 fl_X8_22 (fun _ _ _ => rfl) ho5 ?_
    refine wp_aload_n (pc := 36) d_X8_append_36 rfl ?_
    refine wp_getI (pc := 37) d_X8_append_37 fl_X8_18 (fun _ _ _ => rfl) ho5 ?_
    refine wp_iload (pc := 40) d_X8_append_40 rfl ?_
    refine wp_iadd (pc := 42) d_X8_append_42 ?_
    refine wp_aload_n (pc := 43) d_X8_append_43 rfl ?_
    refine wp_getR (pc := 44) d_X8_append_44 fl_X8_14 (fun _ _ _ => rfl) ho5 ?_
    obtain ⟨ho6, h⟩ := h
    refine wp_getI (pc := 47) d_X8_append_47 fl_X8_32 (fun _ _ _ => rfl) ho6 ?_
    refine wp_aload_n (pc := 50) d_X8_append_50 rfl ?_
    refine wp_getR (pc := 51) d_X8_append_51 fl_X8_26 (fun _ _ _ => rfl) ho5 ?_
    refine wp_iload (pc := 54) d_X8_append_54 rfl ?_
    obtain ⟨ho7, h⟩ := h
    obtain ⟨hi8, h⟩ := h
    refine wp_iald (pc := 56) d_X8_append_56 ho7 hi8 ?_
    refine wp_iadd (pc := 57) d_X8_append_57 ?_
    obtain ⟨ho9, h⟩ := h
    obtain ⟨hi10, h⟩ := h
    refine wp_iast (pc := 58) d_X8_append_58 ho9 hi10 ?_
    refine wp_iinc (pc := 59) (v := 1) (lv' := [some (vr _), some (vr _), some (vi _), some (vi _), some (vi _)]) d_X8_append_59 (by decide) rfl rfl rfl ?_
    refine wp_goto (pc := 62) (tgt := 26) d_X8_append_62 (by decide) ?_
    refine wp_sub ?_ h
    exact ⟨rfl, ⟨rfl, ⟨rfl, ⟨rfl, ⟨rfl, trivial⟩⟩⟩⟩⟩
theorem d_X8_export_0 : decode prog_10_method_10_code 0 = .ok (.aload_n 1, 1) := by decide +kernel
theorem d_X8_export_1 : decode prog_10_method_10_code 1 = .ok (.iconst 0, 1) := by decide +kernel
theorem d_X8_export_2 : decode prog_10_method_10_code 2 = .ok (.invokevirtual 111, 3) := by decide +kernel
theorem d_X8_export_5 : decode prog_10_method_10_code 5 = .ok (.aload_n 1, 1) := by decide +kernel
theorem d_X8_export_6 : decode prog_10_method_10_code 6 = .ok (.aload_n 0, 1) := by decide +kernel
theorem d_X8_export_7 : decode prog_10_method_10_code 7 = .ok (.getfield 18, 3) := by decide +kernel
theorem d_X8_export_10 : decode prog_10_method_10_code 10 = .ok (.i2l, 1) := by decide +kernel
theorem d_X8_export_11 : decode prog_10_method_10_code 11 = .ok (.iconst 2, 1) := by decide +kernel
theorem d_X8_export_12 : decode prog_10_method_10_code 12 = .ok (.invokevirtual 53, 3) := by decide +kernel
theorem d_X8_export_15 : decode prog_10_method_10_code 15 = .ok (.aload_n 1, 1) := by decide +kernel
theorem d_X8_export_16 : decode prog_10_method_10_code 16 = .ok (.aload_n 0, 1) := by decide +kernel
theorem d_X8_export_17 : decode prog_10_method_10_code 17 = .ok (.getfield 14, 3) := by decide +kernel
theorem d_X8_export_20 : decode prog_10_method_10_code 20 = .ok (.iconst 0, 1) := by decide +kernel
theorem d_X8_export_21 : decode prog_10_method_10_code 21 = .ok (.aload_n 0, 1) := by decide +kernel
theorem d_X8_export_22 : decode prog_10_method_10_code 22 = .ok (.getfield 14, 3) := by decide +kernel
theorem d_X8_export_25 : decode prog_10_method_10_code 25 = .ok (.getfield 32, 3) := by decide +kernel
theorem d_X8_export_28 : decode prog_10_method_10_code 28 = .ok (.invokevirtual 57, 3) := by decide +kernel
theorem d_X8_export_31 : decode prog_10_method_10_code 31 = .ok (.aload_n 1, 1) := by decide +kernel
theorem d_X8_export_32 : decode prog_10_method_10_code 32 = .ok (.aload_n 1, 1) := by decide +kernel
theorem d_X8_export_33 : decode prog_10_method_10_code 33 = .ok (.iconst 0, 1) := by decide +kernel
theorem d_X8_export_34 : decode prog_10_method_10_code 34 = .ok (.aload_n 1, 1) := by decide +kernel
theorem d_X8_export_35 : decode prog_10_method_10_code 35 = .ok (.getfield 32, 3) := by decide +kernel
theorem d_X8_export_38 : decode prog_10_method_10_code 38 = .ok (.invokevirtual 89, 3) := by decide +kernel
theorem d_X8_export_41 : decode prog_10_method_10_code 41 = .ok (.bipush 8, 2) := by decide +kernel
theorem d_X8_export_43 : decode prog_10_method_10_code 43 = .ok (.invokevirtual 53, 3) := by decide +kernel
theorem d_X8_export_46 : decode prog_10_method_10_code 46 = .ok (.return_, 1) := by decide +kernel
theorem v_X8_export_0 {E : EE} {d : Nat} {Q : Option AV → AH → Prop} {x0 : Nat} {x1 : Nat} {G : AH} (h0 : 0 < d) (h : isO E G x1 0 ∧ (wpV E (d - 1) M_X0_keep [vr x1, vi 0] G (fun G1 => isO E G1 x0 8 ∧ (isO E G1 x1 0 ∧ (wpV E (d - 1) M_X0_addNumber [vr x1, vj (Int32.toInt64 (gI G1 x0 1)), vi 2] G1 (fun G3 => isO E G3 x0 8 ∧ (isO E G3 (gR G3 x0 0) 0 ∧ (isO E G3 x1 0 ∧ (wpV E (d - 1) M_X0_addAll [vr x1, vr (gR G3 x0 0), vi 0, vi (gI G3 (gR G3 x0 0) 1)] G3 (fun G6 => isO E G6 x1 0 ∧ (wpJ E (d - 1) M_X0_sum [vr x1, vi 0, vi (gI G6 x1 1)] G6 (fun r8 G9 => isO E G9 x1 0 ∧ (wpV E (d - 1) M_X0_addNumber [vr x1, vj r8, vi 8] G9 (fun G10 => Q none G10)))))))))))))) : wp E d M_X8_export 0 [some (vr x0), some (vr x1)] [] G Q := by
  refine wp_aload_n (pc := 0) d_X8_export_0 rfl ?_
  refine wp_iconst (pc := 1) (v := 0) d_X8_export_1 rfl ?_
  obtain ⟨ho14, h⟩ := h
  refine wp_invV (pc := 2) (N := M_X0_keep) (As := [vi _]) (rest := []) (r := (cn_0, ct_0, 2)) d_X8_export_2 ml_X8_111 mk_X0_keep mv_X0_keep h0 ho14 rfl rfl (Nat.le_of_ble_eq_true rfl) ?_
  refine wpM.mono h (fun rr G1 hr => ?_)
  obtain ⟨rfl, h⟩ := hr
  show wp E d M_X8_export 5 [some (vr _), some (vr _)] [] G1 Q
  refine wp_aload_n (pc := 5) d_X8_export_5 rfl ?_
  refine wp_aload_n (pc := 6) d_X8_export_6 rfl ?_
  obtain ⟨ho2, h⟩ := h
  refine wp_getI (pc := 7) d_X8_export_7 fl_X8_18 (fun _ _ _ => rfl) ho2 ?_
  refine wp_i2l (pc := 10) d_X8_export_10 ?_
  refine wp_iconst (pc := 11) (v := 2) d_X8_export_11 rfl ?_
  obtain ⟨ho13, h⟩ := h
  refine wp_invV (pc := 12) (N := M_X0_addNumber) (As := [vj _, vi _]) (rest := []) (r := (cn_0, ct_0, 2)) d_X8_export_12 ml_X8_53 mk_X0_addNumber mv_X0_addNumber h0 ho13 rfl rfl (Nat.le_of_ble_eq_true rfl) ?_
  refine wpM.mono h (fun rr G3 hr => ?_)
  obtain ⟨rfl, h⟩ := hr
  show wp E d M_X8_export 15 [some (vr _), some (vr _)] [] G3 Q
  refine wp_aload_n (pc := 15) d_X8_export_15 rfl ?_
  refine wp_aload_n (pc := 16) d_X8_export_16 rfl ?_
  obtain ⟨ho4, h⟩ := h
  refine wp_getR (pc := 17) d_X8_export_17 fl_X8_14 (fun _ _ _ => rfl) ho4 ?_
  refine wp_iconst (pc := 20) (v := 0) d_X8_export_20 rfl ?_
  refine wp_aload_n (pc := 21) d_X8_export_21 rfl ?_
  refine wp_getR (pc := 22) d_X8_export_22 fl_X8_14 (fun _ _ _ => rfl) ho4 ?_
  obtain ⟨ho5, h⟩ := h
  refine wp_getI (pc := 25) d_X8_export_25 fl_X8_32 (fun _ _ _ => rfl) ho5 ?_
  obtain ⟨ho12, h⟩ := h
  refine wp_invV (pc := 28) (N := M_X0_addAll) (As := [vr _, vi _, vi _]) (rest := []) (r := (cn_0, ct_0, 2)) d_X8_export_28 ml_X8_57 mk_X0_addAll mv_X0_addAll h0 ho12 rfl rfl (Nat.le_of_ble_eq_true rfl) ?_
  refine wpM.mono h (fun rr G6 hr => ?_)
  obtain ⟨rfl, h⟩ := hr
  show wp E d M_X8_export 31 [some (vr _), some (vr _)] [] G6 Q
  refine wp_aload_n (pc := 31) d_X8_export_31 rfl ?_
  refine wp_aload_n (pc := 32) d_X8_export_32 rfl ?_
  refine wp_iconst (pc := 33) (v := 0) d_X8_export_33 rfl ?_
  refine wp_aload_n (pc := 34) d_X8_export_34 rfl ?_
  obtain ⟨ho7, h⟩ := h
  refine wp_getI (pc := 35) d_X8_export_35 fl_X8_32 (fun _ _ _ => rfl) ho7 ?_
  refine wp_invV (pc := 38) (N := M_X0_sum) (As := [vi _, vi _]) (rest := [vr _]) (r := (cn_0, ct_0, 2)) d_X8_export_38 ml_X8_89 mk_X0_sum mv_X0_sum h0 ho7 rfl rfl (Nat.le_of_ble_eq_true rfl) ?_
  refine wpM.mono h (fun rr G9 hr => ?_)
  obtain ⟨r8, rfl, h⟩ := hr
  show wp E d M_X8_export 41 [some (vr _), some (vr _)] [vj _, vr _] G9 Q
  refine wp_bipush (pc := 41) (v := 8) d_X8_export_41 rfl ?_
  obtain ⟨ho11, h⟩ := h
  refine wp_invV (pc := 43) (N := M_X0_addNumber) (As := [vj _, vi _]) (rest := []) (r := (cn_0, ct_0, 2)) d_X8_export_43 ml_X8_53 mk_X0_addNumber mv_X0_addNumber h0 ho11 rfl rfl (Nat.le_of_ble_eq_true rfl) ?_
  refine wpM.mono h (fun rr G10 hr => ?_)
  obtain ⟨rfl, h⟩ := hr
  show wp E d M_X8_export 46 [some (vr _), some (vr _)] [] G10 Q
  exact wp_vret (pc := 46) d_X8_export_46 rfl h
theorem d_X8_lose_0 : decode prog_10_method_9_code 0 = .ok (.aload_n 0, 1) := by decide +kernel
theorem d_X8_lose_1 : decode prog_10_method_9_code 1 = .ok (.getfield 29, 3) := by decide +kernel
theorem d_X8_lose_4 : decode prog_10_method_9_code 4 = .ok (.ifCond .ge 8, 3) := by decide +kernel
theorem d_X8_lose_7 : decode prog_10_method_9_code 7 = .ok (.aload_n 0, 1) := by decide +kernel
theorem d_X8_lose_8 : decode prog_10_method_9_code 8 = .ok (.getfield 18, 3) := by decide +kernel
theorem d_X8_lose_11 : decode prog_10_method_9_code 11 = .ok (.ireturn, 1) := by decide +kernel
theorem d_X8_lose_12 : decode prog_10_method_9_code 12 = .ok (.aload_n 0, 1) := by decide +kernel
theorem d_X8_lose_13 : decode prog_10_method_9_code 13 = .ok (.getfield 29, 3) := by decide +kernel
theorem d_X8_lose_16 : decode prog_10_method_9_code 16 = .ok (.ifCond .ne 7, 3) := by decide +kernel
theorem d_X8_lose_19 : decode prog_10_method_9_code 19 = .ok (.iconst 0, 1) := by decide +kernel
theorem d_X8_lose_20 : decode prog_10_method_9_code 20 = .ok (.goto 14, 3) := by decide +kernel
theorem d_X8_lose_23 : decode prog_10_method_9_code 23 = .ok (.aload_n 0, 1) := by decide +kernel
theorem d_X8_lose_24 : decode prog_10_method_9_code 24 = .ok (.getfield 22, 3) := by decide +kernel
theorem d_X8_lose_27 : decode prog_10_method_9_code 27 = .ok (.aload_n 0, 1) := by decide +kernel
theorem d_X8_lose_28 : decode prog_10_method_9_code 28 = .ok (.getfield 29, 3) := by decide +kernel
theorem d_X8_lose_31 : decode prog_10_method_9_code 31 = .ok (.iconst 1, 1) := by decide +kernel
theorem d_X8_lose_32 : decode prog_10_method_9_code 32 = .ok (.isub, 1) := by decide +kernel
theorem d_X8_lose_33 : decode prog_10_method_9_code 33 = .ok (.iaload, 1) := by decide +kernel
theorem d_X8_lose_34 : decode prog_10_method_9_code 34 = .ok (.istore_n 2, 1) := by decide +kernel
theorem d_X8_lose_35 : decode prog_10_method_9_code 35 = .ok (.aload_n 0, 1) := by decide +kernel
theorem d_X8_lose_36 : decode prog_10_method_9_code 36 = .ok (.getfield 18, 3) := by decide +kernel
theorem d_X8_lose_39 : decode prog_10_method_9_code 39 = .ok (.aload_n 0, 1) := by decide +kernel
theorem d_X8_lose_40 : decode prog_10_method_9_code 40 = .ok (.getfield 29, 3) := by decide +kernel
theorem d_X8_lose_43 : decode prog_10_method_9_code 43 = .ok (.if_icmp .le 33, 3) := by decide +kernel
theorem d_X8_lose_46 : decode prog_10_method_9_code 46 = .ok (.aload_n 0, 1) := by decide +kernel
theorem d_X8_lose_47 : decode prog_10_method_9_code 47 = .ok (.getfield 22, 3) := by decide +kernel
theorem d_X8_lose_50 : decode prog_10_method_9_code 50 = .ok (.aload_n 0, 1) := by decide +kernel
theorem d_X8_lose_51 : decode prog_10_method_9_code 51 = .ok (.getfield 18, 3) := by decide +kernel
theorem d_X8_lose_54 : decode prog_10_method_9_code 54 = .ok (.iconst 1, 1) := by decide +kernel
theorem d_X8_lose_55 : decode prog_10_method_9_code 55 = .ok (.isub, 1) := by decide +kernel
theorem d_X8_lose_56 : decode prog_10_method_9_code 56 = .ok (.iaload, 1) := by decide +kernel
theorem d_X8_lose_57 : decode prog_10_method_9_code 57 = .ok (.iload_n 2, 1) := by decide +kernel
theorem d_X8_lose_58 : decode prog_10_method_9_code 58 = .ok (.isub, 1) := by decide +kernel
theorem d_X8_lose_59 : decode prog_10_method_9_code 59 = .ok (.iload_n 1, 1) := by decide +kernel
theorem d_X8_lose_60 : decode prog_10_method_9_code 60 = .ok (.if_icmp .le 16, 3) := by decide +kernel
theorem d_X8_lose_63 : decode prog_10_method_9_code 63 = .ok (.aload_n 0, 1) := by decide +kernel
theorem d_X8_lose_64 : decode prog_10_method_9_code 64 = .ok (.dup, 1) := by decide +kernel
theorem d_X8_lose_65 : decode prog_10_method_9_code 65 = .ok (.getfield 18, 3) := by decide +kernel
theorem d_X8_lose_68 : decode prog_10_method_9_code 68 = .ok (.iconst 1, 1) := by decide +kernel
theorem d_X8_lose_69 : decode prog_10_method_9_code 69 = .ok (.isub, 1) := by decide +kernel
theorem d_X8_lose_70 : decode prog_10_method_9_code 70 = .ok (.putfield 18, 3) := by decide +kernel
theorem d_X8_lose_73 : decode prog_10_method_9_code 73 = .ok (.goto (-38), 3) := by decide +kernel
theorem d_X8_lose_76 : decode prog_10_method_9_code 76 = .ok (.aload_n 0, 1) := by decide +kernel
theorem d_X8_lose_77 : decode prog_10_method_9_code 77 = .ok (.getfield 14, 3) := by decide +kernel
theorem d_X8_lose_80 : decode prog_10_method_9_code 80 = .ok (.aload_n 0, 1) := by decide +kernel
theorem d_X8_lose_81 : decode prog_10_method_9_code 81 = .ok (.getfield 18, 3) := by decide +kernel
theorem d_X8_lose_84 : decode prog_10_method_9_code 84 = .ok (.ifCond .ne 7, 3) := by decide +kernel
theorem d_X8_lose_87 : decode prog_10_method_9_code 87 = .ok (.iconst 0, 1) := by decide +kernel
theorem d_X8_lose_88 : decode prog_10_method_9_code 88 = .ok (.goto 14, 3) := by decide +kernel
theorem d_X8_lose_91 : decode prog_10_method_9_code 91 = .ok (.aload_n 0, 1) := by decide +kernel
theorem d_X8_lose_92 : decode prog_10_method_9_code 92 = .ok (.getfield 22, 3) := by decide +kernel
theorem d_X8_lose_95 : decode prog_10_method_9_code 95 = .ok (.aload_n 0, 1) := by decide +kernel
theorem d_X8_lose_96 : decode prog_10_method_9_code 96 = .ok (.getfield 18, 3) := by decide +kernel
theorem d_X8_lose_99 : decode prog_10_method_9_code 99 = .ok (.iconst 1, 1) := by decide +kernel
theorem d_X8_lose_100 : decode prog_10_method_9_code 100 = .ok (.isub, 1) := by decide +kernel
theorem d_X8_lose_101 : decode prog_10_method_9_code 101 = .ok (.iaload, 1) := by decide +kernel
theorem d_X8_lose_102 : decode prog_10_method_9_code 102 = .ok (.invokevirtual 111, 3) := by decide +kernel
theorem d_X8_lose_105 : decode prog_10_method_9_code 105 = .ok (.aload_n 0, 1) := by decide +kernel
theorem d_X8_lose_106 : decode prog_10_method_9_code 106 = .ok (.iconst (-1), 1) := by decide +kernel
theorem d_X8_lose_107 : decode prog_10_method_9_code 107 = .ok (.putfield 29, 3) := by decide +kernel
theorem d_X8_lose_110 : decode prog_10_method_9_code 110 = .ok (.aload_n 0, 1) := by decide +kernel
theorem d_X8_lose_111 : decode prog_10_method_9_code 111 = .ok (.getfield 18, 3) := by decide +kernel
theorem d_X8_lose_114 : decode prog_10_method_9_code 114 = .ok (.ireturn, 1) := by decide +kernel
theorem v_X8_lose_0 {E : EE} {d : Nat} {Q : Option AV → AH → Prop} {x0 : Nat} {x1 : Int32} {G : AH} (h : isO E G x0 8 ∧ ((0 ≤ (gI G x0 4) → (¬ (gI G x0 4) = 0 → isO E G (gR G x0 2) 14 ∧ (vp_in ((gI G x0 4) - 1) (gN G (gR G x0 2)) ∧ (wp E d M_X8_lose 34 [some (vr x0), some (vi x1), none] [vi (gI G (gR G x0 2) (Int32.toNatClampNeg ((gI G x0 4) - 1)))] G Q))) ∧ ((gI G x0 4) = 0 → wp E d M_X8_lose 34 [some (vr x0), some (vi x1), none] [vi 0] G Q)) ∧ (¬ (0 ≤ (gI G x0 4)) → Q (some (vi (gI G x0 1))) G))) : wp E d M_X8_lose 0 [some (vr x0), some (vi x1), none] [] G Q := by
  refine wp_aload_n (pc := 0) d_X8_lose_0 rfl ?_
  obtain ⟨ho1, h⟩ := h
  refine wp_getI (pc := 1) d_X8_lose_1 fl_X8_29 (fun _ _ _ => rfl) ho1 ?_
  refine wp_if_ge (pc := 4) (tgt := 12) d_X8_lose_4 (by decide) (fun hc => ?_) (fun hc => ?_)
  · have h := h.1 hc
    refine wp_aload_n (pc := 12) d_X8_lose_12 rfl ?_
    refine wp_getI (pc := 13) d_X8_lose_13 fl_X8_29 (fun _ _ _ => rfl) ho1 ?_
    refine wp_if_ne (pc := 16) (tgt := 23) d_X8_lose_16 (by decide) (fun hc => ?_) (fun hc => ?_)
    · have h := h.1 hc
      refine wp_aload_n (pc := 23) d_X8_lose_23 rfl ?_
      refine wp_getR (pc := 24) d_X8_lose_24 fl_X8_22 (fun _ _ _ => rfl) ho1 ?_
      refine wp_aload_n (pc := 27) d_X8_lose_27 rfl ?_
      refine wp_getI (pc := 28) d_X8_lose_28 fl_X8_29 (fun _ _ _ => rfl) ho1 ?_
      refine wp_iconst (pc := 31) (v := 1) d_X8_lose_31 rfl ?_
      refine wp_isub (pc := 32) d_X8_lose_32 ?_
      obtain ⟨ho2, h⟩ := h
      obtain ⟨hi3, h⟩ := h
      refine wp_iald (pc := 33) d_X8_lose_33 ho2 hi3 ?_
      refine wp_sub ?_ h
      exact ⟨rfl, ⟨rfl, trivial⟩⟩
    · have h := h.2 hc
      refine wp_iconst (pc := 19) (v := 0) d_X8_lose_19 rfl ?_
      refine wp_goto (pc := 20) (tgt := 34) d_X8_lose_20 (by decide) ?_
      refine wp_sub ?_ h
      exact ⟨rfl, ⟨rfl, trivial⟩⟩
  · have h := h.2 hc
    refine wp_aload_n (pc := 7) d_X8_lose_7 rfl ?_
    refine wp_getI (pc := 8) d_X8_lose_8 fl_X8_18 (fun _ _ _ => rfl) ho1 ?_
    exact wp_iret (pc := 11) d_X8_lose_11 rfl h
theorem v_X8_lose_34 {E : EE} {d : Nat} {Q : Option AV → AH → Prop} {x0 : Nat} {x1 : Int32} {t0 : Int32} {G : AH} (h : wp E d M_X8_lose 35 [some (vr x0), some (vi x1), some (vi t0)] [] G Q) : wp E d M_X8_lose 34 [some (vr x0), some (vi x1), none] [vi t0] G Q := by
  refine wp_istore_n (pc := 34) (lv' := [some (vr _), some (vi _), some (vi _)]) d_X8_lose_34 (by decide) rfl ?_
  refine wp_sub ?_ h
  exact ⟨rfl, ⟨rfl, ⟨rfl, trivial⟩⟩⟩
theorem v_X8_lose_35 {E : EE} {d : Nat} {Q : Option AV → AH → Prop} {x0 : Nat} {x1 : Int32} {x2 : Int32} {G : AH} (h : isO E G x0 8 ∧ (((gI G x0 1) ≤ (gI G x0 4) → wp E d M_X8_lose 76 [some (vr x0), some (vi x1), some (vi x2)] [] G Q) ∧ (¬ ((gI G x0 1) ≤ (gI G x0 4)) → isO E G (gR G x0 2) 14 ∧ (vp_in ((gI G x0 1) - 1) (gN G (gR G x0 2)) ∧ ((((gI G (gR G x0 2) (Int32.toNatClampNeg ((gI G x0 1) - 1))) - x2) ≤ x1 → wp E d M_X8_lose 76 [some (vr x0), some (vi x1), some (vi x2)] [] G Q) ∧ (¬ (((gI G (gR G x0 2) (Int32.toNatClampNeg ((gI G x0 1) - 1))) - x2) ≤ x1) → wp E d M_X8_lose 35 [some (vr x0), some (vi x1), some (vi x2)] [] (sI G x0 1 ((gI G x0 1) - 1)) Q)))))) : wp E d M_X8_lose 35 [some (vr x0), some (vi x1), some (vi x2)] [] G Q := by
  refine wp_aload_n (pc := 35) d_X8_lose_35 rfl ?_
  obtain ⟨ho1, h⟩ := h
  refine wp_getI (pc := 36) d_X8_lose_36 fl_X8_18 (fun _ _ _ => rfl) ho1 ?_
  refine wp_aload_n (pc := 39) d_X8_lose_39 rfl ?_
  refine wp_getI (pc := 40) d_X8_lose_40 fl_X8_29 (fun _ _ _ => rfl) ho1 ?_
  refine wp_icmp_le (pc := 43) (tgt := 76) d_X8_lose_43 (by decide) (fun hc => ?_) (fun hc => ?_)
  · have h := h.1 hc
    refine wp_sub ?_ h
    exact ⟨rfl, ⟨rfl, ⟨rfl, trivial⟩⟩⟩
  · have h := h.2 hc
    refine wp_aload_n (pc := 46) d_X8_lose_46 rfl ?_
    refine wp_getR (pc := 47) d_X8_lose_47 fl_X8_22 (fun _ _ _ => rfl) ho1 ?_
    refine wp_aload_n (pc := 50) d_X8_lose_50 rfl ?_
    refine wp_getI (pc := 51) d_X8_lose_51 fl_X8_18 (fun _ _ _ => rfl) ho1 ?_
    refine wp_iconst (pc := 54) (v := 1) d_X8_lose_54 rfl ?_
    refine wp_isub (pc := 55) d_X8_lose_55 ?_
    obtain ⟨ho2, h⟩ := h
    obtain ⟨hi3, h⟩ := h
    refine wp_iald (pc := 56) d_X8_lose_56 ho2 hi3 ?_
    refine wp_iload_n (pc := 57) d_X8_lose_57 rfl ?_
    refine wp_isub (pc := 58) d_X8_lose_58 ?_
    refine wp_iload_n (pc := 59) d_X8_lose_59 rfl ?_
    refine wp_icmp_le (pc := 60) (tgt := 76) d_X8_lose_60 (by decide) (fun hc => ?_) (fun hc => ?_)
    · have h := h.1 hc
      refine wp_sub ?_ h
      exact ⟨rfl, ⟨rfl, ⟨rfl, trivial⟩⟩⟩
    · have h := h.2 hc
      refine wp_aload_n (pc := 63) d_X8_lose_63 rfl ?_
      refine wp_dup (pc := 64) d_X8_lose_64 (c1_r _) ?_
      refine wp_getI (pc := 65) d_X8_lose_65 fl_X8_18 (fun _ _ _ => rfl) ho1 ?_
      refine wp_iconst (pc := 68) (v := 1) d_X8_lose_68 rfl ?_
      refine wp_isub (pc := 69) d_X8_lose_69 ?_
      refine wp_putI (pc := 70) d_X8_lose_70 fl_X8_18 (fun _ _ _ => rfl) (Or.inl rfl) ho1 (okI_int _) ?_
      refine wp_goto (pc := 73) (tgt := 35) d_X8_lose_73 (by decide) ?_
      refine wp_sub ?_ h
      exact ⟨rfl, ⟨rfl, ⟨rfl, trivial⟩⟩⟩
theorem v_X8_lose_76 {E : EE} {d : Nat} {Q : Option AV → AH → Prop} {x0 : Nat} {x1 : Int32} {x2 : Int32} {G : AH} (h : isO E G x0 8 ∧ ((¬ (gI G x0 1) = 0 → isO E G (gR G x0 2) 14 ∧ (vp_in ((gI G x0 1) - 1) (gN G (gR G x0 2)) ∧ (wp E d M_X8_lose 102 [some (vr x0), some (vi x1), some (vi x2)] [vi (gI G (gR G x0 2) (Int32.toNatClampNeg ((gI G x0 1) - 1))), vr (gR G x0 0)] G Q))) ∧ ((gI G x0 1) = 0 → wp E d M_X8_lose 102 [some (vr x0), some (vi x1), some (vi x2)] [vi 0, vr (gR G x0 0)] G Q))) : wp E d M_X8_lose 76 [some (vr x0), some (vi x1), some (vi x2)] [] G Q := by
  refine wp_aload_n (pc := 76) d_X8_lose_76 rfl ?_
  obtain ⟨ho1, h⟩ := h
  refine wp_getR (pc := 77) d_X8_lose_77 fl_X8_14 (fun _ _ _ => rfl) ho1 ?_
  refine wp_aload_n (pc := 80) d_X8_lose_80 rfl ?_
  refine wp_getI (pc := 81) d_X8_lose_81 fl_X8_18 (fun _ _ _ => rfl) ho1 ?_
  refine wp_if_ne (pc := 84) (tgt := 91) d_X8_lose_84 (by decide) (fun hc => ?_) (fun hc => ?_)
  · have h := h.1 hc
    refine wp_aload_n (pc := 91) d_X8_lose_91 rfl ?_
    refine wp_getR (pc := 92) d_X8_lose_92 fl_X8_22 (fun _ _ _ => rfl) ho1 ?_
    refine wp_aload_n (pc := 95) d_X8_lose_95 rfl ?_
    refine wp_getI (pc := 96) d_X8_lose_96 fl_X8_18 (fun _ _ _ => rfl) ho1 ?_
    refine wp_iconst (pc := 99) (v := 1) d_X8_lose_99 rfl ?_
    refine wp_isub (pc := 100) d_X8_lose_100 ?_
    obtain ⟨ho2, h⟩ := h
    obtain ⟨hi3, h⟩ := h
    refine wp_iald (pc := 101) d_X8_lose_101 ho2 hi3 ?_
    refine wp_sub ?_ h
    exact ⟨rfl, ⟨rfl, ⟨rfl, trivial⟩⟩⟩
  · have h := h.2 hc
    refine wp_iconst (pc := 87) (v := 0) d_X8_lose_87 rfl ?_
    refine wp_goto (pc := 88) (tgt := 102) d_X8_lose_88 (by decide) ?_
    refine wp_sub ?_ h
    exact ⟨rfl, ⟨rfl, ⟨rfl, trivial⟩⟩⟩
theorem v_X8_lose_102 {E : EE} {d : Nat} {Q : Option AV → AH → Prop} {x0 : Nat} {x1 : Int32} {x2 : Int32} {t0 : Nat} {t1 : Int32} {G : AH} (h0 : 0 < d) (h : isO E G t0 0 ∧ (wpV E (d - 1) M_X0_keep [vr t0, vi t1] G (fun G1 => isO E G1 x0 8 ∧ (Q (some (vi (gI (sI G1 x0 4 (-1)) x0 1))) (sI G1 x0 4 (-1)))))) : wp E d M_X8_lose 102 [some (vr x0), some (vi x1), some (vi x2)] [vi t1, vr t0] G Q := by
  obtain ⟨ho3, h⟩ := h
  refine wp_invV (pc := 102) (N := M_X0_keep) (As := [vi _]) (rest := []) (r := (cn_0, ct_0, 2)) d_X8_lose_102 ml_X8_111 mk_X0_keep mv_X0_keep h0 ho3 rfl rfl (Nat.le_of_ble_eq_true rfl) ?_
  refine wpM.mono h (fun rr G1 hr => ?_)
  obtain ⟨rfl, h⟩ := hr
  show wp E d M_X8_lose 105 [some (vr _), some (vi _), some (vi _)] [] G1 Q
  refine wp_aload_n (pc := 105) d_X8_lose_105 rfl ?_
  refine wp_iconst (pc := 106) (v := (-1)) d_X8_lose_106 rfl ?_
  obtain ⟨ho2, h⟩ := h
  refine wp_putI (pc := 107) d_X8_lose_107 fl_X8_29 (fun _ _ _ => rfl) (Or.inl rfl) ho2 (okI_int _) ?_
  refine wp_aload_n (pc := 110) d_X8_lose_110 rfl ?_
  refine wp_getI (pc := 111) d_X8_lose_111 fl_X8_18 (fun _ _ _ => rfl) ho2 ?_
  exact wp_iret (pc := 114) d_X8_lose_114 rfl h
theorem d_X8_start_0 : decode prog_10_method_2_code 0 = .ok (.iload_n 1, 1) := by decide +kernel
theorem d_X8_start_1 : decode prog_10_method_2_code 1 = .ok (.ifCond .lt 17, 3) := by decide +kernel
theorem d_X8_start_4 : decode prog_10_method_2_code 4 = .ok (.iload_n 1, 1) := by decide +kernel
theorem d_X8_start_5 : decode prog_10_method_2_code 5 = .ok (.aload_n 0, 1) := by decide +kernel
theorem d_X8_start_6 : decode prog_10_method_2_code 6 = .ok (.getfield 18, 3) := by decide +kernel
theorem d_X8_start_9 : decode prog_10_method_2_code 9 = .ok (.if_icmp .ge 9, 3) := by decide +kernel
theorem d_X8_start_12 : decode prog_10_method_2_code 12 = .ok (.iload_n 1, 1) := by decide +kernel
theorem d_X8_start_13 : decode prog_10_method_2_code 13 = .ok (.bipush 100, 2) := by decide +kernel
theorem d_X8_start_15 : decode prog_10_method_2_code 15 = .ok (.if_icmp .lt 5, 3) := by decide +kernel
theorem d_X8_start_18 : decode prog_10_method_2_code 18 = .ok (.iconst (-1), 1) := by decide +kernel
theorem d_X8_start_19 : decode prog_10_method_2_code 19 = .ok (.ireturn, 1) := by decide +kernel
theorem d_X8_start_20 : decode prog_10_method_2_code 20 = .ok (.iload_n 1, 1) := by decide +kernel
theorem d_X8_start_21 : decode prog_10_method_2_code 21 = .ok (.ifCond .ne 7, 3) := by decide +kernel
theorem d_X8_start_24 : decode prog_10_method_2_code 24 = .ok (.iconst 0, 1) := by decide +kernel
theorem d_X8_start_25 : decode prog_10_method_2_code 25 = .ok (.goto 11, 3) := by decide +kernel
theorem d_X8_start_28 : decode prog_10_method_2_code 28 = .ok (.aload_n 0, 1) := by decide +kernel
theorem d_X8_start_29 : decode prog_10_method_2_code 29 = .ok (.getfield 22, 3) := by decide +kernel
theorem d_X8_start_32 : decode prog_10_method_2_code 32 = .ok (.iload_n 1, 1) := by decide +kernel
theorem d_X8_start_33 : decode prog_10_method_2_code 33 = .ok (.iconst 1, 1) := by decide +kernel
theorem d_X8_start_34 : decode prog_10_method_2_code 34 = .ok (.isub, 1) := by decide +kernel
theorem d_X8_start_35 : decode prog_10_method_2_code 35 = .ok (.iaload, 1) := by decide +kernel
theorem d_X8_start_36 : decode prog_10_method_2_code 36 = .ok (.ireturn, 1) := by decide +kernel
theorem v_X8_start_0 {E : EE} {d : Nat} {Q : Option AV → AH → Prop} {x0 : Nat} {x1 : Int32} {G : AH} (h : (x1 < 0 → Q (some (vi (-1))) G) ∧ (¬ (x1 < 0) → isO E G x0 8 ∧ (((gI G x0 1) ≤ x1 → Q (some (vi (-1))) G) ∧ (¬ ((gI G x0 1) ≤ x1) → (x1 < 100 → (¬ x1 = 0 → isO E G (gR G x0 2) 14 ∧ (vp_in (x1 - 1) (gN G (gR G x0 2)) ∧ (Q (some (vi (gI G (gR G x0 2) (Int32.toNatClampNeg (x1 - 1))))) G))) ∧ (x1 = 0 → Q (some (vi 0)) G)) ∧ (¬ (x1 < 100) → Q (some (vi (-1))) G))))) : wp E d M_X8_start 0 [some (vr x0), some (vi x1)] [] G Q := by
  refine wp_iload_n (pc := 0) d_X8_start_0 rfl ?_
  refine wp_if_lt (pc := 1) (tgt := 18) d_X8_start_1 (by decide) (fun hc => ?_) (fun hc => ?_)
  · have h := h.1 hc
    refine wp_iconst (pc := 18) (v := (-1)) d_X8_start_18 rfl ?_
    exact wp_iret (pc := 19) d_X8_start_19 rfl h
  · have h := h.2 hc
    refine wp_iload_n (pc := 4) d_X8_start_4 rfl ?_
    refine wp_aload_n (pc := 5) d_X8_start_5 rfl ?_
    obtain ⟨ho1, h⟩ := h
    refine wp_getI (pc := 6) d_X8_start_6 fl_X8_18 (fun _ _ _ => rfl) ho1 ?_
    refine wp_icmp_ge (pc := 9) (tgt := 18) d_X8_start_9 (by decide) (fun hc => ?_) (fun hc => ?_)
    · have h := h.1 hc
      refine wp_iconst (pc := 18) (v := (-1)) d_X8_start_18 rfl ?_
      exact wp_iret (pc := 19) d_X8_start_19 rfl h
    · have h := h.2 hc
      refine wp_iload_n (pc := 12) d_X8_start_12 rfl ?_
      refine wp_bipush (pc := 13) (v := 100) d_X8_start_13 rfl ?_
      refine wp_icmp_lt (pc := 15) (tgt := 20) d_X8_start_15 (by decide) (fun hc => ?_) (fun hc => ?_)
      · have h := h.1 hc
        refine wp_iload_n (pc := 20) d_X8_start_20 rfl ?_
        refine wp_if_ne (pc := 21) (tgt := 28) d_X8_start_21 (by decide) (fun hc => ?_) (fun hc => ?_)
        · have h := h.1 hc
          refine wp_aload_n (pc := 28) d_X8_start_28 rfl ?_
          refine wp_getR (pc := 29) d_X8_start_29 fl_X8_22 (fun _ _ _ => rfl) ho1 ?_
          refine wp_iload_n (pc := 32) d_X8_start_32 rfl ?_
          refine wp_iconst (pc := 33) (v := 1) d_X8_start_33 rfl ?_
          refine wp_isub (pc := 34) d_X8_start_34 ?_
          obtain ⟨ho2, h⟩ := h
          obtain ⟨hi3, h⟩ := h
          refine wp_iald (pc := 35) d_X8_start_35 ho2 hi3 ?_
          exact wp_iret (pc := 36) d_X8_start_36 rfl h
        · have h := h.2 hc
          refine wp_iconst (pc := 24) (v := 0) d_X8_start_24 rfl ?_
          refine wp_goto (pc := 25) (tgt := 36) d_X8_start_25 (by decide) ?_
          exact wp_iret (pc := 36) d_X8_start_36 rfl h
      · have h := h.2 hc
        refine wp_iconst (pc := 18) (v := (-1)) d_X8_start_18 rfl ?_
        exact wp_iret (pc := 19) d_X8_start_19 rfl h
theorem d_X8_add_0 : decode prog_10_method_4_code 0 = .ok (.aload_n 0, 1) := by decide +kernel
theorem d_X8_add_1 : decode prog_10_method_4_code 1 = .ok (.getfield 14, 3) := by decide +kernel
theorem d_X8_add_4 : decode prog_10_method_4_code 4 = .ok (.getfield 32, 3) := by decide +kernel
theorem d_X8_add_7 : decode prog_10_method_4_code 7 = .ok (.istore_n 2, 1) := by decide +kernel
theorem d_X8_add_8 : decode prog_10_method_4_code 8 = .ok (.iconst 3, 1) := by decide +kernel
theorem d_X8_add_9 : decode prog_10_method_4_code 9 = .ok (.aload_n 1, 1) := by decide +kernel
theorem d_X8_add_10 : decode prog_10_method_4_code 10 = .ok (.getfield 35, 3) := by decide +kernel
theorem d_X8_add_13 : decode prog_10_method_4_code 13 = .ok (.getfield 32, 3) := by decide +kernel
theorem d_X8_add_16 : decode prog_10_method_4_code 16 = .ok (.iadd, 1) := by decide +kernel
theorem d_X8_add_17 : decode prog_10_method_4_code 17 = .ok (.aload_n 1, 1) := by decide +kernel
theorem d_X8_add_18 : decode prog_10_method_4_code 18 = .ok (.invokestatic 40, 3) := by decide +kernel
theorem d_X8_add_21 : decode prog_10_method_4_code 21 = .ok (.iadd, 1) := by decide +kernel
theorem d_X8_add_22 : decode prog_10_method_4_code 22 = .ok (.bipush 8, 2) := by decide +kernel
theorem d_X8_add_24 : decode prog_10_method_4_code 24 = .ok (.iadd, 1) := by decide +kernel
theorem d_X8_add_25 : decode prog_10_method_4_code 25 = .ok (.istore_n 3, 1) := by decide +kernel
theorem d_X8_add_26 : decode prog_10_method_4_code 26 = .ok (.aload_n 0, 1) := by decide +kernel
theorem d_X8_add_27 : decode prog_10_method_4_code 27 = .ok (.iconst 1, 1) := by decide +kernel
theorem d_X8_add_28 : decode prog_10_method_4_code 28 = .ok (.iload_n 3, 1) := by decide +kernel
theorem d_X8_add_29 : decode prog_10_method_4_code 29 = .ok (.invokevirtual 44, 3) := by decide +kernel
theorem d_X8_add_32 : decode prog_10_method_4_code 32 = .ok (.ifCond .ne 6, 3) := by decide +kernel
theorem d_X8_add_35 : decode prog_10_method_4_code 35 = .ok (.ldc 48, 2) := by decide +kernel
theorem d_X8_add_37 : decode prog_10_method_4_code 37 = .ok (.ireturn, 1) := by decide +kernel
theorem d_X8_add_38 : decode prog_10_method_4_code 38 = .ok (.aload_n 0, 1) := by decide +kernel
theorem d_X8_add_39 : decode prog_10_method_4_code 39 = .ok (.getfield 14, 3) := by decide +kernel
theorem d_X8_add_42 : decode prog_10_method_4_code 42 = .ok (.sipush 211, 3) := by decide +kernel
theorem d_X8_add_45 : decode prog_10_method_4_code 45 = .ok (.invokevirtual 49, 3) := by decide +kernel
theorem d_X8_add_48 : decode prog_10_method_4_code 48 = .ok (.aload_n 0, 1) := by decide +kernel
theorem d_X8_add_49 : decode prog_10_method_4_code 49 = .ok (.getfield 14, 3) := by decide +kernel
theorem d_X8_add_52 : decode prog_10_method_4_code 52 = .ok (.aload_n 1, 1) := by decide +kernel
theorem d_X8_add_53 : decode prog_10_method_4_code 53 = .ok (.getfield 35, 3) := by decide +kernel
theorem d_X8_add_56 : decode prog_10_method_4_code 56 = .ok (.getfield 32, 3) := by decide +kernel
theorem d_X8_add_59 : decode prog_10_method_4_code 59 = .ok (.i2l, 1) := by decide +kernel
theorem d_X8_add_60 : decode prog_10_method_4_code 60 = .ok (.iconst 2, 1) := by decide +kernel
theorem d_X8_add_61 : decode prog_10_method_4_code 61 = .ok (.invokevirtual 53, 3) := by decide +kernel
theorem d_X8_add_64 : decode prog_10_method_4_code 64 = .ok (.aload_n 0, 1) := by decide +kernel
theorem d_X8_add_65 : decode prog_10_method_4_code 65 = .ok (.getfield 14, 3) := by decide +kernel
theorem d_X8_add_68 : decode prog_10_method_4_code 68 = .ok (.aload_n 1, 1) := by decide +kernel
theorem d_X8_add_69 : decode prog_10_method_4_code 69 = .ok (.getfield 35, 3) := by decide +kernel
theorem d_X8_add_72 : decode prog_10_method_4_code 72 = .ok (.iconst 0, 1) := by decide +kernel
theorem d_X8_add_73 : decode prog_10_method_4_code 73 = .ok (.aload_n 1, 1) := by decide +kernel
theorem d_X8_add_74 : decode prog_10_method_4_code 74 = .ok (.getfield 35, 3) := by decide +kernel
theorem d_X8_add_77 : decode prog_10_method_4_code 77 = .ok (.getfield 32, 3) := by decide +kernel
theorem d_X8_add_80 : decode prog_10_method_4_code 80 = .ok (.invokevirtual 57, 3) := by decide +kernel
theorem d_X8_add_83 : decode prog_10_method_4_code 83 = .ok (.iconst 0, 1) := by decide +kernel
theorem d_X8_add_84 : decode prog_10_method_4_code 84 = .ok (.istore 4, 2) := by decide +kernel
theorem d_X8_add_86 : decode prog_10_method_4_code 86 = .ok (.iload 4, 2) := by decide +kernel
theorem d_X8_add_88 : decode prog_10_method_4_code 88 = .ok (.aload_n 1, 1) := by decide +kernel
theorem d_X8_add_89 : decode prog_10_method_4_code 89 = .ok (.getfield 61, 3) := by decide +kernel
theorem d_X8_add_92 : decode prog_10_method_4_code 92 = .ok (.iconst 0, 1) := by decide +kernel
theorem d_X8_add_93 : decode prog_10_method_4_code 93 = .ok (.iaload, 1) := by decide +kernel
theorem d_X8_add_94 : decode prog_10_method_4_code 94 = .ok (.if_icmp .ge 25, 3) := by decide +kernel
theorem d_X8_add_97 : decode prog_10_method_4_code 97 = .ok (.aload_n 0, 1) := by decide +kernel
theorem d_X8_add_98 : decode prog_10_method_4_code 98 = .ok (.getfield 14, 3) := by decide +kernel
theorem d_X8_add_101 : decode prog_10_method_4_code 101 = .ok (.aload_n 1, 1) := by decide +kernel
theorem d_X8_add_102 : decode prog_10_method_4_code 102 = .ok (.getfield 64, 3) := by decide +kernel
theorem d_X8_add_105 : decode prog_10_method_4_code 105 = .ok (.iload 4, 2) := by decide +kernel
theorem d_X8_add_107 : decode prog_10_method_4_code 107 = .ok (.iaload, 1) := by decide +kernel
theorem d_X8_add_108 : decode prog_10_method_4_code 108 = .ok (.i2l, 1) := by decide +kernel
theorem d_X8_add_109 : decode prog_10_method_4_code 109 = .ok (.iconst 4, 1) := by decide +kernel
theorem d_X8_add_110 : decode prog_10_method_4_code 110 = .ok (.invokevirtual 53, 3) := by decide +kernel
theorem d_X8_add_113 : decode prog_10_method_4_code 113 = .ok (.iinc 4 1, 3) := by decide +kernel
theorem d_X8_add_116 : decode prog_10_method_4_code 116 = .ok (.goto (-30), 3) := by decide +kernel
theorem d_X8_add_119 : decode prog_10_method_4_code 119 = .ok (.iconst 0, 1) := by decide +kernel
theorem d_X8_add_120 : decode prog_10_method_4_code 120 = .ok (.istore 4, 2) := by decide +kernel
theorem d_X8_add_122 : decode prog_10_method_4_code 122 = .ok (.iload 4, 2) := by decide +kernel
theorem d_X8_add_124 : decode prog_10_method_4_code 124 = .ok (.aload_n 1, 1) := by decide +kernel
theorem d_X8_add_125 : decode prog_10_method_4_code 125 = .ok (.getfield 67, 3) := by decide +kernel
theorem d_X8_add_128 : decode prog_10_method_4_code 128 = .ok (.getfield 71, 3) := by decide +kernel
theorem d_X8_add_131 : decode prog_10_method_4_code 131 = .ok (.if_icmp .ge 45, 3) := by decide +kernel
theorem d_X8_add_134 : decode prog_10_method_4_code 134 = .ok (.aload_n 0, 1) := by decide +kernel
theorem d_X8_add_135 : decode prog_10_method_4_code 135 = .ok (.getfield 14, 3) := by decide +kernel
theorem d_X8_add_138 : decode prog_10_method_4_code 138 = .ok (.aload_n 1, 1) := by decide +kernel
theorem d_X8_add_139 : decode prog_10_method_4_code 139 = .ok (.getfield 67, 3) := by decide +kernel
theorem d_X8_add_142 : decode prog_10_method_4_code 142 = .ok (.aload_n 1, 1) := by decide +kernel
theorem d_X8_add_143 : decode prog_10_method_4_code 143 = .ok (.getfield 76, 3) := by decide +kernel
theorem d_X8_add_146 : decode prog_10_method_4_code 146 = .ok (.iload 4, 2) := by decide +kernel
theorem d_X8_add_148 : decode prog_10_method_4_code 148 = .ok (.invokevirtual 79, 3) := by decide +kernel
theorem d_X8_add_151 : decode prog_10_method_4_code 151 = .ok (.invokevirtual 49, 3) := by decide +kernel
theorem d_X8_add_154 : decode prog_10_method_4_code 154 = .ok (.aload_n 0, 1) := by decide +kernel
theorem d_X8_add_155 : decode prog_10_method_4_code 155 = .ok (.getfield 14, 3) := by decide +kernel
theorem d_X8_add_158 : decode prog_10_method_4_code 158 = .ok (.aload_n 1, 1) := by decide +kernel
theorem d_X8_add_159 : decode prog_10_method_4_code 159 = .ok (.getfield 83, 3) := by decide +kernel
theorem d_X8_add_162 : decode prog_10_method_4_code 162 = .ok (.iload 4, 2) := by decide +kernel
theorem d_X8_add_164 : decode prog_10_method_4_code 164 = .ok (.iaload, 1) := by decide +kernel
theorem d_X8_add_165 : decode prog_10_method_4_code 165 = .ok (.i2l, 1) := by decide +kernel
theorem d_X8_add_166 : decode prog_10_method_4_code 166 = .ok (.iconst 2, 1) := by decide +kernel
theorem d_X8_add_167 : decode prog_10_method_4_code 167 = .ok (.invokevirtual 53, 3) := by decide +kernel
theorem d_X8_add_170 : decode prog_10_method_4_code 170 = .ok (.iinc 4 1, 3) := by decide +kernel
theorem d_X8_add_173 : decode prog_10_method_4_code 173 = .ok (.goto (-51), 3) := by decide +kernel
theorem d_X8_add_176 : decode prog_10_method_4_code 176 = .ok (.aload_n 0, 1) := by decide +kernel
theorem d_X8_add_177 : decode prog_10_method_4_code 177 = .ok (.getfield 14, 3) := by decide +kernel
theorem d_X8_add_180 : decode prog_10_method_4_code 180 = .ok (.aload_n 1, 1) := by decide +kernel
theorem d_X8_add_181 : decode prog_10_method_4_code 181 = .ok (.getfield 86, 3) := by decide +kernel
theorem d_X8_add_184 : decode prog_10_method_4_code 184 = .ok (.i2l, 1) := by decide +kernel
theorem d_X8_add_185 : decode prog_10_method_4_code 185 = .ok (.iconst 2, 1) := by decide +kernel
theorem d_X8_add_186 : decode prog_10_method_4_code 186 = .ok (.invokevirtual 53, 3) := by decide +kernel
theorem d_X8_add_189 : decode prog_10_method_4_code 189 = .ok (.aload_n 0, 1) := by decide +kernel
theorem d_X8_add_190 : decode prog_10_method_4_code 190 = .ok (.getfield 14, 3) := by decide +kernel
theorem d_X8_add_193 : decode prog_10_method_4_code 193 = .ok (.aload_n 0, 1) := by decide +kernel
theorem d_X8_add_194 : decode prog_10_method_4_code 194 = .ok (.getfield 14, 3) := by decide +kernel
theorem d_X8_add_197 : decode prog_10_method_4_code 197 = .ok (.iload_n 2, 1) := by decide +kernel
theorem d_X8_add_198 : decode prog_10_method_4_code 198 = .ok (.aload_n 0, 1) := by decide +kernel
theorem d_X8_add_199 : decode prog_10_method_4_code 199 = .ok (.getfield 14, 3) := by decide +kernel
theorem d_X8_add_202 : decode prog_10_method_4_code 202 = .ok (.getfield 32, 3) := by decide +kernel
theorem d_X8_add_205 : decode prog_10_method_4_code 205 = .ok (.invokevirtual 89, 3) := by decide +kernel
theorem d_X8_add_208 : decode prog_10_method_4_code 208 = .ok (.bipush 8, 2) := by decide +kernel
theorem d_X8_add_210 : decode prog_10_method_4_code 210 = .ok (.invokevirtual 53, 3) := by decide +kernel
theorem d_X8_add_213 : decode prog_10_method_4_code 213 = .ok (.aload_n 0, 1) := by decide +kernel
theorem d_X8_add_214 : decode prog_10_method_4_code 214 = .ok (.aload_n 0, 1) := by decide +kernel
theorem d_X8_add_215 : decode prog_10_method_4_code 215 = .ok (.getfield 18, 3) := by decide +kernel
theorem d_X8_add_218 : decode prog_10_method_4_code 218 = .ok (.putfield 29, 3) := by decide +kernel
theorem d_X8_add_221 : decode prog_10_method_4_code 221 = .ok (.aload_n 0, 1) := by decide +kernel
theorem d_X8_add_222 : decode prog_10_method_4_code 222 = .ok (.getfield 22, 3) := by decide +kernel
theorem d_X8_add_225 : decode prog_10_method_4_code 225 = .ok (.aload_n 0, 1) := by decide +kernel
theorem d_X8_add_226 : decode prog_10_method_4_code 226 = .ok (.getfield 18, 3) := by decide +kernel
theorem d_X8_add_229 : decode prog_10_method_4_code 229 = .ok (.aload_n 0, 1) := by decide +kernel
theorem d_X8_add_230 : decode prog_10_method_4_code 230 = .ok (.getfield 14, 3) := by decide +kernel
theorem d_X8_add_233 : decode prog_10_method_4_code 233 = .ok (.getfield 32, 3) := by decide +kernel
theorem d_X8_add_236 : decode prog_10_method_4_code 236 = .ok (.iastore, 1) := by decide +kernel
theorem d_X8_add_237 : decode prog_10_method_4_code 237 = .ok (.aload_n 0, 1) := by decide +kernel
theorem d_X8_add_238 : decode prog_10_method_4_code 238 = .ok (.dup, 1) := by decide +kernel
theorem d_X8_add_239 : decode prog_10_method_4_code 239 = .ok (.getfield 18, 3) := by decide +kernel
theorem d_X8_add_242 : decode prog_10_method_4_code 242 = .ok (.dup_x1, 1) := by decide +kernel
theorem d_X8_add_243 : decode prog_10_method_4_code 243 = .ok (.iconst 1, 1) := by decide +kernel
theorem d_X8_add_244 : decode prog_10_method_4_code 244 = .ok (.iadd, 1) := by decide +kernel
theorem d_X8_add_245 : decode prog_10_method_4_code 245 = .ok (.putfield 18, 3) := by decide +kernel
theorem d_X8_add_248 : decode prog_10_method_4_code 248 = .ok (.ireturn, 1) := by decide +kernel
theorem v_X8_add_0 {E : EE} {d : Nat} {Q : Option AV → AH → Prop} {x0 : Nat} {x1 : Nat} {G : AH} (h0 : 0 < d) (h : isO E G x0 8 ∧ (isO E G (gR G x0 0) 0 ∧ (isO E G x1 3 ∧ (isO E G (gR G x1 1) 0 ∧ (wpI E (d - 1) M_X8_stateLength [vr x1] G (fun r5 G6 => isO E G6 x0 8 ∧ (wpI E (d - 1) M_X8_hasRoom [vr x0, vi 1, vi (((3 + (gI G (gR G x1 1) 1)) + r5) + 8)] G6 (fun r7 G8 => (¬ r7 = 0 → isO E G8 x0 8 ∧ (isO E G8 (gR G8 x0 0) 0 ∧ (wpV E (d - 1) M_X0_add [vr (gR G8 x0 0), vi 211] G8 (fun G10 => isO E G10 x0 8 ∧ (isO E G10 x1 3 ∧ (isO E G10 (gR G10 x1 1) 0 ∧ (isO E G10 (gR G10 x0 0) 0 ∧ (wpV E (d - 1) M_X0_addNumber [vr (gR G10 x0 0), vj (Int32.toInt64 (gI G10 (gR G10 x1 1) 1)), vi 2] G10 (fun G14 => isO E G14 x0 8 ∧ (isO E G14 x1 3 ∧ (isO E G14 (gR G14 x1 1) 0 ∧ (isO E G14 (gR G14 x0 0) 0 ∧ (wpV E (d - 1) M_X0_addAll [vr (gR G14 x0 0), vr (gR G14 x1 1), vi 0, vi (gI G14 (gR G14 x1 1) 1)] G14 (fun G18 => wp E d M_X8_add 86 [some (vr x0), some (vr x1), some (vi (gI G (gR G x0 0) 1)), some (vi (((3 + (gI G (gR G x1 1) 1)) + r5) + 8)), some (vi 0)] [] G18 Q)))))))))))))) ∧ (r7 = 0 → Q (some (vi (-100000))) G8))))))))) : wp E d M_X8_add 0 [some (vr x0), some (vr x1), none, none, none] [] G Q := by
  refine wp_aload_n (pc := 0) d_X8_add_0 rfl ?_
  obtain ⟨ho1, h⟩ := h
  refine wp_getR (pc := 1) d_X8_add_1 fl_X8_14 (fun _ _ _ => rfl) ho1 ?_
  obtain ⟨ho2, h⟩ := h
  refine wp_getI (pc := 4) d_X8_add_4 fl_X8_32 (fun _ _ _ => rfl) ho2 ?_
  refine wp_istore_n (pc := 7) (lv' := [some (vr _), some (vr _), some (vi _), none, none]) d_X8_add_7 (by decide) rfl ?_
  refine wp_iconst (pc := 8) (v := 3) d_X8_add_8 rfl ?_
  refine wp_aload_n (pc := 9) d_X8_add_9 rfl ?_
  obtain ⟨ho3, h⟩ := h
  refine wp_getR (pc := 10) d_X8_add_10 fl_X8_35 (fun _ _ _ => rfl) ho3 ?_
  obtain ⟨ho4, h⟩ := h
  refine wp_getI (pc := 13) d_X8_add_13 fl_X8_32 (fun _ _ _ => rfl) ho4 ?_
  refine wp_iadd (pc := 16) d_X8_add_16 ?_
  refine wp_aload_n (pc := 17) d_X8_add_17 rfl ?_
  refine wp_invS (pc := 18) (N := M_X8_stateLength) (As := [vr _]) (rest := [vi _]) d_X8_add_18 ml_X8_40 mk_X8_stateLength ms_X8_stateLength h0 (Nat.le_of_ble_eq_true rfl) ?_
  refine wpM.mono h (fun rr G6 hr => ?_)
  obtain ⟨r5, rfl, h⟩ := hr
  show wp E d M_X8_add 21 [some (vr _), some (vr _), some (vi _), none, none] [vi _, vi _] G6 Q
  refine wp_iadd (pc := 21) d_X8_add_21 ?_
  refine wp_bipush (pc := 22) (v := 8) d_X8_add_22 rfl ?_
  refine wp_iadd (pc := 24) d_X8_add_24 ?_
  refine wp_istore_n (pc := 25) (lv' := [some (vr _), some (vr _), some (vi _), some (vi _), none]) d_X8_add_25 (by decide) rfl ?_
  refine wp_aload_n (pc := 26) d_X8_add_26 rfl ?_
  refine wp_iconst (pc := 27) (v := 1) d_X8_add_27 rfl ?_
  refine wp_iload_n (pc := 28) d_X8_add_28 rfl ?_
  obtain ⟨ho22, h⟩ := h
  refine wp_invV (pc := 29) (N := M_X8_hasRoom) (As := [vi _, vi _]) (rest := []) (r := (cn_8, ct_8, 5)) d_X8_add_29 ml_X8_44 mk_X8_hasRoom mv_X8_hasRoom h0 ho22 rfl rfl (Nat.le_of_ble_eq_true rfl) ?_
  refine wpM.mono h (fun rr G8 hr => ?_)
  obtain ⟨r7, rfl, h⟩ := hr
  show wp E d M_X8_add 32 [some (vr _), some (vr _), some (vi _), some (vi _), none] [vi _] G8 Q
  refine wp_if_ne (pc := 32) (tgt := 38) d_X8_add_32 (by decide) (fun hc => ?_) (fun hc => ?_)
  · have h := h.1 hc
    refine wp_aload_n (pc := 38) d_X8_add_38 rfl ?_
    obtain ⟨ho9, h⟩ := h
    refine wp_getR (pc := 39) d_X8_add_39 fl_X8_14 (fun _ _ _ => rfl) ho9 ?_
    refine wp_sipush (pc := 42) (v := 211) d_X8_add_42 rfl ?_
    obtain ⟨ho21, h⟩ := h
    refine wp_invV (pc := 45) (N := M_X0_add) (As := [vi _]) (rest := []) (r := (cn_0, ct_0, 2)) d_X8_add_45 ml_X8_49 mk_X0_add mv_X0_add h0 ho21 rfl rfl (Nat.le_of_ble_eq_true rfl) ?_
    refine wpM.mono h (fun rr G10 hr => ?_)
    obtain ⟨rfl, h⟩ := hr
    show wp E d M_X8_add 48 [some (vr _), some (vr _), some (vi _), some (vi _), none] [] G10 Q
    refine wp_aload_n (pc := 48) d_X8_add_48 rfl ?_
    obtain ⟨ho11, h⟩ := h
    refine wp_getR (pc := 49) d_X8_add_49 fl_X8_14 (fun _ _ _ => rfl) ho11 ?_
    refine wp_aload_n (pc := 52) d_X8_add_52 rfl ?_
    obtain ⟨ho12, h⟩ := h
    refine wp_getR (pc := 53) d_X8_add_53 fl_X8_35 (fun _ _ _ => rfl) ho12 ?_
    obtain ⟨ho13, h⟩ := h
    refine wp_getI (pc := 56) d_X8_add_56 fl_X8_32 (fun _ _ _ => rfl) ho13 ?_
    refine wp_i2l (pc := 59) d_X8_add_59 ?_
    refine wp_iconst (pc := 60) (v := 2) d_X8_add_60 rfl ?_
    obtain ⟨ho20, h⟩ := h
    refine wp_invV (pc := 61) (N := M_X0_addNumber) (As := [vj _, vi _]) (rest := []) (r := (cn_0, ct_0, 2)) d_X8_add_61 ml_X8_53 mk_X0_addNumber mv_X0_addNumber h0 ho20 rfl rfl (Nat.le_of_ble_eq_true rfl) ?_
    refine wpM.mono h (fun rr G14 hr => ?_)
    obtain ⟨rfl, h⟩ := hr
    show wp E d M_X8_add 64 [some (vr _), some (vr _), some (vi _), some (vi _), none] [] G14 Q
    refine wp_aload_n (pc := 64) d_X8_add_64 rfl ?_
    obtain ⟨ho15, h⟩ := h
    refine wp_getR (pc := 65) d_X8_add_65 fl_X8_14 (fun _ _ _ => rfl) ho15 ?_
    refine wp_aload_n (pc := 68) d_X8_add_68 rfl ?_
    obtain ⟨ho16, h⟩ := h
    refine wp_getR (pc := 69) d_X8_add_69 fl_X8_35 (fun _ _ _ => rfl) ho16 ?_
    refine wp_iconst (pc := 72) (v := 0) d_X8_add_72 rfl ?_
    refine wp_aload_n (pc := 73) d_X8_add_73 rfl ?_
    refine wp_getR (pc := 74) d_X8_add_74 fl_X8_35 (fun _ _ _ => rfl) ho16 ?_
    obtain ⟨ho17, h⟩ := h
    refine wp_getI (pc := 77) d_X8_add_77 fl_X8_32 (fun _ _ _ => rfl) ho17 ?_
    obtain ⟨ho19, h⟩ := h
    refine wp_invV (pc := 80) (N := M_X0_addAll) (As := [vr _, vi _, vi _]) (rest := []) (r := (cn_0, ct_0, 2)) d_X8_add_80 ml_X8_57 mk_X0_addAll mv_X0_addAll h0 ho19 rfl rfl (Nat.le_of_ble_eq_true rfl) ?_
    refine wpM.mono h (fun rr G18 hr => ?_)
    obtain ⟨rfl, h⟩ := hr
    show wp E d M_X8_add 83 [some (vr _), some (vr _), some (vi _), some (vi _), none] [] G18 Q
    refine wp_iconst (pc := 83) (v := 0) d_X8_add_83 rfl ?_
    refine wp_istore (pc := 84) (lv' := [some (vr _), some (vr _), some (vi _), some (vi _), some (vi _)]) d_X8_add_84 (by decide) rfl ?_
    refine wp_sub ?_ h
    exact ⟨rfl, ⟨rfl, ⟨rfl, ⟨rfl, ⟨rfl, trivial⟩⟩⟩⟩⟩
  · have h := h.2 hc
    refine wp_ldc (pc := 35) (v := (-100000)) d_X8_add_35 ci_X8_48 ?_
    exact wp_iret (pc := 37) d_X8_add_37 rfl h
theorem v_X8_add_86 {E : EE} {d : Nat} {Q : Option AV → AH → Prop} {x0 : Nat} {x1 : Nat} {x2 : Int32} {x3 : Int32} {x4 : Int32} {G : AH} (h0 : 0 < d) (h : isO E G x1 3 ∧ (isO E G (gR G x1 3) 14 ∧ (vp_in 0 (gN G (gR G x1 3)) ∧ (((gI G (gR G x1 3) (Int32.toNatClampNeg 0)) ≤ x4 → wp E d M_X8_add 122 [some (vr x0), some (vr x1), some (vi x2), some (vi x3), some (vi 0)] [] G Q) ∧ (¬ ((gI G (gR G x1 3) (Int32.toNatClampNeg 0)) ≤ x4) → isO E G x0 8 ∧ (isO E G (gR G x1 7) 14 ∧ (vp_in x4 (gN G (gR G x1 7)) ∧ (isO E G (gR G x0 0) 0 ∧ (wpV E (d - 1) M_X0_addNumber [vr (gR G x0 0), vj (Int32.toInt64 (gI G (gR G x1 7) (Int32.toNatClampNeg x4))), vi 4] G (fun G7 => wp E d M_X8_add 86 [some (vr x0), some (vr x1), some (vi x2), some (vi x3), some (vi (x4 + 1))] [] G7 Q)))))))))) : wp E d M_X8_add 86 [some (vr x0), some (vr x1), some (vi x2), some (vi x3), some (vi x4)] [] G Q := by
  refine wp_iload (pc := 86) d_X8_add_86 rfl ?_
  refine wp_aload_n (pc := 88) d_X8_add_88 rfl ?_
  obtain ⟨ho1, h⟩ := h
  refine wp_getR (pc := 89) d_X8_add_89 fl_X8_61 (fun _ _ _ => rfl) ho1 ?_
  refine wp_iconst (pc := 92) (v := 0) d_X8_add_92 rfl ?_
  obtain ⟨ho2, h⟩ := h
  obtain ⟨hi3, h⟩ := h
  refine wp_iald (pc := 93) d_X8_add_93 ho2 hi3 ?_
  refine wp_icmp_ge (pc := 94) (tgt := 119) d_X8_add_94 (by decide) (fun hc => ?_) (fun hc => ?_)
  · have h := h.1 hc
    refine wp_iconst (pc := 119) (v := 0) d_X8_add_119 rfl ?_
    refine wp_istore (pc := 120) (lv' := [some (vr _), some (vr _), some (vi _), some (vi _), some (vi _)]) d_X8_add_120 (by decide) rfl ?_
    refine wp_sub ?_ h
    exact ⟨rfl, ⟨rfl, ⟨rfl, ⟨rfl, ⟨rfl, trivial⟩⟩⟩⟩⟩
  · have h := h.2 hc
    refine wp_aload_n (pc := 97) d_X8_add_97 rfl ?_
    obtain ⟨ho4, h⟩ := h
    refine wp_getR (pc := 98) d_X8_add_98 fl_X8_14 (fun _ _ _ => rfl) ho4 ?_
    refine wp_aload_n (pc := 101) d_X8_add_101 rfl ?_
    refine wp_getR (pc := 102) d_X8_add_102 fl_X8_64 (fun _ _ _ => rfl) ho1 ?_
    refine wp_iload (pc := 105) d_X8_add_105 rfl ?_
    obtain ⟨ho5, h⟩ := h
    obtain ⟨hi6, h⟩ := h
    refine wp_iald (pc := 107) d_X8_add_107 ho5 hi6 ?_
    refine wp_i2l (pc := 108) d_X8_add_108 ?_
    refine wp_iconst (pc := 109) (v := 4) d_X8_add_109 rfl ?_
    obtain ⟨ho8, h⟩ := h
    refine wp_invV (pc := 110) (N := M_X0_addNumber) (As := [vj _, vi _]) (rest := []) (r := (cn_0, ct_0, 2)) d_X8_add_110 ml_X8_53 mk_X0_addNumber mv_X0_addNumber h0 ho8 rfl rfl (Nat.le_of_ble_eq_true rfl) ?_
    refine wpM.mono h (fun rr G7 hr => ?_)
    obtain ⟨rfl, h⟩ := hr
    show wp E d M_X8_add 113 [some (vr _), some (vr _), some (vi _), some (vi _), some (vi _)] [] G7 Q
    refine wp_iinc (pc := 113) (v := 1) (lv' := [some (vr _), some (vr _), some (vi _), some (vi _), some (vi _)]) d_X8_add_113 (by decide) rfl rfl rfl ?_
    refine wp_goto (pc := 116) (tgt := 86) d_X8_add_116 (by decide) ?_
    refine wp_sub ?_ h
    exact ⟨rfl, ⟨rfl, ⟨rfl, ⟨rfl, ⟨rfl, trivial⟩⟩⟩⟩⟩
theorem v_X8_add_122 {E : EE} {d : Nat} {Q : Option AV → AH → Prop} {x0 : Nat} {x1 : Nat} {x2 : Int32} {x3 : Int32} {x4 : Int32} {G : AH} (h0 : 0 < d) (h : isO E G x1 3 ∧ (isO E G (gR G x1 4) 7 ∧ (((gI G (gR G x1 4) 0) ≤ x4 → isO E G x0 8 ∧ (isO E G (gR G x0 0) 0 ∧ (wpV E (d - 1) M_X0_addNumber [vr (gR G x0 0), vj (Int32.toInt64 (gI G x1 9)), vi 2] G (fun G4 => isO E G4 x0 8 ∧ (isO E G4 (gR G4 x0 0) 0 ∧ (wpJ E (d - 1) M_X0_sum [vr (gR G4 x0 0), vi x2, vi (gI G4 (gR G4 x0 0) 1)] G4 (fun r7 G8 => isO E G8 (gR G4 x0 0) 0 ∧ (wpV E (d - 1) M_X0_addNumber [vr (gR G4 x0 0), vj r7, vi 8] G8 (fun G9 => isO E G9 x0 8 ∧ (∀ G11 : AH, G11 = sI G9 x0 4 (gI G9 x0 1) → isO E G11 (gR G11 x0 0) 0 ∧ (isO E G11 (gR G11 x0 2) 14 ∧ (vp_in (gI G11 x0 1) (gN G11 (gR G11 x0 2)) ∧ (∀ G16 : AH, G16 = sI G11 (gR G11 x0 2) (Int32.toNatClampNeg (gI G11 x0 1)) (gI G11 (gR G11 x0 0) 1) → ∀ G18 : AH, G18 = sI G16 x0 1 ((gI G16 x0 1) + 1) → Q (some (vi (gI G16 x0 1))) G18))))))))))))) ∧ (¬ ((gI G (gR G x1 4) 0) ≤ x4) → isO E G x0 8 ∧ (wpI E (d - 1) M_X7_valueOf [vr (gR G x1 4), vi (gI G x1 8), vi x4] G (fun r23 G24 => isO E G24 (gR G x0 0) 0 ∧ (wpV E (d - 1) M_X0_add [vr (gR G x0 0), vi r23] G24 (fun G25 => isO E G25 x0 8 ∧ (isO E G25 x1 3 ∧ (isO E G25 (gR G25 x1 10) 14 ∧ (vp_in x4 (gN G25 (gR G25 x1 10)) ∧ (isO E G25 (gR G25 x0 0) 0 ∧ (wpV E (d - 1) M_X0_addNumber [vr (gR G25 x0 0), vj (Int32.toInt64 (gI G25 (gR G25 x1 10) (Int32.toNatClampNeg x4))), vi 2] G25 (fun G30 => wp E d M_X8_add 122 [some (vr x0), some (vr x1), some (vi x2), some (vi x3), some (vi (x4 + 1))] [] G30 Q)))))))))))))) : wp E d M_X8_add 122 [some (vr x0), some (vr x1), some (vi x2), some (vi x3), some (vi x4)] [] G Q := by
  refine wp_iload (pc := 122) d_X8_add_122 rfl ?_
  refine wp_aload_n (pc := 124) d_X8_add_124 rfl ?_
  obtain ⟨ho1, h⟩ := h
  refine wp_getR (pc := 125) d_X8_add_125 fl_X8_67 (fun _ _ _ => rfl) ho1 ?_
  obtain ⟨ho2, h⟩ := h
  refine wp_getI (pc := 128) d_X8_add_128 fl_X8_71 (fun _ _ _ => rfl) ho2 ?_
  refine wp_icmp_ge (pc := 131) (tgt := 176) d_X8_add_131 (by decide) (fun hc => ?_) (fun hc => ?_)
  · have h := h.1 hc
    refine wp_aload_n (pc := 176) d_X8_add_176 rfl ?_
    obtain ⟨ho3, h⟩ := h
    refine wp_getR (pc := 177) d_X8_add_177 fl_X8_14 (fun _ _ _ => rfl) ho3 ?_
    refine wp_aload_n (pc := 180) d_X8_add_180 rfl ?_
    refine wp_getI (pc := 181) d_X8_add_181 fl_X8_86 (fun _ _ _ => rfl) ho1 ?_
    refine wp_i2l (pc := 184) d_X8_add_184 ?_
    refine wp_iconst (pc := 185) (v := 2) d_X8_add_185 rfl ?_
    obtain ⟨ho21, h⟩ := h
    refine wp_invV (pc := 186) (N := M_X0_addNumber) (As := [vj _, vi _]) (rest := []) (r := (cn_0, ct_0, 2)) d_X8_add_186 ml_X8_53 mk_X0_addNumber mv_X0_addNumber h0 ho21 rfl rfl (Nat.le_of_ble_eq_true rfl) ?_
    refine wpM.mono h (fun rr G4 hr => ?_)
    obtain ⟨rfl, h⟩ := hr
    show wp E d M_X8_add 189 [some (vr _), some (vr _), some (vi _), some (vi _), some (vi _)] [] G4 Q
    refine wp_aload_n (pc := 189) d_X8_add_189 rfl ?_
    obtain ⟨ho5, h⟩ := h
    refine wp_getR (pc := 190) d_X8_add_190 fl_X8_14 (fun _ _ _ => rfl) ho5 ?_
    refine wp_aload_n (pc := 193) d_X8_add_193 rfl ?_
    refine wp_getR (pc := 194) d_X8_add_194 fl_X8_14 (fun _ _ _ => rfl) ho5 ?_
    refine wp_iload_n (pc := 197) d_X8_add_197 rfl ?_
    refine wp_aload_n (pc := 198) d_X8_add_198 rfl ?_
    refine wp_getR (pc := 199) d_X8_add_199 fl_X8_14 (fun _ _ _ => rfl) ho5 ?_
    obtain ⟨ho6, h⟩ := h
    refine wp_getI (pc := 202) d_X8_add_202 fl_X8_32 (fun _ _ _ => rfl) ho6 ?_
    refine wp_invV (pc := 205) (N := M_X0_sum) (As := [vi _, vi _]) (rest := [vr _]) (r := (cn_0, ct_0, 2)) d_X8_add_205 ml_X8_89 mk_X0_sum mv_X0_sum h0 ho6 rfl rfl (Nat.le_of_ble_eq_true rfl) ?_
    refine wpM.mono h (fun rr G8 hr => ?_)
    obtain ⟨r7, rfl, h⟩ := hr
    show wp E d M_X8_add 208 [some (vr _), some (vr _), some (vi _), some (vi _), some (vi _)] [vj _, vr _] G8 Q
    refine wp_bipush (pc := 208) (v := 8) d_X8_add_208 rfl ?_
    obtain ⟨ho20, h⟩ := h
    refine wp_invV (pc := 210) (N := M_X0_addNumber) (As := [vj _, vi _]) (rest := []) (r := (cn_0, ct_0, 2)) d_X8_add_210 ml_X8_53 mk_X0_addNumber mv_X0_addNumber h0 ho20 rfl rfl (Nat.le_of_ble_eq_true rfl) ?_
    refine wpM.mono h (fun rr G9 hr => ?_)
    obtain ⟨rfl, h⟩ := hr
    show wp E d M_X8_add 213 [some (vr _), some (vr _), some (vi _), some (vi _), some (vi _)] [] G9 Q
    refine wp_aload_n (pc := 213) d_X8_add_213 rfl ?_
    refine wp_aload_n (pc := 214) d_X8_add_214 rfl ?_
    obtain ⟨ho10, h⟩ := h
    refine wp_getI (pc := 215) d_X8_add_215 fl_X8_18 (fun _ _ _ => rfl) ho10 ?_
    refine wp_putI (pc := 218) d_X8_add_218 fl_X8_29 (fun _ _ _ => rfl) (Or.inl rfl) ho10 (okI_int _) ?_
    refine wp_nm (fun G11 eG11 => ?_)
    have h := h G11 eG11
    have ho12 := isO_sI eG11 ho10
    refine wp_aload_n (pc := 221) d_X8_add_221 rfl ?_
    refine wp_getR (pc := 222) d_X8_add_222 fl_X8_22 (fun _ _ _ => rfl) ho12 ?_
    refine wp_aload_n (pc := 225) d_X8_add_225 rfl ?_
    refine wp_getI (pc := 226) d_X8_add_226 fl_X8_18 (fun _ _ _ => rfl) ho12 ?_
    refine wp_aload_n (pc := 229) d_X8_add_229 rfl ?_
    refine wp_getR (pc := 230) d_X8_add_230 fl_X8_14 (fun _ _ _ => rfl) ho12 ?_
    obtain ⟨ho13, h⟩ := h
    refine wp_getI (pc := 233) d_X8_add_233 fl_X8_32 (fun _ _ _ => rfl) ho13 ?_
    obtain ⟨ho14, h⟩ := h
    obtain ⟨hi15, h⟩ := h
    refine wp_iast (pc := 236) d_X8_add_236 ho14 hi15 ?_
    refine wp_nm (fun G16 eG16 => ?_)
    have h := h G16 eG16
    have ho17 := isO_sI eG16 ho12
    refine wp_aload_n (pc := 237) d_X8_add_237 rfl ?_
    refine wp_dup (pc := 238) d_X8_add_238 (c1_r _) ?_
    refine wp_getI (pc := 239) d_X8_add_239 fl_X8_18 (fun _ _ _ => rfl) ho17 ?_
    refine wp_dup_x1 (pc := 242) d_X8_add_242 (c1_i _) (c1_r _) ?_
    refine wp_iconst (pc := 243) (v := 1) d_X8_add_243 rfl ?_
    refine wp_iadd (pc := 244) d_X8_add_244 ?_
    refine wp_putI (pc := 245) d_X8_add_245 fl_X8_18 (fun _ _ _ => rfl) (Or.inl rfl) ho17 (okI_int _) ?_
    refine wp_nm (fun G18 eG18 => ?_)
    have h := h G18 eG18
    have ho19 := isO_sI eG18 ho17
    exact wp_iret (pc := 248) d_X8_add_248 rfl h
  · have h := h.2 hc
    refine wp_aload_n (pc := 134) d_X8_add_134 rfl ?_
    obtain ⟨ho22, h⟩ := h
    refine wp_getR (pc := 135) d_X8_add_135 fl_X8_14 (fun _ _ _ => rfl) ho22 ?_
    refine wp_aload_n (pc := 138) d_X8_add_138 rfl ?_
    refine wp_getR (pc := 139) d_X8_add_139 fl_X8_67 (fun _ _ _ => rfl) ho1 ?_
    refine wp_aload_n (pc := 142) d_X8_add_142 rfl ?_
    refine wp_getI (pc := 143) d_X8_add_143 fl_X8_76 (fun _ _ _ => rfl) ho1 ?_
    refine wp_iload (pc := 146) d_X8_add_146 rfl ?_
    refine wp_invV (pc := 148) (N := M_X7_valueOf) (As := [vi _, vi _]) (rest := [vr _]) (r := (cn_7, ct_7, 5)) d_X8_add_148 ml_X8_79 mk_X7_valueOf mv_X7_valueOf h0 ho2 rfl rfl (Nat.le_of_ble_eq_true rfl) ?_
    refine wpM.mono h (fun rr G24 hr => ?_)
    obtain ⟨r23, rfl, h⟩ := hr
    show wp E d M_X8_add 151 [some (vr _), some (vr _), some (vi _), some (vi _), some (vi _)] [vi _, vr _] G24 Q
    obtain ⟨ho32, h⟩ := h
    refine wp_invV (pc := 151) (N := M_X0_add) (As := [vi _]) (rest := []) (r := (cn_0, ct_0, 2)) d_X8_add_151 ml_X8_49 mk_X0_add mv_X0_add h0 ho32 rfl rfl (Nat.le_of_ble_eq_true rfl) ?_
    refine wpM.mono h (fun rr G25 hr => ?_)
    obtain ⟨rfl, h⟩ := hr
    show wp E d M_X8_add 154 [some (vr _), some (vr _), some (vi _), some (vi _), some (vi _)] [] G25 Q
    refine wp_aload_n (pc := 154) d_X8_add_154 rfl ?_
    obtain ⟨ho26, h⟩ := h
    refine wp_getR (pc := 155) d_X8_add_155 fl_X8_14 (fun _ _ _ => rfl) ho26 ?_
    refine wp_aload_n (pc := 158) d_X8_add_158 rfl ?_
    obtain ⟨ho27, h⟩ := h
    refine wp_getR (pc := 159) d_X8_add_159 fl_X8_83 (fun _ _ _ => rfl) ho27 ?_
    refine wp_iload (pc := 162) d_X8_add_162 rfl ?_
    obtain ⟨ho28, h⟩ := h
    obtain ⟨hi29, h⟩ := h
    refine wp_iald (pc := 164) d_X8_add_164 ho28 hi29 ?_
    refine wp_i2l (pc := 165) d_X8_add_165 ?_
    refine wp_iconst (pc := 166) (v := 2) d_X8_add_166 rfl ?_
    obtain ⟨ho31, h⟩ := h
    refine wp_invV (pc := 167) (N := M_X0_addNumber) (As := [vj _, vi _]) (rest := []) (r := (cn_0, ct_0, 2)) d_X8_add_167 ml_X8_53 mk_X0_addNumber mv_X0_addNumber h0 ho31 rfl rfl (Nat.le_of_ble_eq_true rfl) ?_
    refine wpM.mono h (fun rr G30 hr => ?_)
    obtain ⟨rfl, h⟩ := hr
    show wp E d M_X8_add 170 [some (vr _), some (vr _), some (vi _), some (vi _), some (vi _)] [] G30 Q
    refine wp_iinc (pc := 170) (v := 1) (lv' := [some (vr _), some (vr _), some (vi _), some (vi _), some (vi _)]) d_X8_add_170 (by decide) rfl rfl rfl ?_
    refine wp_goto (pc := 173) (tgt := 122) d_X8_add_173 (by decide) ?_
    refine wp_sub ?_ h
    exact ⟨rfl, ⟨rfl, ⟨rfl, ⟨rfl, ⟨rfl, trivial⟩⟩⟩⟩⟩
