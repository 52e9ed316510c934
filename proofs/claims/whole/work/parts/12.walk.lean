/-! decode rows and regions (by program): J7_copyOf_9075b J7_fill_53178 J7_copyOf_59c91 J7_copyOf_c38d5 J7_fill_d0a16 J6_bitCount_0f7a4 J6_numberOfTrailingZeros_0f7a4 J3_checkIndex_8e157 J1_indexOf_4cfef J1_canEncode_9a6ad J1_indexOfChar_4cfef J1_charAt_3b067 J0_indexOf_0f7a4 J0_indexOf_7cf53 J0_isLatin1_aae02 J0_length_8abf5 J0_coder_7d493 J0_charAt_5068e J0_checkIndex_df160 -/
theorem d_J7_copyOf_9075b_0 : decode prog_23_method_121_code 0 = .ok (.iload_n 1, 1) := by decide +kernel
theorem d_J7_copyOf_9075b_1 : decode prog_23_method_121_code 1 = .ok (.aload_n 0, 1) := by decide +kernel
theorem d_J7_copyOf_9075b_2 : decode prog_23_method_121_code 2 = .ok (.arraylength, 1) := by decide +kernel
theorem d_J7_copyOf_9075b_3 : decode prog_23_method_121_code 3 = .ok (.if_icmp .ne 11, 3) := by decide +kernel
theorem d_J7_copyOf_9075b_6 : decode prog_23_method_121_code 6 = .ok (.aload_n 0, 1) := by decide +kernel
theorem d_J7_copyOf_9075b_7 : decode prog_23_method_121_code 7 = .ok (.invokevirtual 310, 3) := by decide +kernel
theorem d_J7_copyOf_9075b_10 : decode prog_23_method_121_code 10 = .ok (.checkcast 311, 3) := by decide +kernel
theorem d_J7_copyOf_9075b_13 : decode prog_23_method_121_code 13 = .ok (.areturn, 1) := by decide +kernel
theorem d_J7_copyOf_9075b_14 : decode prog_23_method_121_code 14 = .ok (.iload_n 1, 1) := by decide +kernel
theorem d_J7_copyOf_9075b_15 : decode prog_23_method_121_code 15 = .ok (.newarray .byte, 2) := by decide +kernel
theorem d_J7_copyOf_9075b_17 : decode prog_23_method_121_code 17 = .ok (.astore_n 2, 1) := by decide +kernel
theorem d_J7_copyOf_9075b_18 : decode prog_23_method_121_code 18 = .ok (.aload_n 0, 1) := by decide +kernel
theorem d_J7_copyOf_9075b_19 : decode prog_23_method_121_code 19 = .ok (.iconst 0, 1) := by decide +kernel
theorem d_J7_copyOf_9075b_20 : decode prog_23_method_121_code 20 = .ok (.aload_n 2, 1) := by decide +kernel
theorem d_J7_copyOf_9075b_21 : decode prog_23_method_121_code 21 = .ok (.iconst 0, 1) := by decide +kernel
theorem d_J7_copyOf_9075b_22 : decode prog_23_method_121_code 22 = .ok (.aload_n 0, 1) := by decide +kernel
theorem d_J7_copyOf_9075b_23 : decode prog_23_method_121_code 23 = .ok (.arraylength, 1) := by decide +kernel
theorem d_J7_copyOf_9075b_24 : decode prog_23_method_121_code 24 = .ok (.iload_n 1, 1) := by decide +kernel
theorem d_J7_copyOf_9075b_25 : decode prog_23_method_121_code 25 = .ok (.invokestatic 304, 3) := by decide +kernel
theorem d_J7_copyOf_9075b_28 : decode prog_23_method_121_code 28 = .ok (.invokestatic 150, 3) := by decide +kernel
theorem d_J7_copyOf_9075b_31 : decode prog_23_method_121_code 31 = .ok (.aload_n 2, 1) := by decide +kernel
theorem d_J7_copyOf_9075b_32 : decode prog_23_method_121_code 32 = .ok (.areturn, 1) := by decide +kernel
theorem v_J7_copyOf_9075b_0 {E : EE} {d : Nat} {Q : Option AV → AH → Prop} {x0 : Nat} {x1 : Int32} {G : AH} (h0 : 0 < d) (h : isO E G x0 13 ∧ ((¬ x1 = (nI (gN G x0)) → eB E ≤ gT G ∧ (¬ x1 < 0 ∧ (Int32.toNatClampNeg x1 ≤ 60000000 ∧ (¬ (0 : Int32) < 0 ∧ (¬ (0 : Int32) < 0 ∧ (¬ (imin (nI (gN (nw G 13 (Int32.toNatClampNeg x1) (Int32.toNatClampNeg x1)) x0)) x1) < 0 ∧ ((Int32.toNatClampNeg 0) + (Int32.toNatClampNeg (imin (nI (gN (nw G 13 (Int32.toNatClampNeg x1) (Int32.toNatClampNeg x1)) x0)) x1)) ≤ gN (nw G 13 (Int32.toNatClampNeg x1) (Int32.toNatClampNeg x1)) x0 ∧ ((Int32.toNatClampNeg 0) + (Int32.toNatClampNeg (imin (nI (gN (nw G 13 (Int32.toNatClampNeg x1) (Int32.toNatClampNeg x1)) x0)) x1)) ≤ gN (nw G 13 (Int32.toNatClampNeg x1) (Int32.toNatClampNeg x1)) (gT G) ∧ ((∀ i, i < (Int32.toNatClampNeg (imin (nI (gN (nw G 13 (Int32.toNatClampNeg x1) (Int32.toNatClampNeg x1)) x0)) x1)) → fits .byte (.int (gI (nw G 13 (Int32.toNatClampNeg x1) (Int32.toNatClampNeg x1)) x0 ((Int32.toNatClampNeg 0) + i))) = true) ∧ (Q (some (vr (gT G))) (cpI (nw G 13 (Int32.toNatClampNeg x1) (Int32.toNatClampNeg x1)) x0 (gT G) (Int32.toNatClampNeg 0) (Int32.toNatClampNeg 0) (Int32.toNatClampNeg (imin (nI (gN (nw G 13 (Int32.toNatClampNeg x1) (Int32.toNatClampNeg x1)) x0)) x1))))))))))))) ∧ (x1 = (nI (gN G x0)) → False))) : wp E d M_J7_copyOf_9075b 0 [some (vr x0), some (vi x1), none] [] G Q := by
  refine wp_iload_n (pc := 0) d_J7_copyOf_9075b_0 rfl ?_
  refine wp_aload_n (pc := 1) d_J7_copyOf_9075b_1 rfl ?_
  obtain ⟨ho1, h⟩ := h
  refine wp_alen (pc := 2) d_J7_copyOf_9075b_2 ho1 (by decide) rfl ?_
  refine wp_icmp_ne (pc := 3) (tgt := 14) d_J7_copyOf_9075b_3 (by decide) (fun hc => ?_) (fun hc => ?_)
  · have h := h.1 hc
    refine wp_iload_n (pc := 14) d_J7_copyOf_9075b_14 rfl ?_
    obtain ⟨hb2, h⟩ := h
    obtain ⟨hn6, h⟩ := h
    obtain ⟨hm7, h⟩ := h
    refine wp_newa (pc := 15) (t0 := 0) (kd := 13) d_J7_copyOf_9075b_15 rfl (fun _ q => by cases q) ac_byte (by decide) (fun _ => rfl) rfl (by decide) hn6 hm7 ?_
    have ho3 := isO_nw (kd := 13) (n := (Int32.toNatClampNeg x1)) (sz := (Int32.toNatClampNeg x1)) ho1
    have hb4 := base_nw (kd := 13) (n := (Int32.toNatClampNeg x1)) (sz := (Int32.toNatClampNeg x1)) hb2
    have ho5 := isO_new (kd := 13) (n := (Int32.toNatClampNeg x1)) (sz := (Int32.toNatClampNeg x1)) hb2
    refine wp_astore_n (pc := 17) (lv' := [some (vr _), some (vi _), some (vr _)]) d_J7_copyOf_9075b_17 (by decide) rfl ?_
    refine wp_aload_n (pc := 18) d_J7_copyOf_9075b_18 rfl ?_
    refine wp_iconst (pc := 19) (v := 0) d_J7_copyOf_9075b_19 rfl ?_
    refine wp_aload_n (pc := 20) d_J7_copyOf_9075b_20 rfl ?_
    refine wp_iconst (pc := 21) (v := 0) d_J7_copyOf_9075b_21 rfl ?_
    refine wp_aload_n (pc := 22) d_J7_copyOf_9075b_22 rfl ?_
    refine wp_alen (pc := 23) d_J7_copyOf_9075b_23 ho3 (by decide) rfl ?_
    refine wp_iload_n (pc := 24) d_J7_copyOf_9075b_24 rfl ?_
    refine wp_imin (pc := 25) d_J7_copyOf_9075b_25 ml_J7_304 ms_imin ii_math mc_imin h0 (Nat.le_of_ble_eq_true rfl) ?_
    obtain ⟨hc8, h⟩ := h
    obtain ⟨hc9, h⟩ := h
    obtain ⟨hc10, h⟩ := h
    obtain ⟨hc11, h⟩ := h
    obtain ⟨hc12, h⟩ := h
    obtain ⟨hf13, h⟩ := h
    refine wp_cpy (pc := 28) (c := 13) d_J7_copyOf_9075b_28 ml_J7_150 nat_cpy st_cpy ii_sys h0 (by decide) rfl rfl ho3 ho5 hc8 hc9 hc10 hc11 hc12 (fun i q => ⟨hf13 i q, fun _ q => by cases q⟩) (Nat.le_of_ble_eq_true rfl) (pd_cpI _ _ _ _ _ _) (cpy_vI (E := E) (by decide)) ?_
    refine wp_aload_n (pc := 31) d_J7_copyOf_9075b_31 rfl ?_
    exact wp_aret (pc := 32) d_J7_copyOf_9075b_32 rfl (Or.inr ⟨_, rfl⟩) h
  · have h := h.2 hc
    refine wp_aload_n (pc := 6) d_J7_copyOf_9075b_6 rfl ?_
    exact h.elim
theorem d_J7_fill_53178_0 : decode prog_23_method_103_code 0 = .ok (.iconst 0, 1) := by decide +kernel
theorem d_J7_fill_53178_1 : decode prog_23_method_103_code 1 = .ok (.istore_n 2, 1) := by decide +kernel
theorem d_J7_fill_53178_2 : decode prog_23_method_103_code 2 = .ok (.aload_n 0, 1) := by decide +kernel
theorem d_J7_fill_53178_3 : decode prog_23_method_103_code 3 = .ok (.arraylength, 1) := by decide +kernel
theorem d_J7_fill_53178_4 : decode prog_23_method_103_code 4 = .ok (.istore_n 3, 1) := by decide +kernel
theorem d_J7_fill_53178_5 : decode prog_23_method_103_code 5 = .ok (.iload_n 2, 1) := by decide +kernel
theorem d_J7_fill_53178_6 : decode prog_23_method_103_code 6 = .ok (.iload_n 3, 1) := by decide +kernel
theorem d_J7_fill_53178_7 : decode prog_23_method_103_code 7 = .ok (.if_icmp .ge 13, 3) := by decide +kernel
theorem d_J7_fill_53178_10 : decode prog_23_method_103_code 10 = .ok (.aload_n 0, 1) := by decide +kernel
theorem d_J7_fill_53178_11 : decode prog_23_method_103_code 11 = .ok (.iload_n 2, 1) := by decide +kernel
theorem d_J7_fill_53178_12 : decode prog_23_method_103_code 12 = .ok (.iload_n 1, 1) := by decide +kernel
theorem d_J7_fill_53178_13 : decode prog_23_method_103_code 13 = .ok (.iastore, 1) := by decide +kernel
theorem d_J7_fill_53178_14 : decode prog_23_method_103_code 14 = .ok (.iinc 2 1, 3) := by decide +kernel
theorem d_J7_fill_53178_17 : decode prog_23_method_103_code 17 = .ok (.goto (-12), 3) := by decide +kernel
theorem d_J7_fill_53178_20 : decode prog_23_method_103_code 20 = .ok (.return_, 1) := by decide +kernel
theorem v_J7_fill_53178_0 {E : EE} {d : Nat} {Q : Option AV → AH → Prop} {x0 : Nat} {x1 : Int32} {G : AH} (h : isO E G x0 14 ∧ (wp E d M_J7_fill_53178 5 [some (vr x0), some (vi x1), some (vi 0), some (vi (nI (gN G x0)))] [] G Q)) : wp E d M_J7_fill_53178 0 [some (vr x0), some (vi x1), none, none] [] G Q := by
  refine wp_iconst (pc := 0) (v := 0) d_J7_fill_53178_0 rfl ?_
  refine wp_istore_n (pc := 1) (lv' := [some (vr _), some (vi _), some (vi _), none]) d_J7_fill_53178_1 (by decide) rfl ?_
  refine wp_aload_n (pc := 2) d_J7_fill_53178_2 rfl ?_
  obtain ⟨ho1, h⟩ := h
  refine wp_alen (pc := 3) d_J7_fill_53178_3 ho1 (by decide) rfl ?_
  refine wp_istore_n (pc := 4) (lv' := [some (vr _), some (vi _), some (vi _), some (vi _)]) d_J7_fill_53178_4 (by decide) rfl ?_
  refine wp_sub ?_ h
  exact ⟨rfl, ⟨rfl, ⟨rfl, ⟨rfl, trivial⟩⟩⟩⟩
theorem v_J7_fill_53178_5 {E : EE} {d : Nat} {Q : Option AV → AH → Prop} {x0 : Nat} {x1 : Int32} {x2 : Int32} {x3 : Int32} {G : AH} (h : (x3 ≤ x2 → Q none G) ∧ (¬ (x3 ≤ x2) → isO E G x0 14 ∧ (vp_in x2 (gN G x0) ∧ (wp E d M_J7_fill_53178 5 [some (vr x0), some (vi x1), some (vi (x2 + 1)), some (vi x3)] [] (sI G x0 (Int32.toNatClampNeg x2) x1) Q)))) : wp E d M_J7_fill_53178 5 [some (vr x0), some (vi x1), some (vi x2), some (vi x3)] [] G Q := by
  refine wp_iload_n (pc := 5) d_J7_fill_53178_5 rfl ?_
  refine wp_iload_n (pc := 6) d_J7_fill_53178_6 rfl ?_
  refine wp_icmp_ge (pc := 7) (tgt := 20) d_J7_fill_53178_7 (by decide) (fun hc => ?_) (fun hc => ?_)
  · have h := h.1 hc
    exact wp_vret (pc := 20) d_J7_fill_53178_20 rfl h
  · have h := h.2 hc
    refine wp_aload_n (pc := 10) d_J7_fill_53178_10 rfl ?_
    refine wp_iload_n (pc := 11) d_J7_fill_53178_11 rfl ?_
    refine wp_iload_n (pc := 12) d_J7_fill_53178_12 rfl ?_
    obtain ⟨ho1, h⟩ := h
    obtain ⟨hi2, h⟩ := h
    refine wp_iast (pc := 13) d_J7_fill_53178_13 ho1 hi2 ?_
    refine wp_iinc (pc := 14) (v := 1) (lv' := [some (vr _), some (vi _), some (vi _), some (vi _)]) d_J7_fill_53178_14 (by decide) rfl rfl rfl ?_
    refine wp_goto (pc := 17) (tgt := 5) d_J7_fill_53178_17 (by decide) ?_
    refine wp_sub ?_ h
    exact ⟨rfl, ⟨rfl, ⟨rfl, ⟨rfl, trivial⟩⟩⟩⟩
theorem d_J7_copyOf_59c91_0 : decode prog_23_method_123_code 0 = .ok (.iload_n 1, 1) := by decide +kernel
theorem d_J7_copyOf_59c91_1 : decode prog_23_method_123_code 1 = .ok (.aload_n 0, 1) := by decide +kernel
theorem d_J7_copyOf_59c91_2 : decode prog_23_method_123_code 2 = .ok (.arraylength, 1) := by decide +kernel
theorem d_J7_copyOf_59c91_3 : decode prog_23_method_123_code 3 = .ok (.if_icmp .ne 11, 3) := by decide +kernel
theorem d_J7_copyOf_59c91_6 : decode prog_23_method_123_code 6 = .ok (.aload_n 0, 1) := by decide +kernel
theorem d_J7_copyOf_59c91_7 : decode prog_23_method_123_code 7 = .ok (.invokevirtual 316, 3) := by decide +kernel
theorem d_J7_copyOf_59c91_10 : decode prog_23_method_123_code 10 = .ok (.checkcast 317, 3) := by decide +kernel
theorem d_J7_copyOf_59c91_13 : decode prog_23_method_123_code 13 = .ok (.areturn, 1) := by decide +kernel
theorem d_J7_copyOf_59c91_14 : decode prog_23_method_123_code 14 = .ok (.iload_n 1, 1) := by decide +kernel
theorem d_J7_copyOf_59c91_15 : decode prog_23_method_123_code 15 = .ok (.newarray .int, 2) := by decide +kernel
theorem d_J7_copyOf_59c91_17 : decode prog_23_method_123_code 17 = .ok (.astore_n 2, 1) := by decide +kernel
theorem d_J7_copyOf_59c91_18 : decode prog_23_method_123_code 18 = .ok (.aload_n 0, 1) := by decide +kernel
theorem d_J7_copyOf_59c91_19 : decode prog_23_method_123_code 19 = .ok (.iconst 0, 1) := by decide +kernel
theorem d_J7_copyOf_59c91_20 : decode prog_23_method_123_code 20 = .ok (.aload_n 2, 1) := by decide +kernel
theorem d_J7_copyOf_59c91_21 : decode prog_23_method_123_code 21 = .ok (.iconst 0, 1) := by decide +kernel
theorem d_J7_copyOf_59c91_22 : decode prog_23_method_123_code 22 = .ok (.aload_n 0, 1) := by decide +kernel
theorem d_J7_copyOf_59c91_23 : decode prog_23_method_123_code 23 = .ok (.arraylength, 1) := by decide +kernel
theorem d_J7_copyOf_59c91_24 : decode prog_23_method_123_code 24 = .ok (.iload_n 1, 1) := by decide +kernel
theorem d_J7_copyOf_59c91_25 : decode prog_23_method_123_code 25 = .ok (.invokestatic 304, 3) := by decide +kernel
theorem d_J7_copyOf_59c91_28 : decode prog_23_method_123_code 28 = .ok (.invokestatic 150, 3) := by decide +kernel
theorem d_J7_copyOf_59c91_31 : decode prog_23_method_123_code 31 = .ok (.aload_n 2, 1) := by decide +kernel
theorem d_J7_copyOf_59c91_32 : decode prog_23_method_123_code 32 = .ok (.areturn, 1) := by decide +kernel
theorem v_J7_copyOf_59c91_0 {E : EE} {d : Nat} {Q : Option AV → AH → Prop} {x0 : Nat} {x1 : Int32} {G : AH} (h0 : 0 < d) (h : isO E G x0 14 ∧ ((¬ x1 = (nI (gN G x0)) → eB E ≤ gT G ∧ (¬ x1 < 0 ∧ (Int32.toNatClampNeg x1 ≤ 60000000 ∧ (¬ (0 : Int32) < 0 ∧ (¬ (0 : Int32) < 0 ∧ (¬ (imin (nI (gN (nw G 14 (Int32.toNatClampNeg x1) (Int32.toNatClampNeg x1)) x0)) x1) < 0 ∧ ((Int32.toNatClampNeg 0) + (Int32.toNatClampNeg (imin (nI (gN (nw G 14 (Int32.toNatClampNeg x1) (Int32.toNatClampNeg x1)) x0)) x1)) ≤ gN (nw G 14 (Int32.toNatClampNeg x1) (Int32.toNatClampNeg x1)) x0 ∧ ((Int32.toNatClampNeg 0) + (Int32.toNatClampNeg (imin (nI (gN (nw G 14 (Int32.toNatClampNeg x1) (Int32.toNatClampNeg x1)) x0)) x1)) ≤ gN (nw G 14 (Int32.toNatClampNeg x1) (Int32.toNatClampNeg x1)) (gT G) ∧ (Q (some (vr (gT G))) (cpI (nw G 14 (Int32.toNatClampNeg x1) (Int32.toNatClampNeg x1)) x0 (gT G) (Int32.toNatClampNeg 0) (Int32.toNatClampNeg 0) (Int32.toNatClampNeg (imin (nI (gN (nw G 14 (Int32.toNatClampNeg x1) (Int32.toNatClampNeg x1)) x0)) x1)))))))))))) ∧ (x1 = (nI (gN G x0)) → False))) : wp E d M_J7_copyOf_59c91 0 [some (vr x0), some (vi x1), none] [] G Q := by
  refine wp_iload_n (pc := 0) d_J7_copyOf_59c91_0 rfl ?_
  refine wp_aload_n (pc := 1) d_J7_copyOf_59c91_1 rfl ?_
  obtain ⟨ho1, h⟩ := h
  refine wp_alen (pc := 2) d_J7_copyOf_59c91_2 ho1 (by decide) rfl ?_
  refine wp_icmp_ne (pc := 3) (tgt := 14) d_J7_copyOf_59c91_3 (by decide) (fun hc => ?_) (fun hc => ?_)
  · have h := h.1 hc
    refine wp_iload_n (pc := 14) d_J7_copyOf_59c91_14 rfl ?_
    obtain ⟨hb2, h⟩ := h
    obtain ⟨hn6, h⟩ := h
    obtain ⟨hm7, h⟩ := h
    refine wp_newa (pc := 15) (t0 := 1) (kd := 14) d_J7_copyOf_59c91_15 rfl (fun _ q => by cases q) ac_int (by decide) (fun _ => rfl) rfl (by decide) hn6 hm7 ?_
    have ho3 := isO_nw (kd := 14) (n := (Int32.toNatClampNeg x1)) (sz := (Int32.toNatClampNeg x1)) ho1
    have hb4 := base_nw (kd := 14) (n := (Int32.toNatClampNeg x1)) (sz := (Int32.toNatClampNeg x1)) hb2
    have ho5 := isO_new (kd := 14) (n := (Int32.toNatClampNeg x1)) (sz := (Int32.toNatClampNeg x1)) hb2
    refine wp_astore_n (pc := 17) (lv' := [some (vr _), some (vi _), some (vr _)]) d_J7_copyOf_59c91_17 (by decide) rfl ?_
    refine wp_aload_n (pc := 18) d_J7_copyOf_59c91_18 rfl ?_
    refine wp_iconst (pc := 19) (v := 0) d_J7_copyOf_59c91_19 rfl ?_
    refine wp_aload_n (pc := 20) d_J7_copyOf_59c91_20 rfl ?_
    refine wp_iconst (pc := 21) (v := 0) d_J7_copyOf_59c91_21 rfl ?_
    refine wp_aload_n (pc := 22) d_J7_copyOf_59c91_22 rfl ?_
    refine wp_alen (pc := 23) d_J7_copyOf_59c91_23 ho3 (by decide) rfl ?_
    refine wp_iload_n (pc := 24) d_J7_copyOf_59c91_24 rfl ?_
    refine wp_imin (pc := 25) d_J7_copyOf_59c91_25 ml_J7_304 ms_imin ii_math mc_imin h0 (Nat.le_of_ble_eq_true rfl) ?_
    obtain ⟨hc8, h⟩ := h
    obtain ⟨hc9, h⟩ := h
    obtain ⟨hc10, h⟩ := h
    obtain ⟨hc11, h⟩ := h
    obtain ⟨hc12, h⟩ := h
    refine wp_cpy (pc := 28) (c := 14) d_J7_copyOf_59c91_28 ml_J7_150 nat_cpy st_cpy ii_sys h0 (by decide) rfl rfl ho3 ho5 hc8 hc9 hc10 hc11 hc12 (fun i _ => ⟨rfl, fun _ q => by cases q⟩) (Nat.le_of_ble_eq_true rfl) (pd_cpI _ _ _ _ _ _) (cpy_vI (E := E) (by decide)) ?_
    refine wp_aload_n (pc := 31) d_J7_copyOf_59c91_31 rfl ?_
    exact wp_aret (pc := 32) d_J7_copyOf_59c91_32 rfl (Or.inr ⟨_, rfl⟩) h
  · have h := h.2 hc
    refine wp_aload_n (pc := 6) d_J7_copyOf_59c91_6 rfl ?_
    exact h.elim
theorem d_J7_copyOf_c38d5_0 : decode prog_23_method_124_code 0 = .ok (.iload_n 1, 1) := by decide +kernel
theorem d_J7_copyOf_c38d5_1 : decode prog_23_method_124_code 1 = .ok (.aload_n 0, 1) := by decide +kernel
theorem d_J7_copyOf_c38d5_2 : decode prog_23_method_124_code 2 = .ok (.arraylength, 1) := by decide +kernel
theorem d_J7_copyOf_c38d5_3 : decode prog_23_method_124_code 3 = .ok (.if_icmp .ne 11, 3) := by decide +kernel
theorem d_J7_copyOf_c38d5_6 : decode prog_23_method_124_code 6 = .ok (.aload_n 0, 1) := by decide +kernel
theorem d_J7_copyOf_c38d5_7 : decode prog_23_method_124_code 7 = .ok (.invokevirtual 319, 3) := by decide +kernel
theorem d_J7_copyOf_c38d5_10 : decode prog_23_method_124_code 10 = .ok (.checkcast 320, 3) := by decide +kernel
theorem d_J7_copyOf_c38d5_13 : decode prog_23_method_124_code 13 = .ok (.areturn, 1) := by decide +kernel
theorem d_J7_copyOf_c38d5_14 : decode prog_23_method_124_code 14 = .ok (.iload_n 1, 1) := by decide +kernel
theorem d_J7_copyOf_c38d5_15 : decode prog_23_method_124_code 15 = .ok (.newarray .long, 2) := by decide +kernel
theorem d_J7_copyOf_c38d5_17 : decode prog_23_method_124_code 17 = .ok (.astore_n 2, 1) := by decide +kernel
theorem d_J7_copyOf_c38d5_18 : decode prog_23_method_124_code 18 = .ok (.aload_n 0, 1) := by decide +kernel
theorem d_J7_copyOf_c38d5_19 : decode prog_23_method_124_code 19 = .ok (.iconst 0, 1) := by decide +kernel
theorem d_J7_copyOf_c38d5_20 : decode prog_23_method_124_code 20 = .ok (.aload_n 2, 1) := by decide +kernel
theorem d_J7_copyOf_c38d5_21 : decode prog_23_method_124_code 21 = .ok (.iconst 0, 1) := by decide +kernel
theorem d_J7_copyOf_c38d5_22 : decode prog_23_method_124_code 22 = .ok (.aload_n 0, 1) := by decide +kernel
theorem d_J7_copyOf_c38d5_23 : decode prog_23_method_124_code 23 = .ok (.arraylength, 1) := by decide +kernel
theorem d_J7_copyOf_c38d5_24 : decode prog_23_method_124_code 24 = .ok (.iload_n 1, 1) := by decide +kernel
theorem d_J7_copyOf_c38d5_25 : decode prog_23_method_124_code 25 = .ok (.invokestatic 304, 3) := by decide +kernel
theorem d_J7_copyOf_c38d5_28 : decode prog_23_method_124_code 28 = .ok (.invokestatic 150, 3) := by decide +kernel
theorem d_J7_copyOf_c38d5_31 : decode prog_23_method_124_code 31 = .ok (.aload_n 2, 1) := by decide +kernel
theorem d_J7_copyOf_c38d5_32 : decode prog_23_method_124_code 32 = .ok (.areturn, 1) := by decide +kernel
theorem v_J7_copyOf_c38d5_0 {E : EE} {d : Nat} {Q : Option AV → AH → Prop} {x0 : Nat} {x1 : Int32} {G : AH} (h0 : 0 < d) (h : isO E G x0 15 ∧ ((¬ x1 = (nI (gN G x0)) → eB E ≤ gT G ∧ (¬ x1 < 0 ∧ (Int32.toNatClampNeg x1 ≤ 60000000 ∧ (¬ (0 : Int32) < 0 ∧ (¬ (0 : Int32) < 0 ∧ (¬ (imin (nI (gN (nw G 15 (Int32.toNatClampNeg x1) (Int32.toNatClampNeg x1)) x0)) x1) < 0 ∧ ((Int32.toNatClampNeg 0) + (Int32.toNatClampNeg (imin (nI (gN (nw G 15 (Int32.toNatClampNeg x1) (Int32.toNatClampNeg x1)) x0)) x1)) ≤ gN (nw G 15 (Int32.toNatClampNeg x1) (Int32.toNatClampNeg x1)) x0 ∧ ((Int32.toNatClampNeg 0) + (Int32.toNatClampNeg (imin (nI (gN (nw G 15 (Int32.toNatClampNeg x1) (Int32.toNatClampNeg x1)) x0)) x1)) ≤ gN (nw G 15 (Int32.toNatClampNeg x1) (Int32.toNatClampNeg x1)) (gT G) ∧ (Q (some (vr (gT G))) (cpJ (nw G 15 (Int32.toNatClampNeg x1) (Int32.toNatClampNeg x1)) x0 (gT G) (Int32.toNatClampNeg 0) (Int32.toNatClampNeg 0) (Int32.toNatClampNeg (imin (nI (gN (nw G 15 (Int32.toNatClampNeg x1) (Int32.toNatClampNeg x1)) x0)) x1)))))))))))) ∧ (x1 = (nI (gN G x0)) → False))) : wp E d M_J7_copyOf_c38d5 0 [some (vr x0), some (vi x1), none] [] G Q := by
  refine wp_iload_n (pc := 0) d_J7_copyOf_c38d5_0 rfl ?_
  refine wp_aload_n (pc := 1) d_J7_copyOf_c38d5_1 rfl ?_
  obtain ⟨ho1, h⟩ := h
  refine wp_alen (pc := 2) d_J7_copyOf_c38d5_2 ho1 (by decide) rfl ?_
  refine wp_icmp_ne (pc := 3) (tgt := 14) d_J7_copyOf_c38d5_3 (by decide) (fun hc => ?_) (fun hc => ?_)
  · have h := h.1 hc
    refine wp_iload_n (pc := 14) d_J7_copyOf_c38d5_14 rfl ?_
    obtain ⟨hb2, h⟩ := h
    obtain ⟨hn6, h⟩ := h
    obtain ⟨hm7, h⟩ := h
    refine wp_newa (pc := 15) (t0 := 2) (kd := 15) d_J7_copyOf_c38d5_15 rfl (fun _ q => by cases q) ac_long (by decide) (fun _ => rfl) rfl (by decide) hn6 hm7 ?_
    have ho3 := isO_nw (kd := 15) (n := (Int32.toNatClampNeg x1)) (sz := (Int32.toNatClampNeg x1)) ho1
    have hb4 := base_nw (kd := 15) (n := (Int32.toNatClampNeg x1)) (sz := (Int32.toNatClampNeg x1)) hb2
    have ho5 := isO_new (kd := 15) (n := (Int32.toNatClampNeg x1)) (sz := (Int32.toNatClampNeg x1)) hb2
    refine wp_astore_n (pc := 17) (lv' := [some (vr _), some (vi _), some (vr _)]) d_J7_copyOf_c38d5_17 (by decide) rfl ?_
    refine wp_aload_n (pc := 18) d_J7_copyOf_c38d5_18 rfl ?_
    refine wp_iconst (pc := 19) (v := 0) d_J7_copyOf_c38d5_19 rfl ?_
    refine wp_aload_n (pc := 20) d_J7_copyOf_c38d5_20 rfl ?_
    refine wp_iconst (pc := 21) (v := 0) d_J7_copyOf_c38d5_21 rfl ?_
    refine wp_aload_n (pc := 22) d_J7_copyOf_c38d5_22 rfl ?_
    refine wp_alen (pc := 23) d_J7_copyOf_c38d5_23 ho3 (by decide) rfl ?_
    refine wp_iload_n (pc := 24) d_J7_copyOf_c38d5_24 rfl ?_
    refine wp_imin (pc := 25) d_J7_copyOf_c38d5_25 ml_J7_304 ms_imin ii_math mc_imin h0 (Nat.le_of_ble_eq_true rfl) ?_
    obtain ⟨hc8, h⟩ := h
    obtain ⟨hc9, h⟩ := h
    obtain ⟨hc10, h⟩ := h
    obtain ⟨hc11, h⟩ := h
    obtain ⟨hc12, h⟩ := h
    refine wp_cpy (pc := 28) (c := 15) d_J7_copyOf_c38d5_28 ml_J7_150 nat_cpy st_cpy ii_sys h0 (by decide) rfl rfl ho3 ho5 hc8 hc9 hc10 hc11 hc12 (fun i _ => ⟨rfl, fun _ q => by cases q⟩) (Nat.le_of_ble_eq_true rfl) (pd_cpJ _ _ _ _ _ _) (cpy_vJ (E := E)) ?_
    refine wp_aload_n (pc := 31) d_J7_copyOf_c38d5_31 rfl ?_
    exact wp_aret (pc := 32) d_J7_copyOf_c38d5_32 rfl (Or.inr ⟨_, rfl⟩) h
  · have h := h.2 hc
    refine wp_aload_n (pc := 6) d_J7_copyOf_c38d5_6 rfl ?_
    exact h.elim
theorem d_J7_fill_d0a16_0 : decode prog_23_method_101_code 0 = .ok (.iconst 0, 1) := by decide +kernel
theorem d_J7_fill_d0a16_1 : decode prog_23_method_101_code 1 = .ok (.istore_n 3, 1) := by decide +kernel
theorem d_J7_fill_d0a16_2 : decode prog_23_method_101_code 2 = .ok (.aload_n 0, 1) := by decide +kernel
theorem d_J7_fill_d0a16_3 : decode prog_23_method_101_code 3 = .ok (.arraylength, 1) := by decide +kernel
theorem d_J7_fill_d0a16_4 : decode prog_23_method_101_code 4 = .ok (.istore 4, 2) := by decide +kernel
theorem d_J7_fill_d0a16_6 : decode prog_23_method_101_code 6 = .ok (.iload_n 3, 1) := by decide +kernel
theorem d_J7_fill_d0a16_7 : decode prog_23_method_101_code 7 = .ok (.iload 4, 2) := by decide +kernel
theorem d_J7_fill_d0a16_9 : decode prog_23_method_101_code 9 = .ok (.if_icmp .ge 13, 3) := by decide +kernel
theorem d_J7_fill_d0a16_12 : decode prog_23_method_101_code 12 = .ok (.aload_n 0, 1) := by decide +kernel
theorem d_J7_fill_d0a16_13 : decode prog_23_method_101_code 13 = .ok (.iload_n 3, 1) := by decide +kernel
theorem d_J7_fill_d0a16_14 : decode prog_23_method_101_code 14 = .ok (.lload_n 1, 1) := by decide +kernel
theorem d_J7_fill_d0a16_15 : decode prog_23_method_101_code 15 = .ok (.lastore, 1) := by decide +kernel
theorem d_J7_fill_d0a16_16 : decode prog_23_method_101_code 16 = .ok (.iinc 3 1, 3) := by decide +kernel
theorem d_J7_fill_d0a16_19 : decode prog_23_method_101_code 19 = .ok (.goto (-13), 3) := by decide +kernel
theorem d_J7_fill_d0a16_22 : decode prog_23_method_101_code 22 = .ok (.return_, 1) := by decide +kernel
theorem v_J7_fill_d0a16_0 {E : EE} {d : Nat} {Q : Option AV → AH → Prop} {x0 : Nat} {x1 : Int64} {G : AH} (h : isO E G x0 15 ∧ (wp E d M_J7_fill_d0a16 6 [some (vr x0), some (vj x1), none, some (vi 0), some (vi (nI (gN G x0)))] [] G Q)) : wp E d M_J7_fill_d0a16 0 [some (vr x0), some (vj x1), none, none, none] [] G Q := by
  refine wp_iconst (pc := 0) (v := 0) d_J7_fill_d0a16_0 rfl ?_
  refine wp_istore_n (pc := 1) (lv' := [some (vr _), some (vj _), none, some (vi _), none]) d_J7_fill_d0a16_1 (by decide) rfl ?_
  refine wp_aload_n (pc := 2) d_J7_fill_d0a16_2 rfl ?_
  obtain ⟨ho1, h⟩ := h
  refine wp_alen (pc := 3) d_J7_fill_d0a16_3 ho1 (by decide) rfl ?_
  refine wp_istore (pc := 4) (lv' := [some (vr _), some (vj _), none, some (vi _), some (vi _)]) d_J7_fill_d0a16_4 (by decide) rfl ?_
  refine wp_sub ?_ h
  exact ⟨rfl, ⟨rfl, ⟨rfl, ⟨rfl, trivial⟩⟩⟩⟩
theorem v_J7_fill_d0a16_6 {E : EE} {d : Nat} {Q : Option AV → AH → Prop} {x0 : Nat} {x1 : Int64} {x3 : Int32} {x4 : Int32} {G : AH} (h : (x4 ≤ x3 → Q none G) ∧ (¬ (x4 ≤ x3) → isO E G x0 15 ∧ (vp_in x3 (gN G x0) ∧ (wp E d M_J7_fill_d0a16 6 [some (vr x0), some (vj x1), none, some (vi (x3 + 1)), some (vi x4)] [] (sJ G x0 (Int32.toNatClampNeg x3) x1) Q)))) : wp E d M_J7_fill_d0a16 6 [some (vr x0), some (vj x1), none, some (vi x3), some (vi x4)] [] G Q := by
  refine wp_iload_n (pc := 6) d_J7_fill_d0a16_6 rfl ?_
  refine wp_iload (pc := 7) d_J7_fill_d0a16_7 rfl ?_
  refine wp_icmp_ge (pc := 9) (tgt := 22) d_J7_fill_d0a16_9 (by decide) (fun hc => ?_) (fun hc => ?_)
  · have h := h.1 hc
    exact wp_vret (pc := 22) d_J7_fill_d0a16_22 rfl h
  · have h := h.2 hc
    refine wp_aload_n (pc := 12) d_J7_fill_d0a16_12 rfl ?_
    refine wp_iload_n (pc := 13) d_J7_fill_d0a16_13 rfl ?_
    refine wp_lload_n (pc := 14) d_J7_fill_d0a16_14 rfl ?_
    obtain ⟨ho1, h⟩ := h
    obtain ⟨hi2, h⟩ := h
    refine wp_last (pc := 15) d_J7_fill_d0a16_15 ho1 hi2 ?_
    refine wp_iinc (pc := 16) (v := 1) (lv' := [some (vr _), some (vj _), none, some (vi _), some (vi _)]) d_J7_fill_d0a16_16 (by decide) rfl rfl rfl ?_
    refine wp_goto (pc := 19) (tgt := 6) d_J7_fill_d0a16_19 (by decide) ?_
    refine wp_sub ?_ h
    exact ⟨rfl, ⟨rfl, ⟨rfl, ⟨rfl, trivial⟩⟩⟩⟩
theorem d_J6_bitCount_0f7a4_0 : decode prog_17_method_49_code 0 = .ok (.iload_n 0, 1) := by decide +kernel
theorem d_J6_bitCount_0f7a4_1 : decode prog_17_method_49_code 1 = .ok (.iload_n 0, 1) := by decide +kernel
theorem d_J6_bitCount_0f7a4_2 : decode prog_17_method_49_code 2 = .ok (.iconst 1, 1) := by decide +kernel
theorem d_J6_bitCount_0f7a4_3 : decode prog_17_method_49_code 3 = .ok (.iushr, 1) := by decide +kernel
theorem d_J6_bitCount_0f7a4_4 : decode prog_17_method_49_code 4 = .ok (.ldc_w 265, 3) := by decide +kernel
theorem d_J6_bitCount_0f7a4_7 : decode prog_17_method_49_code 7 = .ok (.iand, 1) := by decide +kernel
theorem d_J6_bitCount_0f7a4_8 : decode prog_17_method_49_code 8 = .ok (.isub, 1) := by decide +kernel
theorem d_J6_bitCount_0f7a4_9 : decode prog_17_method_49_code 9 = .ok (.istore_n 0, 1) := by decide +kernel
theorem d_J6_bitCount_0f7a4_10 : decode prog_17_method_49_code 10 = .ok (.iload_n 0, 1) := by decide +kernel
theorem d_J6_bitCount_0f7a4_11 : decode prog_17_method_49_code 11 = .ok (.ldc_w 266, 3) := by decide +kernel
theorem d_J6_bitCount_0f7a4_14 : decode prog_17_method_49_code 14 = .ok (.iand, 1) := by decide +kernel
theorem d_J6_bitCount_0f7a4_15 : decode prog_17_method_49_code 15 = .ok (.iload_n 0, 1) := by decide +kernel
theorem d_J6_bitCount_0f7a4_16 : decode prog_17_method_49_code 16 = .ok (.iconst 2, 1) := by decide +kernel
theorem d_J6_bitCount_0f7a4_17 : decode prog_17_method_49_code 17 = .ok (.iushr, 1) := by decide +kernel
theorem d_J6_bitCount_0f7a4_18 : decode prog_17_method_49_code 18 = .ok (.ldc_w 266, 3) := by decide +kernel
theorem d_J6_bitCount_0f7a4_21 : decode prog_17_method_49_code 21 = .ok (.iand, 1) := by decide +kernel
theorem d_J6_bitCount_0f7a4_22 : decode prog_17_method_49_code 22 = .ok (.iadd, 1) := by decide +kernel
theorem d_J6_bitCount_0f7a4_23 : decode prog_17_method_49_code 23 = .ok (.istore_n 0, 1) := by decide +kernel
theorem d_J6_bitCount_0f7a4_24 : decode prog_17_method_49_code 24 = .ok (.iload_n 0, 1) := by decide +kernel
theorem d_J6_bitCount_0f7a4_25 : decode prog_17_method_49_code 25 = .ok (.iload_n 0, 1) := by decide +kernel
theorem d_J6_bitCount_0f7a4_26 : decode prog_17_method_49_code 26 = .ok (.iconst 4, 1) := by decide +kernel
theorem d_J6_bitCount_0f7a4_27 : decode prog_17_method_49_code 27 = .ok (.iushr, 1) := by decide +kernel
theorem d_J6_bitCount_0f7a4_28 : decode prog_17_method_49_code 28 = .ok (.iadd, 1) := by decide +kernel
theorem d_J6_bitCount_0f7a4_29 : decode prog_17_method_49_code 29 = .ok (.ldc_w 267, 3) := by decide +kernel
theorem d_J6_bitCount_0f7a4_32 : decode prog_17_method_49_code 32 = .ok (.iand, 1) := by decide +kernel
theorem d_J6_bitCount_0f7a4_33 : decode prog_17_method_49_code 33 = .ok (.istore_n 0, 1) := by decide +kernel
theorem d_J6_bitCount_0f7a4_34 : decode prog_17_method_49_code 34 = .ok (.iload_n 0, 1) := by decide +kernel
theorem d_J6_bitCount_0f7a4_35 : decode prog_17_method_49_code 35 = .ok (.iload_n 0, 1) := by decide +kernel
theorem d_J6_bitCount_0f7a4_36 : decode prog_17_method_49_code 36 = .ok (.bipush 8, 2) := by decide +kernel
theorem d_J6_bitCount_0f7a4_38 : decode prog_17_method_49_code 38 = .ok (.iushr, 1) := by decide +kernel
theorem d_J6_bitCount_0f7a4_39 : decode prog_17_method_49_code 39 = .ok (.iadd, 1) := by decide +kernel
theorem d_J6_bitCount_0f7a4_40 : decode prog_17_method_49_code 40 = .ok (.istore_n 0, 1) := by decide +kernel
theorem d_J6_bitCount_0f7a4_41 : decode prog_17_method_49_code 41 = .ok (.iload_n 0, 1) := by decide +kernel
theorem d_J6_bitCount_0f7a4_42 : decode prog_17_method_49_code 42 = .ok (.iload_n 0, 1) := by decide +kernel
theorem d_J6_bitCount_0f7a4_43 : decode prog_17_method_49_code 43 = .ok (.bipush 16, 2) := by decide +kernel
theorem d_J6_bitCount_0f7a4_45 : decode prog_17_method_49_code 45 = .ok (.iushr, 1) := by decide +kernel
theorem d_J6_bitCount_0f7a4_46 : decode prog_17_method_49_code 46 = .ok (.iadd, 1) := by decide +kernel
theorem d_J6_bitCount_0f7a4_47 : decode prog_17_method_49_code 47 = .ok (.istore_n 0, 1) := by decide +kernel
theorem d_J6_bitCount_0f7a4_48 : decode prog_17_method_49_code 48 = .ok (.iload_n 0, 1) := by decide +kernel
theorem d_J6_bitCount_0f7a4_49 : decode prog_17_method_49_code 49 = .ok (.bipush 63, 2) := by decide +kernel
theorem d_J6_bitCount_0f7a4_51 : decode prog_17_method_49_code 51 = .ok (.iand, 1) := by decide +kernel
theorem d_J6_bitCount_0f7a4_52 : decode prog_17_method_49_code 52 = .ok (.ireturn, 1) := by decide +kernel
theorem v_J6_bitCount_0f7a4_0 {E : EE} {d : Nat} {Q : Option AV → AH → Prop} {x0 : Int32} {G : AH} (h : Q (some (vi ((((((((x0 - ((iushr x0 1) &&& 1431655765)) &&& 858993459) + ((iushr (x0 - ((iushr x0 1) &&& 1431655765)) 2) &&& 858993459)) + (iushr (((x0 - ((iushr x0 1) &&& 1431655765)) &&& 858993459) + ((iushr (x0 - ((iushr x0 1) &&& 1431655765)) 2) &&& 858993459)) 4)) &&& 252645135) + (iushr (((((x0 - ((iushr x0 1) &&& 1431655765)) &&& 858993459) + ((iushr (x0 - ((iushr x0 1) &&& 1431655765)) 2) &&& 858993459)) + (iushr (((x0 - ((iushr x0 1) &&& 1431655765)) &&& 858993459) + ((iushr (x0 - ((iushr x0 1) &&& 1431655765)) 2) &&& 858993459)) 4)) &&& 252645135) 8)) + (iushr ((((((x0 - ((iushr x0 1) &&& 1431655765)) &&& 858993459) + ((iushr (x0 - ((iushr x0 1) &&& 1431655765)) 2) &&& 858993459)) + (iushr (((x0 - ((iushr x0 1) &&& 1431655765)) &&& 858993459) + ((iushr (x0 - ((iushr x0 1) &&& 1431655765)) 2) &&& 858993459)) 4)) &&& 252645135) + (iushr (((((x0 - ((iushr x0 1) &&& 1431655765)) &&& 858993459) + ((iushr (x0 - ((iushr x0 1) &&& 1431655765)) 2) &&& 858993459)) + (iushr (((x0 - ((iushr x0 1) &&& 1431655765)) &&& 858993459) + ((iushr (x0 - ((iushr x0 1) &&& 1431655765)) 2) &&& 858993459)) 4)) &&& 252645135) 8)) 16)) &&& 63))) G) : wp E d M_J6_bitCount_0f7a4 0 [some (vi x0)] [] G Q := by
  refine wp_iload_n (pc := 0) d_J6_bitCount_0f7a4_0 rfl ?_
  refine wp_iload_n (pc := 1) d_J6_bitCount_0f7a4_1 rfl ?_
  refine wp_iconst (pc := 2) (v := 1) d_J6_bitCount_0f7a4_2 rfl ?_
  refine wp_iushr (pc := 3) d_J6_bitCount_0f7a4_3 ?_
  refine wp_ldcw (pc := 4) (v := 1431655765) d_J6_bitCount_0f7a4_4 ci_J6_265 ?_
  refine wp_iand (pc := 7) d_J6_bitCount_0f7a4_7 ?_
  refine wp_isub (pc := 8) d_J6_bitCount_0f7a4_8 ?_
  refine wp_istore_n (pc := 9) (lv' := [some (vi _)]) d_J6_bitCount_0f7a4_9 (by decide) rfl ?_
  refine wp_iload_n (pc := 10) d_J6_bitCount_0f7a4_10 rfl ?_
  refine wp_ldcw (pc := 11) (v := 858993459) d_J6_bitCount_0f7a4_11 ci_J6_266 ?_
  refine wp_iand (pc := 14) d_J6_bitCount_0f7a4_14 ?_
  refine wp_iload_n (pc := 15) d_J6_bitCount_0f7a4_15 rfl ?_
  refine wp_iconst (pc := 16) (v := 2) d_J6_bitCount_0f7a4_16 rfl ?_
  refine wp_iushr (pc := 17) d_J6_bitCount_0f7a4_17 ?_
  refine wp_ldcw (pc := 18) (v := 858993459) d_J6_bitCount_0f7a4_18 ci_J6_266 ?_
  refine wp_iand (pc := 21) d_J6_bitCount_0f7a4_21 ?_
  refine wp_iadd (pc := 22) d_J6_bitCount_0f7a4_22 ?_
  refine wp_istore_n (pc := 23) (lv' := [some (vi _)]) d_J6_bitCount_0f7a4_23 (by decide) rfl ?_
  refine wp_iload_n (pc := 24) d_J6_bitCount_0f7a4_24 rfl ?_
  refine wp_iload_n (pc := 25) d_J6_bitCount_0f7a4_25 rfl ?_
  refine wp_iconst (pc := 26) (v := 4) d_J6_bitCount_0f7a4_26 rfl ?_
  refine wp_iushr (pc := 27) d_J6_bitCount_0f7a4_27 ?_
  refine wp_iadd (pc := 28) d_J6_bitCount_0f7a4_28 ?_
  refine wp_ldcw (pc := 29) (v := 252645135) d_J6_bitCount_0f7a4_29 ci_J6_267 ?_
  refine wp_iand (pc := 32) d_J6_bitCount_0f7a4_32 ?_
  refine wp_istore_n (pc := 33) (lv' := [some (vi _)]) d_J6_bitCount_0f7a4_33 (by decide) rfl ?_
  refine wp_iload_n (pc := 34) d_J6_bitCount_0f7a4_34 rfl ?_
  refine wp_iload_n (pc := 35) d_J6_bitCount_0f7a4_35 rfl ?_
  refine wp_bipush (pc := 36) (v := 8) d_J6_bitCount_0f7a4_36 rfl ?_
  refine wp_iushr (pc := 38) d_J6_bitCount_0f7a4_38 ?_
  refine wp_iadd (pc := 39) d_J6_bitCount_0f7a4_39 ?_
  refine wp_istore_n (pc := 40) (lv' := [some (vi _)]) d_J6_bitCount_0f7a4_40 (by decide) rfl ?_
  refine wp_iload_n (pc := 41) d_J6_bitCount_0f7a4_41 rfl ?_
  refine wp_iload_n (pc := 42) d_J6_bitCount_0f7a4_42 rfl ?_
  refine wp_bipush (pc := 43) (v := 16) d_J6_bitCount_0f7a4_43 rfl ?_
  refine wp_iushr (pc := 45) d_J6_bitCount_0f7a4_45 ?_
  refine wp_iadd (pc := 46) d_J6_bitCount_0f7a4_46 ?_
  refine wp_istore_n (pc := 47) (lv' := [some (vi _)]) d_J6_bitCount_0f7a4_47 (by decide) rfl ?_
  refine wp_iload_n (pc := 48) d_J6_bitCount_0f7a4_48 rfl ?_
  refine wp_bipush (pc := 49) (v := 63) d_J6_bitCount_0f7a4_49 rfl ?_
  refine wp_iand (pc := 51) d_J6_bitCount_0f7a4_51 ?_
  exact wp_iret (pc := 52) d_J6_bitCount_0f7a4_52 rfl h
theorem d_J6_numberOfTrailingZeros_0f7a4_0 : decode prog_17_method_48_code 0 = .ok (.iload_n 0, 1) := by decide +kernel
theorem d_J6_numberOfTrailingZeros_0f7a4_1 : decode prog_17_method_48_code 1 = .ok (.iconst (-1), 1) := by decide +kernel
theorem d_J6_numberOfTrailingZeros_0f7a4_2 : decode prog_17_method_48_code 2 = .ok (.ixor, 1) := by decide +kernel
theorem d_J6_numberOfTrailingZeros_0f7a4_3 : decode prog_17_method_48_code 3 = .ok (.iload_n 0, 1) := by decide +kernel
theorem d_J6_numberOfTrailingZeros_0f7a4_4 : decode prog_17_method_48_code 4 = .ok (.iconst 1, 1) := by decide +kernel
theorem d_J6_numberOfTrailingZeros_0f7a4_5 : decode prog_17_method_48_code 5 = .ok (.isub, 1) := by decide +kernel
theorem d_J6_numberOfTrailingZeros_0f7a4_6 : decode prog_17_method_48_code 6 = .ok (.iand, 1) := by decide +kernel
theorem d_J6_numberOfTrailingZeros_0f7a4_7 : decode prog_17_method_48_code 7 = .ok (.istore_n 0, 1) := by decide +kernel
theorem d_J6_numberOfTrailingZeros_0f7a4_8 : decode prog_17_method_48_code 8 = .ok (.iload_n 0, 1) := by decide +kernel
theorem d_J6_numberOfTrailingZeros_0f7a4_9 : decode prog_17_method_48_code 9 = .ok (.ifCond .gt 8, 3) := by decide +kernel
theorem d_J6_numberOfTrailingZeros_0f7a4_12 : decode prog_17_method_48_code 12 = .ok (.iload_n 0, 1) := by decide +kernel
theorem d_J6_numberOfTrailingZeros_0f7a4_13 : decode prog_17_method_48_code 13 = .ok (.bipush 32, 2) := by decide +kernel
theorem d_J6_numberOfTrailingZeros_0f7a4_15 : decode prog_17_method_48_code 15 = .ok (.iand, 1) := by decide +kernel
theorem d_J6_numberOfTrailingZeros_0f7a4_16 : decode prog_17_method_48_code 16 = .ok (.ireturn, 1) := by decide +kernel
theorem d_J6_numberOfTrailingZeros_0f7a4_17 : decode prog_17_method_48_code 17 = .ok (.iconst 1, 1) := by decide +kernel
theorem d_J6_numberOfTrailingZeros_0f7a4_18 : decode prog_17_method_48_code 18 = .ok (.istore_n 1, 1) := by decide +kernel
theorem d_J6_numberOfTrailingZeros_0f7a4_19 : decode prog_17_method_48_code 19 = .ok (.iload_n 0, 1) := by decide +kernel
theorem d_J6_numberOfTrailingZeros_0f7a4_20 : decode prog_17_method_48_code 20 = .ok (.ldc_w 264, 3) := by decide +kernel
theorem d_J6_numberOfTrailingZeros_0f7a4_23 : decode prog_17_method_48_code 23 = .ok (.if_icmp .le 11, 3) := by decide +kernel
theorem d_J6_numberOfTrailingZeros_0f7a4_26 : decode prog_17_method_48_code 26 = .ok (.iinc 1 16, 3) := by decide +kernel
theorem d_J6_numberOfTrailingZeros_0f7a4_29 : decode prog_17_method_48_code 29 = .ok (.iload_n 0, 1) := by decide +kernel
theorem d_J6_numberOfTrailingZeros_0f7a4_30 : decode prog_17_method_48_code 30 = .ok (.bipush 16, 2) := by decide +kernel
theorem d_J6_numberOfTrailingZeros_0f7a4_32 : decode prog_17_method_48_code 32 = .ok (.iushr, 1) := by decide +kernel
theorem d_J6_numberOfTrailingZeros_0f7a4_33 : decode prog_17_method_48_code 33 = .ok (.istore_n 0, 1) := by decide +kernel
theorem d_J6_numberOfTrailingZeros_0f7a4_34 : decode prog_17_method_48_code 34 = .ok (.iload_n 0, 1) := by decide +kernel
theorem d_J6_numberOfTrailingZeros_0f7a4_35 : decode prog_17_method_48_code 35 = .ok (.sipush 256, 3) := by decide +kernel
theorem d_J6_numberOfTrailingZeros_0f7a4_38 : decode prog_17_method_48_code 38 = .ok (.if_icmp .le 11, 3) := by decide +kernel
theorem d_J6_numberOfTrailingZeros_0f7a4_41 : decode prog_17_method_48_code 41 = .ok (.iinc 1 8, 3) := by decide +kernel
theorem d_J6_numberOfTrailingZeros_0f7a4_44 : decode prog_17_method_48_code 44 = .ok (.iload_n 0, 1) := by decide +kernel
theorem d_J6_numberOfTrailingZeros_0f7a4_45 : decode prog_17_method_48_code 45 = .ok (.bipush 8, 2) := by decide +kernel
theorem d_J6_numberOfTrailingZeros_0f7a4_47 : decode prog_17_method_48_code 47 = .ok (.iushr, 1) := by decide +kernel
theorem d_J6_numberOfTrailingZeros_0f7a4_48 : decode prog_17_method_48_code 48 = .ok (.istore_n 0, 1) := by decide +kernel
theorem d_J6_numberOfTrailingZeros_0f7a4_49 : decode prog_17_method_48_code 49 = .ok (.iload_n 0, 1) := by decide +kernel
theorem d_J6_numberOfTrailingZeros_0f7a4_50 : decode prog_17_method_48_code 50 = .ok (.bipush 16, 2) := by decide +kernel
theorem d_J6_numberOfTrailingZeros_0f7a4_52 : decode prog_17_method_48_code 52 = .ok (.if_icmp .le 10, 3) := by decide +kernel
theorem d_J6_numberOfTrailingZeros_0f7a4_55 : decode prog_17_method_48_code 55 = .ok (.iinc 1 4, 3) := by decide +kernel
theorem d_J6_numberOfTrailingZeros_0f7a4_58 : decode prog_17_method_48_code 58 = .ok (.iload_n 0, 1) := by decide +kernel
theorem d_J6_numberOfTrailingZeros_0f7a4_59 : decode prog_17_method_48_code 59 = .ok (.iconst 4, 1) := by decide +kernel
theorem d_J6_numberOfTrailingZeros_0f7a4_60 : decode prog_17_method_48_code 60 = .ok (.iushr, 1) := by decide +kernel
theorem d_J6_numberOfTrailingZeros_0f7a4_61 : decode prog_17_method_48_code 61 = .ok (.istore_n 0, 1) := by decide +kernel
theorem d_J6_numberOfTrailingZeros_0f7a4_62 : decode prog_17_method_48_code 62 = .ok (.iload_n 0, 1) := by decide +kernel
theorem d_J6_numberOfTrailingZeros_0f7a4_63 : decode prog_17_method_48_code 63 = .ok (.iconst 4, 1) := by decide +kernel
theorem d_J6_numberOfTrailingZeros_0f7a4_64 : decode prog_17_method_48_code 64 = .ok (.if_icmp .le 10, 3) := by decide +kernel
theorem d_J6_numberOfTrailingZeros_0f7a4_67 : decode prog_17_method_48_code 67 = .ok (.iinc 1 2, 3) := by decide +kernel
theorem d_J6_numberOfTrailingZeros_0f7a4_70 : decode prog_17_method_48_code 70 = .ok (.iload_n 0, 1) := by decide +kernel
theorem d_J6_numberOfTrailingZeros_0f7a4_71 : decode prog_17_method_48_code 71 = .ok (.iconst 2, 1) := by decide +kernel
theorem d_J6_numberOfTrailingZeros_0f7a4_72 : decode prog_17_method_48_code 72 = .ok (.iushr, 1) := by decide +kernel
theorem d_J6_numberOfTrailingZeros_0f7a4_73 : decode prog_17_method_48_code 73 = .ok (.istore_n 0, 1) := by decide +kernel
theorem d_J6_numberOfTrailingZeros_0f7a4_74 : decode prog_17_method_48_code 74 = .ok (.iload_n 1, 1) := by decide +kernel
theorem d_J6_numberOfTrailingZeros_0f7a4_75 : decode prog_17_method_48_code 75 = .ok (.iload_n 0, 1) := by decide +kernel
theorem d_J6_numberOfTrailingZeros_0f7a4_76 : decode prog_17_method_48_code 76 = .ok (.iconst 1, 1) := by decide +kernel
theorem d_J6_numberOfTrailingZeros_0f7a4_77 : decode prog_17_method_48_code 77 = .ok (.iushr, 1) := by decide +kernel
theorem d_J6_numberOfTrailingZeros_0f7a4_78 : decode prog_17_method_48_code 78 = .ok (.iadd, 1) := by decide +kernel
theorem d_J6_numberOfTrailingZeros_0f7a4_79 : decode prog_17_method_48_code 79 = .ok (.ireturn, 1) := by decide +kernel
theorem v_J6_numberOfTrailingZeros_0f7a4_0 {E : EE} {d : Nat} {Q : Option AV → AH → Prop} {x0 : Int32} {G : AH} (h : (0 < ((x0 ^^^ (-1)) &&& (x0 - 1)) → (((x0 ^^^ (-1)) &&& (x0 - 1)) ≤ 65536 → wp E d M_J6_numberOfTrailingZeros_0f7a4 34 [some (vi ((x0 ^^^ (-1)) &&& (x0 - 1))), some (vi 1)] [] G Q) ∧ (¬ (((x0 ^^^ (-1)) &&& (x0 - 1)) ≤ 65536) → wp E d M_J6_numberOfTrailingZeros_0f7a4 34 [some (vi (iushr ((x0 ^^^ (-1)) &&& (x0 - 1)) 16)), some (vi (1 + 16))] [] G Q)) ∧ (¬ (0 < ((x0 ^^^ (-1)) &&& (x0 - 1))) → Q (some (vi (((x0 ^^^ (-1)) &&& (x0 - 1)) &&& 32))) G)) : wp E d M_J6_numberOfTrailingZeros_0f7a4 0 [some (vi x0), none] [] G Q := by
  refine wp_iload_n (pc := 0) d_J6_numberOfTrailingZeros_0f7a4_0 rfl ?_
  refine wp_iconst (pc := 1) (v := (-1)) d_J6_numberOfTrailingZeros_0f7a4_1 rfl ?_
  refine wp_ixor (pc := 2) d_J6_numberOfTrailingZeros_0f7a4_2 ?_
  refine wp_iload_n (pc := 3) d_J6_numberOfTrailingZeros_0f7a4_3 rfl ?_
  refine wp_iconst (pc := 4) (v := 1) d_J6_numberOfTrailingZeros_0f7a4_4 rfl ?_
  refine wp_isub (pc := 5) d_J6_numberOfTrailingZeros_0f7a4_5 ?_
  refine wp_iand (pc := 6) d_J6_numberOfTrailingZeros_0f7a4_6 ?_
  refine wp_istore_n (pc := 7) (lv' := [some (vi _), none]) d_J6_numberOfTrailingZeros_0f7a4_7 (by decide) rfl ?_
  refine wp_iload_n (pc := 8) d_J6_numberOfTrailingZeros_0f7a4_8 rfl ?_
  refine wp_if_gt (pc := 9) (tgt := 17) d_J6_numberOfTrailingZeros_0f7a4_9 (by decide) (fun hc => ?_) (fun hc => ?_)
  · have h := h.1 hc
    refine wp_iconst (pc := 17) (v := 1) d_J6_numberOfTrailingZeros_0f7a4_17 rfl ?_
    refine wp_istore_n (pc := 18) (lv' := [some (vi _), some (vi _)]) d_J6_numberOfTrailingZeros_0f7a4_18 (by decide) rfl ?_
    refine wp_iload_n (pc := 19) d_J6_numberOfTrailingZeros_0f7a4_19 rfl ?_
    refine wp_ldcw (pc := 20) (v := 65536) d_J6_numberOfTrailingZeros_0f7a4_20 ci_J6_264 ?_
    refine wp_icmp_le (pc := 23) (tgt := 34) d_J6_numberOfTrailingZeros_0f7a4_23 (by decide) (fun hc => ?_) (fun hc => ?_)
    · have h := h.1 hc
      refine wp_sub ?_ h
      exact ⟨rfl, ⟨rfl, trivial⟩⟩
    · have h := h.2 hc
      refine wp_iinc (pc := 26) (v := 16) (lv' := [some (vi _), some (vi _)]) d_J6_numberOfTrailingZeros_0f7a4_26 (by decide) rfl rfl rfl ?_
      refine wp_iload_n (pc := 29) d_J6_numberOfTrailingZeros_0f7a4_29 rfl ?_
      refine wp_bipush (pc := 30) (v := 16) d_J6_numberOfTrailingZeros_0f7a4_30 rfl ?_
      refine wp_iushr (pc := 32) d_J6_numberOfTrailingZeros_0f7a4_32 ?_
      refine wp_istore_n (pc := 33) (lv' := [some (vi _), some (vi _)]) d_J6_numberOfTrailingZeros_0f7a4_33 (by decide) rfl ?_
      refine wp_sub ?_ h
      exact ⟨rfl, ⟨rfl, trivial⟩⟩
  · have h := h.2 hc
    refine wp_iload_n (pc := 12) d_J6_numberOfTrailingZeros_0f7a4_12 rfl ?_
    refine wp_bipush (pc := 13) (v := 32) d_J6_numberOfTrailingZeros_0f7a4_13 rfl ?_
    refine wp_iand (pc := 15) d_J6_numberOfTrailingZeros_0f7a4_15 ?_
    exact wp_iret (pc := 16) d_J6_numberOfTrailingZeros_0f7a4_16 rfl h
theorem v_J6_numberOfTrailingZeros_0f7a4_34 {E : EE} {d : Nat} {Q : Option AV → AH → Prop} {x0 : Int32} {x1 : Int32} {G : AH} (h : (x0 ≤ 256 → wp E d M_J6_numberOfTrailingZeros_0f7a4 49 [some (vi x0), some (vi x1)] [] G Q) ∧ (¬ (x0 ≤ 256) → wp E d M_J6_numberOfTrailingZeros_0f7a4 49 [some (vi (iushr x0 8)), some (vi (x1 + 8))] [] G Q)) : wp E d M_J6_numberOfTrailingZeros_0f7a4 34 [some (vi x0), some (vi x1)] [] G Q := by
  refine wp_iload_n (pc := 34) d_J6_numberOfTrailingZeros_0f7a4_34 rfl ?_
  refine wp_sipush (pc := 35) (v := 256) d_J6_numberOfTrailingZeros_0f7a4_35 rfl ?_
  refine wp_icmp_le (pc := 38) (tgt := 49) d_J6_numberOfTrailingZeros_0f7a4_38 (by decide) (fun hc => ?_) (fun hc => ?_)
  · have h := h.1 hc
    refine wp_sub ?_ h
    exact ⟨rfl, ⟨rfl, trivial⟩⟩
  · have h := h.2 hc
    refine wp_iinc (pc := 41) (v := 8) (lv' := [some (vi _), some (vi _)]) d_J6_numberOfTrailingZeros_0f7a4_41 (by decide) rfl rfl rfl ?_
    refine wp_iload_n (pc := 44) d_J6_numberOfTrailingZeros_0f7a4_44 rfl ?_
    refine wp_bipush (pc := 45) (v := 8) d_J6_numberOfTrailingZeros_0f7a4_45 rfl ?_
    refine wp_iushr (pc := 47) d_J6_numberOfTrailingZeros_0f7a4_47 ?_
    refine wp_istore_n (pc := 48) (lv' := [some (vi _), some (vi _)]) d_J6_numberOfTrailingZeros_0f7a4_48 (by decide) rfl ?_
    refine wp_sub ?_ h
    exact ⟨rfl, ⟨rfl, trivial⟩⟩
theorem v_J6_numberOfTrailingZeros_0f7a4_49 {E : EE} {d : Nat} {Q : Option AV → AH → Prop} {x0 : Int32} {x1 : Int32} {G : AH} (h : (x0 ≤ 16 → wp E d M_J6_numberOfTrailingZeros_0f7a4 62 [some (vi x0), some (vi x1)] [] G Q) ∧ (¬ (x0 ≤ 16) → wp E d M_J6_numberOfTrailingZeros_0f7a4 62 [some (vi (iushr x0 4)), some (vi (x1 + 4))] [] G Q)) : wp E d M_J6_numberOfTrailingZeros_0f7a4 49 [some (vi x0), some (vi x1)] [] G Q := by
  refine wp_iload_n (pc := 49) d_J6_numberOfTrailingZeros_0f7a4_49 rfl ?_
  refine wp_bipush (pc := 50) (v := 16) d_J6_numberOfTrailingZeros_0f7a4_50 rfl ?_
  refine wp_icmp_le (pc := 52) (tgt := 62) d_J6_numberOfTrailingZeros_0f7a4_52 (by decide) (fun hc => ?_) (fun hc => ?_)
  · have h := h.1 hc
    refine wp_sub ?_ h
    exact ⟨rfl, ⟨rfl, trivial⟩⟩
  · have h := h.2 hc
    refine wp_iinc (pc := 55) (v := 4) (lv' := [some (vi _), some (vi _)]) d_J6_numberOfTrailingZeros_0f7a4_55 (by decide) rfl rfl rfl ?_
    refine wp_iload_n (pc := 58) d_J6_numberOfTrailingZeros_0f7a4_58 rfl ?_
    refine wp_iconst (pc := 59) (v := 4) d_J6_numberOfTrailingZeros_0f7a4_59 rfl ?_
    refine wp_iushr (pc := 60) d_J6_numberOfTrailingZeros_0f7a4_60 ?_
    refine wp_istore_n (pc := 61) (lv' := [some (vi _), some (vi _)]) d_J6_numberOfTrailingZeros_0f7a4_61 (by decide) rfl ?_
    refine wp_sub ?_ h
    exact ⟨rfl, ⟨rfl, trivial⟩⟩
theorem v_J6_numberOfTrailingZeros_0f7a4_62 {E : EE} {d : Nat} {Q : Option AV → AH → Prop} {x0 : Int32} {x1 : Int32} {G : AH} (h : (x0 ≤ 4 → wp E d M_J6_numberOfTrailingZeros_0f7a4 74 [some (vi x0), some (vi x1)] [] G Q) ∧ (¬ (x0 ≤ 4) → wp E d M_J6_numberOfTrailingZeros_0f7a4 74 [some (vi (iushr x0 2)), some (vi (x1 + 2))] [] G Q)) : wp E d M_J6_numberOfTrailingZeros_0f7a4 62 [some (vi x0), some (vi x1)] [] G Q := by
  refine wp_iload_n (pc := 62) d_J6_numberOfTrailingZeros_0f7a4_62 rfl ?_
  refine wp_iconst (pc := 63) (v := 4) d_J6_numberOfTrailingZeros_0f7a4_63 rfl ?_
  refine wp_icmp_le (pc := 64) (tgt := 74) d_J6_numberOfTrailingZeros_0f7a4_64 (by decide) (fun hc => ?_) (fun hc => ?_)
  · have h := h.1 hc
    refine wp_sub ?_ h
    exact ⟨rfl, ⟨rfl, trivial⟩⟩
  · have h := h.2 hc
    refine wp_iinc (pc := 67) (v := 2) (lv' := [some (vi _), some (vi _)]) d_J6_numberOfTrailingZeros_0f7a4_67 (by decide) rfl rfl rfl ?_
    refine wp_iload_n (pc := 70) d_J6_numberOfTrailingZeros_0f7a4_70 rfl ?_
    refine wp_iconst (pc := 71) (v := 2) d_J6_numberOfTrailingZeros_0f7a4_71 rfl ?_
    refine wp_iushr (pc := 72) d_J6_numberOfTrailingZeros_0f7a4_72 ?_
    refine wp_istore_n (pc := 73) (lv' := [some (vi _), some (vi _)]) d_J6_numberOfTrailingZeros_0f7a4_73 (by decide) rfl ?_
    refine wp_sub ?_ h
    exact ⟨rfl, ⟨rfl, trivial⟩⟩
theorem v_J6_numberOfTrailingZeros_0f7a4_74 {E : EE} {d : Nat} {Q : Option AV → AH → Prop} {x0 : Int32} {x1 : Int32} {G : AH} (h : Q (some (vi (x1 + (iushr x0 1)))) G) : wp E d M_J6_numberOfTrailingZeros_0f7a4 74 [some (vi x0), some (vi x1)] [] G Q := by
  refine wp_iload_n (pc := 74) d_J6_numberOfTrailingZeros_0f7a4_74 rfl ?_
  refine wp_iload_n (pc := 75) d_J6_numberOfTrailingZeros_0f7a4_75 rfl ?_
  refine wp_iconst (pc := 76) (v := 1) d_J6_numberOfTrailingZeros_0f7a4_76 rfl ?_
  refine wp_iushr (pc := 77) d_J6_numberOfTrailingZeros_0f7a4_77 ?_
  refine wp_iadd (pc := 78) d_J6_numberOfTrailingZeros_0f7a4_78 ?_
  exact wp_iret (pc := 79) d_J6_numberOfTrailingZeros_0f7a4_79 rfl h
theorem d_J3_checkIndex_8e157_0 : decode prog_24_method_11_code 0 = .ok (.iload_n 0, 1) := by decide +kernel
theorem d_J3_checkIndex_8e157_1 : decode prog_24_method_11_code 1 = .ok (.ifCond .lt 8, 3) := by decide +kernel
theorem d_J3_checkIndex_8e157_4 : decode prog_24_method_11_code 4 = .ok (.iload_n 0, 1) := by decide +kernel
theorem d_J3_checkIndex_8e157_5 : decode prog_24_method_11_code 5 = .ok (.iload_n 1, 1) := by decide +kernel
theorem d_J3_checkIndex_8e157_6 : decode prog_24_method_11_code 6 = .ok (.if_icmp .lt 10, 3) := by decide +kernel
theorem d_J3_checkIndex_8e157_9 : decode prog_24_method_11_code 9 = .ok (.aload_n 2, 1) := by decide +kernel
theorem d_J3_checkIndex_8e157_10 : decode prog_24_method_11_code 10 = .ok (.iload_n 0, 1) := by decide +kernel
theorem d_J3_checkIndex_8e157_11 : decode prog_24_method_11_code 11 = .ok (.iload_n 1, 1) := by decide +kernel
theorem d_J3_checkIndex_8e157_12 : decode prog_24_method_11_code 12 = .ok (.invokestatic 95, 3) := by decide +kernel
theorem d_J3_checkIndex_8e157_15 : decode prog_24_method_11_code 15 = .ok (.athrow, 1) := by decide +kernel
theorem d_J3_checkIndex_8e157_16 : decode prog_24_method_11_code 16 = .ok (.iload_n 0, 1) := by decide +kernel
theorem d_J3_checkIndex_8e157_17 : decode prog_24_method_11_code 17 = .ok (.ireturn, 1) := by decide +kernel
theorem v_J3_checkIndex_8e157_0 {E : EE} {d : Nat} {Q : Option AV → AH → Prop} {x0 : Int32} {x1 : Int32} {x2 : AV} {G : AH} (h : (x0 < 0 → wp E d M_J3_checkIndex_8e157 9 [some (vi x0), some (vi x1), some (x2)] [] G Q) ∧ (¬ (x0 < 0) → (x0 < x1 → Q (some (vi x0)) G) ∧ (¬ (x0 < x1) → wp E d M_J3_checkIndex_8e157 9 [some (vi x0), some (vi x1), some (x2)] [] G Q))) : wp E d M_J3_checkIndex_8e157 0 [some (vi x0), some (vi x1), some (x2)] [] G Q := by
  refine wp_iload_n (pc := 0) d_J3_checkIndex_8e157_0 rfl ?_
  refine wp_if_lt (pc := 1) (tgt := 9) d_J3_checkIndex_8e157_1 (by decide) (fun hc => ?_) (fun hc => ?_)
  · have h := h.1 hc
    refine wp_sub ?_ h
    exact ⟨rfl, ⟨rfl, ⟨rfl, trivial⟩⟩⟩
  · have h := h.2 hc
    refine wp_iload_n (pc := 4) d_J3_checkIndex_8e157_4 rfl ?_
    refine wp_iload_n (pc := 5) d_J3_checkIndex_8e157_5 rfl ?_
    refine wp_icmp_lt (pc := 6) (tgt := 16) d_J3_checkIndex_8e157_6 (by decide) (fun hc => ?_) (fun hc => ?_)
    · have h := h.1 hc
      refine wp_iload_n (pc := 16) d_J3_checkIndex_8e157_16 rfl ?_
      exact wp_iret (pc := 17) d_J3_checkIndex_8e157_17 rfl h
    · have h := h.2 hc
      refine wp_sub ?_ h
      exact ⟨rfl, ⟨rfl, ⟨rfl, trivial⟩⟩⟩
theorem v_J3_checkIndex_8e157_9 {E : EE} {d : Nat} {Q : Option AV → AH → Prop} {x0 : Int32} {x1 : Int32} {x2 : AV} {G : AH} (h : False) : wp E d M_J3_checkIndex_8e157 9 [some (vi x0), some (vi x1), some (x2)] [] G Q := by
  exact h.elim
theorem d_J1_indexOf_4cfef_0 : decode prog_20_method_22_code 0 = .ok (.iload_n 1, 1) := by decide +kernel
theorem d_J1_indexOf_4cfef_1 : decode prog_20_method_22_code 1 = .ok (.invokestatic 88, 3) := by decide +kernel
theorem d_J1_indexOf_4cfef_4 : decode prog_20_method_22_code 4 = .ok (.ifCond .ne 5, 3) := by decide +kernel
theorem d_J1_indexOf_4cfef_7 : decode prog_20_method_22_code 7 = .ok (.iconst (-1), 1) := by decide +kernel
theorem d_J1_indexOf_4cfef_8 : decode prog_20_method_22_code 8 = .ok (.ireturn, 1) := by decide +kernel
theorem d_J1_indexOf_4cfef_9 : decode prog_20_method_22_code 9 = .ok (.iload_n 2, 1) := by decide +kernel
theorem d_J1_indexOf_4cfef_10 : decode prog_20_method_22_code 10 = .ok (.iconst 0, 1) := by decide +kernel
theorem d_J1_indexOf_4cfef_11 : decode prog_20_method_22_code 11 = .ok (.invokestatic 92, 3) := by decide +kernel
theorem d_J1_indexOf_4cfef_14 : decode prog_20_method_22_code 14 = .ok (.istore_n 2, 1) := by decide +kernel
theorem d_J1_indexOf_4cfef_15 : decode prog_20_method_22_code 15 = .ok (.iload_n 3, 1) := by decide +kernel
theorem d_J1_indexOf_4cfef_16 : decode prog_20_method_22_code 16 = .ok (.aload_n 0, 1) := by decide +kernel
theorem d_J1_indexOf_4cfef_17 : decode prog_20_method_22_code 17 = .ok (.arraylength, 1) := by decide +kernel
theorem d_J1_indexOf_4cfef_18 : decode prog_20_method_22_code 18 = .ok (.invokestatic 38, 3) := by decide +kernel
theorem d_J1_indexOf_4cfef_21 : decode prog_20_method_22_code 21 = .ok (.istore_n 3, 1) := by decide +kernel
theorem d_J1_indexOf_4cfef_22 : decode prog_20_method_22_code 22 = .ok (.iload_n 2, 1) := by decide +kernel
theorem d_J1_indexOf_4cfef_23 : decode prog_20_method_22_code 23 = .ok (.iload_n 3, 1) := by decide +kernel
theorem d_J1_indexOf_4cfef_24 : decode prog_20_method_22_code 24 = .ok (.if_icmp .lt 5, 3) := by decide +kernel
theorem d_J1_indexOf_4cfef_27 : decode prog_20_method_22_code 27 = .ok (.iconst (-1), 1) := by decide +kernel
theorem d_J1_indexOf_4cfef_28 : decode prog_20_method_22_code 28 = .ok (.ireturn, 1) := by decide +kernel
theorem d_J1_indexOf_4cfef_29 : decode prog_20_method_22_code 29 = .ok (.aload_n 0, 1) := by decide +kernel
theorem d_J1_indexOf_4cfef_30 : decode prog_20_method_22_code 30 = .ok (.iload_n 1, 1) := by decide +kernel
theorem d_J1_indexOf_4cfef_31 : decode prog_20_method_22_code 31 = .ok (.iload_n 2, 1) := by decide +kernel
theorem d_J1_indexOf_4cfef_32 : decode prog_20_method_22_code 32 = .ok (.iload_n 3, 1) := by decide +kernel
theorem d_J1_indexOf_4cfef_33 : decode prog_20_method_22_code 33 = .ok (.invokestatic 95, 3) := by decide +kernel
theorem d_J1_indexOf_4cfef_36 : decode prog_20_method_22_code 36 = .ok (.ireturn, 1) := by decide +kernel
theorem v_J1_indexOf_4cfef_0 {E : EE} {d : Nat} {Q : Option AV → AH → Prop} {x0 : Nat} {x1 : Int32} {x2 : Int32} {x3 : Int32} {G : AH} (h0 : 0 < d) (h : wpI E (d - 1) M_J1_canEncode_9a6ad [vi x1] G (fun r1 G2 => (¬ r1 = 0 → x0 < 22 ∧ (((imax x2 0) < (imin x3 (nI (txN x0))) → wpI E (d - 1) M_J1_indexOfChar_4cfef [vs (eV E x0), vi x1, vi (imax x2 0), vi (imin x3 (nI (txN x0)))] G2 (fun r4 G5 => Q (some (vi r4)) G5)) ∧ (¬ ((imax x2 0) < (imin x3 (nI (txN x0)))) → Q (some (vi (-1))) G2))) ∧ (r1 = 0 → Q (some (vi (-1))) G2))) : wp E d M_J1_indexOf_4cfef 0 [some (vs (eV E x0)), some (vi x1), some (vi x2), some (vi x3)] [] G Q := by
  refine wp_iload_n (pc := 0) d_J1_indexOf_4cfef_0 rfl ?_
  refine wp_invS (pc := 1) (N := M_J1_canEncode_9a6ad) (As := [vi _]) (rest := []) d_J1_indexOf_4cfef_1 ml_J1_88 mk_J1_canEncode_9a6ad ms_J1_canEncode_9a6ad h0 (Nat.le_of_ble_eq_true rfl) ?_
  refine wpM.mono h (fun rr G2 hr => ?_)
  obtain ⟨r1, rfl, h⟩ := hr
  show wp E d M_J1_indexOf_4cfef 4 [some (vs (eV E x0)), some (vi _), some (vi _), some (vi _)] [vi _] G2 Q
  refine wp_if_ne (pc := 4) (tgt := 9) d_J1_indexOf_4cfef_4 (by decide) (fun hc => ?_) (fun hc => ?_)
  · have h := h.1 hc
    refine wp_iload_n (pc := 9) d_J1_indexOf_4cfef_9 rfl ?_
    refine wp_iconst (pc := 10) (v := 0) d_J1_indexOf_4cfef_10 rfl ?_
    refine wp_imax (pc := 11) d_J1_indexOf_4cfef_11 ml_J1_92 ms_imax ii_math mc_imax h0 (Nat.le_of_ble_eq_true rfl) ?_
    refine wp_istore_n (pc := 14) (lv' := [some (vs (eV E x0)), some (vi _), some (vi _), some (vi _)]) d_J1_indexOf_4cfef_14 (by decide) rfl ?_
    refine wp_iload_n (pc := 15) d_J1_indexOf_4cfef_15 rfl ?_
    refine wp_aload_nS (pc := 16) d_J1_indexOf_4cfef_16 rfl ?_
    obtain ⟨ht3, h⟩ := h
    refine wp_tlen (pc := 17) (n := x0) ht3 d_J1_indexOf_4cfef_17 ?_
    refine wp_imin (pc := 18) d_J1_indexOf_4cfef_18 ml_J1_38 ms_imin ii_math mc_imin h0 (Nat.le_of_ble_eq_true rfl) ?_
    refine wp_istore_n (pc := 21) (lv' := [some (vs (eV E x0)), some (vi _), some (vi _), some (vi _)]) d_J1_indexOf_4cfef_21 (by decide) rfl ?_
    refine wp_iload_n (pc := 22) d_J1_indexOf_4cfef_22 rfl ?_
    refine wp_iload_n (pc := 23) d_J1_indexOf_4cfef_23 rfl ?_
    refine wp_icmp_lt (pc := 24) (tgt := 29) d_J1_indexOf_4cfef_24 (by decide) (fun hc => ?_) (fun hc => ?_)
    · have h := h.1 hc
      refine wp_aload_nS (pc := 29) d_J1_indexOf_4cfef_29 rfl ?_
      refine wp_iload_n (pc := 30) d_J1_indexOf_4cfef_30 rfl ?_
      refine wp_iload_n (pc := 31) d_J1_indexOf_4cfef_31 rfl ?_
      refine wp_iload_n (pc := 32) d_J1_indexOf_4cfef_32 rfl ?_
      refine wp_invS (pc := 33) (N := M_J1_indexOfChar_4cfef) (As := [vs (eV E x0), vi _, vi _, vi _]) (rest := []) d_J1_indexOf_4cfef_33 ml_J1_95 mk_J1_indexOfChar_4cfef ms_J1_indexOfChar_4cfef h0 (Nat.le_of_ble_eq_true rfl) ?_
      refine wpM.mono h (fun rr G5 hr => ?_)
      obtain ⟨r4, rfl, h⟩ := hr
      show wp E d M_J1_indexOf_4cfef 36 [some (vs (eV E x0)), some (vi _), some (vi _), some (vi _)] [vi _] G5 Q
      exact wp_iret (pc := 36) d_J1_indexOf_4cfef_36 rfl h
    · have h := h.2 hc
      refine wp_iconst (pc := 27) (v := (-1)) d_J1_indexOf_4cfef_27 rfl ?_
      exact wp_iret (pc := 28) d_J1_indexOf_4cfef_28 rfl h
  · have h := h.2 hc
    refine wp_iconst (pc := 7) (v := (-1)) d_J1_indexOf_4cfef_7 rfl ?_
    exact wp_iret (pc := 8) d_J1_indexOf_4cfef_8 rfl h
theorem d_J1_canEncode_9a6ad_0 : decode prog_20_method_4_code 0 = .ok (.iload_n 0, 1) := by decide +kernel
theorem d_J1_canEncode_9a6ad_1 : decode prog_20_method_4_code 1 = .ok (.ifCond .lt 14, 3) := by decide +kernel
theorem d_J1_canEncode_9a6ad_4 : decode prog_20_method_4_code 4 = .ok (.iload_n 0, 1) := by decide +kernel
theorem d_J1_canEncode_9a6ad_5 : decode prog_20_method_4_code 5 = .ok (.sipush 255, 3) := by decide +kernel
theorem d_J1_canEncode_9a6ad_8 : decode prog_20_method_4_code 8 = .ok (.if_icmp .gt 7, 3) := by decide +kernel
theorem d_J1_canEncode_9a6ad_11 : decode prog_20_method_4_code 11 = .ok (.iconst 1, 1) := by decide +kernel
theorem d_J1_canEncode_9a6ad_12 : decode prog_20_method_4_code 12 = .ok (.goto 4, 3) := by decide +kernel
theorem d_J1_canEncode_9a6ad_15 : decode prog_20_method_4_code 15 = .ok (.iconst 0, 1) := by decide +kernel
theorem d_J1_canEncode_9a6ad_16 : decode prog_20_method_4_code 16 = .ok (.ireturn, 1) := by decide +kernel
theorem v_J1_canEncode_9a6ad_0 {E : EE} {d : Nat} {Q : Option AV → AH → Prop} {x0 : Int32} {G : AH} (h : (x0 < 0 → Q (some (vi 0)) G) ∧ (¬ (x0 < 0) → (255 < x0 → Q (some (vi 0)) G) ∧ (¬ (255 < x0) → Q (some (vi 1)) G))) : wp E d M_J1_canEncode_9a6ad 0 [some (vi x0)] [] G Q := by
  refine wp_iload_n (pc := 0) d_J1_canEncode_9a6ad_0 rfl ?_
  refine wp_if_lt (pc := 1) (tgt := 15) d_J1_canEncode_9a6ad_1 (by decide) (fun hc => ?_) (fun hc => ?_)
  · have h := h.1 hc
    refine wp_iconst (pc := 15) (v := 0) d_J1_canEncode_9a6ad_15 rfl ?_
    exact wp_zret (pc := 16) d_J1_canEncode_9a6ad_16 rfl rfl h
  · have h := h.2 hc
    refine wp_iload_n (pc := 4) d_J1_canEncode_9a6ad_4 rfl ?_
    refine wp_sipush (pc := 5) (v := 255) d_J1_canEncode_9a6ad_5 rfl ?_
    refine wp_icmp_gt (pc := 8) (tgt := 15) d_J1_canEncode_9a6ad_8 (by decide) (fun hc => ?_) (fun hc => ?_)
    · have h := h.1 hc
      refine wp_iconst (pc := 15) (v := 0) d_J1_canEncode_9a6ad_15 rfl ?_
      exact wp_zret (pc := 16) d_J1_canEncode_9a6ad_16 rfl rfl h
    · have h := h.2 hc
      refine wp_iconst (pc := 11) (v := 1) d_J1_canEncode_9a6ad_11 rfl ?_
      refine wp_goto (pc := 12) (tgt := 16) d_J1_canEncode_9a6ad_12 (by decide) ?_
      exact wp_zret (pc := 16) d_J1_canEncode_9a6ad_16 rfl rfl h
theorem d_J1_indexOfChar_4cfef_0 : decode prog_20_method_23_code 0 = .ok (.iload_n 1, 1) := by decide +kernel
theorem d_J1_indexOfChar_4cfef_1 : decode prog_20_method_23_code 1 = .ok (.i2b, 1) := by decide +kernel
theorem d_J1_indexOfChar_4cfef_2 : decode prog_20_method_23_code 2 = .ok (.istore 4, 2) := by decide +kernel
theorem d_J1_indexOfChar_4cfef_4 : decode prog_20_method_23_code 4 = .ok (.iload_n 2, 1) := by decide +kernel
theorem d_J1_indexOfChar_4cfef_5 : decode prog_20_method_23_code 5 = .ok (.istore 5, 2) := by decide +kernel
theorem d_J1_indexOfChar_4cfef_7 : decode prog_20_method_23_code 7 = .ok (.iload 5, 2) := by decide +kernel
theorem d_J1_indexOfChar_4cfef_9 : decode prog_20_method_23_code 9 = .ok (.iload_n 3, 1) := by decide +kernel
theorem d_J1_indexOfChar_4cfef_10 : decode prog_20_method_23_code 10 = .ok (.if_icmp .ge 21, 3) := by decide +kernel
theorem d_J1_indexOfChar_4cfef_13 : decode prog_20_method_23_code 13 = .ok (.aload_n 0, 1) := by decide +kernel
theorem d_J1_indexOfChar_4cfef_14 : decode prog_20_method_23_code 14 = .ok (.iload 5, 2) := by decide +kernel
theorem d_J1_indexOfChar_4cfef_16 : decode prog_20_method_23_code 16 = .ok (.baload, 1) := by decide +kernel
theorem d_J1_indexOfChar_4cfef_17 : decode prog_20_method_23_code 17 = .ok (.iload 4, 2) := by decide +kernel
theorem d_J1_indexOfChar_4cfef_19 : decode prog_20_method_23_code 19 = .ok (.if_icmp .ne 6, 3) := by decide +kernel
theorem d_J1_indexOfChar_4cfef_22 : decode prog_20_method_23_code 22 = .ok (.iload 5, 2) := by decide +kernel
theorem d_J1_indexOfChar_4cfef_24 : decode prog_20_method_23_code 24 = .ok (.ireturn, 1) := by decide +kernel
theorem d_J1_indexOfChar_4cfef_25 : decode prog_20_method_23_code 25 = .ok (.iinc 5 1, 3) := by decide +kernel
theorem d_J1_indexOfChar_4cfef_28 : decode prog_20_method_23_code 28 = .ok (.goto (-21), 3) := by decide +kernel
theorem d_J1_indexOfChar_4cfef_31 : decode prog_20_method_23_code 31 = .ok (.iconst (-1), 1) := by decide +kernel
theorem d_J1_indexOfChar_4cfef_32 : decode prog_20_method_23_code 32 = .ok (.ireturn, 1) := by decide +kernel
theorem v_J1_indexOfChar_4cfef_0 {E : EE} {d : Nat} {Q : Option AV → AH → Prop} {x0 : Nat} {x1 : Int32} {x2 : Int32} {x3 : Int32} {G : AH} (h : wp E d M_J1_indexOfChar_4cfef 7 [some (vs (eV E x0)), some (vi x1), some (vi x2), some (vi x3), some (vi (i2b x1)), some (vi x2)] [] G Q) : wp E d M_J1_indexOfChar_4cfef 0 [some (vs (eV E x0)), some (vi x1), some (vi x2), some (vi x3), none, none] [] G Q := by
  refine wp_iload_n (pc := 0) d_J1_indexOfChar_4cfef_0 rfl ?_
  refine wp_i2b (pc := 1) d_J1_indexOfChar_4cfef_1 ?_
  refine wp_istore (pc := 2) (lv' := [some (vs (eV E x0)), some (vi _), some (vi _), some (vi _), some (vi _), none]) d_J1_indexOfChar_4cfef_2 (by decide) rfl ?_
  refine wp_iload_n (pc := 4) d_J1_indexOfChar_4cfef_4 rfl ?_
  refine wp_istore (pc := 5) (lv' := [some (vs (eV E x0)), some (vi _), some (vi _), some (vi _), some (vi _), some (vi _)]) d_J1_indexOfChar_4cfef_5 (by decide) rfl ?_
  refine wp_sub ?_ h
  exact ⟨rfl, ⟨rfl, ⟨rfl, ⟨rfl, ⟨rfl, ⟨rfl, trivial⟩⟩⟩⟩⟩⟩
theorem v_J1_indexOfChar_4cfef_7 {E : EE} {d : Nat} {Q : Option AV → AH → Prop} {x0 : Nat} {x1 : Int32} {x2 : Int32} {x3 : Int32} {x4 : Int32} {x5 : Int32} {G : AH} (h : (x3 ≤ x5 → Q (some (vi (-1))) G) ∧ (¬ (x3 ≤ x5) → x0 < 22 ∧ (vp_in x5 (txN x0) ∧ ((¬ (txAt x0 (Int32.toNatClampNeg x5)) = x4 → wp E d M_J1_indexOfChar_4cfef 7 [some (vs (eV E x0)), some (vi x1), some (vi x2), some (vi x3), some (vi x4), some (vi (x5 + 1))] [] G Q) ∧ ((txAt x0 (Int32.toNatClampNeg x5)) = x4 → Q (some (vi x5)) G))))) : wp E d M_J1_indexOfChar_4cfef 7 [some (vs (eV E x0)), some (vi x1), some (vi x2), some (vi x3), some (vi x4), some (vi x5)] [] G Q := by
  refine wp_iload (pc := 7) d_J1_indexOfChar_4cfef_7 rfl ?_
  refine wp_iload_n (pc := 9) d_J1_indexOfChar_4cfef_9 rfl ?_
  refine wp_icmp_ge (pc := 10) (tgt := 31) d_J1_indexOfChar_4cfef_10 (by decide) (fun hc => ?_) (fun hc => ?_)
  · have h := h.1 hc
    refine wp_iconst (pc := 31) (v := (-1)) d_J1_indexOfChar_4cfef_31 rfl ?_
    exact wp_iret (pc := 32) d_J1_indexOfChar_4cfef_32 rfl h
  · have h := h.2 hc
    refine wp_aload_nS (pc := 13) d_J1_indexOfChar_4cfef_13 rfl ?_
    refine wp_iload (pc := 14) d_J1_indexOfChar_4cfef_14 rfl ?_
    obtain ⟨ht1, h⟩ := h
    obtain ⟨hi2, h⟩ := h
    refine wp_tld (pc := 16) (n := x0) ht1 d_J1_indexOfChar_4cfef_16 hi2 ?_
    refine wp_iload (pc := 17) d_J1_indexOfChar_4cfef_17 rfl ?_
    refine wp_icmp_ne (pc := 19) (tgt := 25) d_J1_indexOfChar_4cfef_19 (by decide) (fun hc => ?_) (fun hc => ?_)
    · have h := h.1 hc
      refine wp_iinc (pc := 25) (v := 1) (lv' := [some (vs (eV E x0)), some (vi _), some (vi _), some (vi _), some (vi _), some (vi _)]) d_J1_indexOfChar_4cfef_25 (by decide) rfl rfl rfl ?_
      refine wp_goto (pc := 28) (tgt := 7) d_J1_indexOfChar_4cfef_28 (by decide) ?_
      refine wp_sub ?_ h
      exact ⟨rfl, ⟨rfl, ⟨rfl, ⟨rfl, ⟨rfl, ⟨rfl, trivial⟩⟩⟩⟩⟩⟩
    · have h := h.2 hc
      refine wp_iload (pc := 22) d_J1_indexOfChar_4cfef_22 rfl ?_
      exact wp_iret (pc := 24) d_J1_indexOfChar_4cfef_24 rfl h
theorem d_J1_charAt_3b067_0 : decode prog_20_method_2_code 0 = .ok (.iload_n 1, 1) := by decide +kernel
theorem d_J1_charAt_3b067_1 : decode prog_20_method_2_code 1 = .ok (.aload_n 0, 1) := by decide +kernel
theorem d_J1_charAt_3b067_2 : decode prog_20_method_2_code 2 = .ok (.arraylength, 1) := by decide +kernel
theorem d_J1_charAt_3b067_3 : decode prog_20_method_2_code 3 = .ok (.invokestatic 9, 3) := by decide +kernel
theorem d_J1_charAt_3b067_6 : decode prog_20_method_2_code 6 = .ok (.aload_n 0, 1) := by decide +kernel
theorem d_J1_charAt_3b067_7 : decode prog_20_method_2_code 7 = .ok (.iload_n 1, 1) := by decide +kernel
theorem d_J1_charAt_3b067_8 : decode prog_20_method_2_code 8 = .ok (.baload, 1) := by decide +kernel
theorem d_J1_charAt_3b067_9 : decode prog_20_method_2_code 9 = .ok (.sipush 255, 3) := by decide +kernel
theorem d_J1_charAt_3b067_12 : decode prog_20_method_2_code 12 = .ok (.iand, 1) := by decide +kernel
theorem d_J1_charAt_3b067_13 : decode prog_20_method_2_code 13 = .ok (.i2c, 1) := by decide +kernel
theorem d_J1_charAt_3b067_14 : decode prog_20_method_2_code 14 = .ok (.ireturn, 1) := by decide +kernel
theorem v_J1_charAt_3b067_0 {E : EE} {d : Nat} {Q : Option AV → AH → Prop} {x0 : Nat} {x1 : Int32} {G : AH} (h0 : 0 < d) (h : x0 < 22 ∧ (wpV E (d - 1) M_J0_checkIndex_df160 [vi x1, vi (nI (txN x0))] G (fun G2 => vp_in x1 (txN x0) ∧ (okI .char (i2c ((txAt x0 (Int32.toNatClampNeg x1)) &&& 255)) ∧ Q (some (vi (i2c ((txAt x0 (Int32.toNatClampNeg x1)) &&& 255)))) G2)))) : wp E d M_J1_charAt_3b067 0 [some (vs (eV E x0)), some (vi x1)] [] G Q := by
  refine wp_iload_n (pc := 0) d_J1_charAt_3b067_0 rfl ?_
  refine wp_aload_nS (pc := 1) d_J1_charAt_3b067_1 rfl ?_
  obtain ⟨ht1, h⟩ := h
  refine wp_tlen (pc := 2) (n := x0) ht1 d_J1_charAt_3b067_2 ?_
  refine wp_invS (pc := 3) (N := M_J0_checkIndex_df160) (As := [vi _, vi _]) (rest := []) d_J1_charAt_3b067_3 ml_J1_9 mk_J0_checkIndex_df160 ms_J0_checkIndex_df160 h0 (Nat.le_of_ble_eq_true rfl) ?_
  refine wpM.mono h (fun rr G2 hr => ?_)
  obtain ⟨rfl, h⟩ := hr
  show wp E d M_J1_charAt_3b067 6 [some (vs (eV E x0)), some (vi _)] [] G2 Q
  refine wp_aload_nS (pc := 6) d_J1_charAt_3b067_6 rfl ?_
  refine wp_iload_n (pc := 7) d_J1_charAt_3b067_7 rfl ?_
  obtain ⟨hi3, h⟩ := h
  refine wp_tld (pc := 8) (n := x0) ht1 d_J1_charAt_3b067_8 hi3 ?_
  refine wp_sipush (pc := 9) (v := 255) d_J1_charAt_3b067_9 rfl ?_
  refine wp_iand (pc := 12) d_J1_charAt_3b067_12 ?_
  refine wp_i2c (pc := 13) d_J1_charAt_3b067_13 ?_
  exact wp_zret (pc := 14) d_J1_charAt_3b067_14 rfl h.1.1 h.2
theorem d_J0_indexOf_0f7a4_0 : decode prog_19_method_79_code 0 = .ok (.aload_n 0, 1) := by decide +kernel
theorem d_J0_indexOf_0f7a4_1 : decode prog_19_method_79_code 1 = .ok (.iload_n 1, 1) := by decide +kernel
theorem d_J0_indexOf_0f7a4_2 : decode prog_19_method_79_code 2 = .ok (.iconst 0, 1) := by decide +kernel
theorem d_J0_indexOf_0f7a4_3 : decode prog_19_method_79_code 3 = .ok (.invokevirtual 633, 3) := by decide +kernel
theorem d_J0_indexOf_0f7a4_6 : decode prog_19_method_79_code 6 = .ok (.ireturn, 1) := by decide +kernel
theorem v_J0_indexOf_0f7a4_0 {E : EE} {d : Nat} {Q : Option AV → AH → Prop} {x0 : Nat} {x1 : Int32} {G : AH} (h0 : 0 < d) (h : x0 < 22 ∧ (wpI E (d - 1) M_J0_indexOf_7cf53 [vs (eK E x0), vi x1, vi 0] G (fun r1 G2 => Q (some (vi r1)) G2))) : wp E d M_J0_indexOf_0f7a4 0 [some (vs (eK E x0)), some (vi x1)] [] G Q := by
  refine wp_aload_nS (pc := 0) d_J0_indexOf_0f7a4_0 rfl ?_
  refine wp_iload_n (pc := 1) d_J0_indexOf_0f7a4_1 rfl ?_
  refine wp_iconst (pc := 2) (v := 0) d_J0_indexOf_0f7a4_2 rfl ?_
  obtain ⟨ht3, h⟩ := h
  refine wp_invT (pc := 3) (N := M_J0_indexOf_7cf53) (i := x0) (As := [vi _, vi _]) (rest := []) ht3 d_J0_indexOf_0f7a4_3 ml_J0_633 mk_J0_indexOf_7cf53 mv_J0_indexOf_7cf53 h0 rfl (Nat.le_of_ble_eq_true rfl) ?_
  refine wpM.mono h (fun rr G2 hr => ?_)
  obtain ⟨r1, rfl, h⟩ := hr
  show wp E d M_J0_indexOf_0f7a4 6 [some (vs (eK E x0)), some (vi _)] [vi _] G2 Q
  exact wp_iret (pc := 6) d_J0_indexOf_0f7a4_6 rfl h
theorem d_J0_indexOf_7cf53_0 : decode prog_19_method_80_code 0 = .ok (.aload_n 0, 1) := by decide +kernel
theorem d_J0_indexOf_7cf53_1 : decode prog_19_method_80_code 1 = .ok (.invokevirtual 492, 3) := by decide +kernel
theorem d_J0_indexOf_7cf53_4 : decode prog_19_method_80_code 4 = .ok (.ifCond .eq 19, 3) := by decide +kernel
theorem d_J0_indexOf_7cf53_7 : decode prog_19_method_80_code 7 = .ok (.aload_n 0, 1) := by decide +kernel
theorem d_J0_indexOf_7cf53_8 : decode prog_19_method_80_code 8 = .ok (.getfield 9, 3) := by decide +kernel
theorem d_J0_indexOf_7cf53_11 : decode prog_19_method_80_code 11 = .ok (.iload_n 1, 1) := by decide +kernel
theorem d_J0_indexOf_7cf53_12 : decode prog_19_method_80_code 12 = .ok (.iload_n 2, 1) := by decide +kernel
theorem d_J0_indexOf_7cf53_13 : decode prog_19_method_80_code 13 = .ok (.aload_n 0, 1) := by decide +kernel
theorem d_J0_indexOf_7cf53_14 : decode prog_19_method_80_code 14 = .ok (.invokevirtual 505, 3) := by decide +kernel
theorem d_J0_indexOf_7cf53_17 : decode prog_19_method_80_code 17 = .ok (.invokestatic 637, 3) := by decide +kernel
theorem d_J0_indexOf_7cf53_20 : decode prog_19_method_80_code 20 = .ok (.goto 16, 3) := by decide +kernel
theorem d_J0_indexOf_7cf53_23 : decode prog_19_method_80_code 23 = .ok (.aload_n 0, 1) := by decide +kernel
theorem d_J0_indexOf_7cf53_24 : decode prog_19_method_80_code 24 = .ok (.getfield 9, 3) := by decide +kernel
theorem d_J0_indexOf_7cf53_27 : decode prog_19_method_80_code 27 = .ok (.iload_n 1, 1) := by decide +kernel
theorem d_J0_indexOf_7cf53_28 : decode prog_19_method_80_code 28 = .ok (.iload_n 2, 1) := by decide +kernel
theorem d_J0_indexOf_7cf53_29 : decode prog_19_method_80_code 29 = .ok (.aload_n 0, 1) := by decide +kernel
theorem d_J0_indexOf_7cf53_30 : decode prog_19_method_80_code 30 = .ok (.invokevirtual 505, 3) := by decide +kernel
theorem d_J0_indexOf_7cf53_33 : decode prog_19_method_80_code 33 = .ok (.invokestatic 640, 3) := by decide +kernel
theorem d_J0_indexOf_7cf53_36 : decode prog_19_method_80_code 36 = .ok (.ireturn, 1) := by decide +kernel
theorem v_J0_indexOf_7cf53_0 {E : EE} {d : Nat} {Q : Option AV → AH → Prop} {x0 : Nat} {x1 : Int32} {x2 : Int32} {G : AH} (h0 : 0 < d) (h : x0 < 22 ∧ (wpI E (d - 1) M_J0_isLatin1_aae02 [vs (eK E x0)] G (fun r1 G2 => (r1 = 0 → wpI E (d - 1) M_J0_length_8abf5 [vs (eK E x0)] G2 (fun r12 G13 => False)) ∧ (¬ (r1 = 0) → wpI E (d - 1) M_J0_length_8abf5 [vs (eK E x0)] G2 (fun r14 G15 => wpI E (d - 1) M_J1_indexOf_4cfef [vs (eV E x0), vi x1, vi x2, vi r14] G15 (fun r16 G17 => Q (some (vi r16)) G17)))))) : wp E d M_J0_indexOf_7cf53 0 [some (vs (eK E x0)), some (vi x1), some (vi x2)] [] G Q := by
  refine wp_aload_nS (pc := 0) d_J0_indexOf_7cf53_0 rfl ?_
  obtain ⟨ht11, h⟩ := h
  refine wp_invT (pc := 1) (N := M_J0_isLatin1_aae02) (i := x0) (As := []) (rest := []) ht11 d_J0_indexOf_7cf53_1 ml_J0_492 mk_J0_isLatin1_aae02 mv_J0_isLatin1_aae02 h0 rfl (Nat.le_of_ble_eq_true rfl) ?_
  refine wpM.mono h (fun rr G2 hr => ?_)
  obtain ⟨r1, rfl, h⟩ := hr
  show wp E d M_J0_indexOf_7cf53 4 [some (vs (eK E x0)), some (vi _), some (vi _)] [vi _] G2 Q
  refine wp_if_eq (pc := 4) (tgt := 23) d_J0_indexOf_7cf53_4 (by decide) (fun hc => ?_) (fun hc => ?_)
  · have h := h.1 hc
    refine wp_aload_nS (pc := 23) d_J0_indexOf_7cf53_23 rfl ?_
    refine wp_tval (pc := 24) (n := x0) ht11 d_J0_indexOf_7cf53_24 sl_J0_9 ?_
    refine wp_iload_n (pc := 27) d_J0_indexOf_7cf53_27 rfl ?_
    refine wp_iload_n (pc := 28) d_J0_indexOf_7cf53_28 rfl ?_
    refine wp_aload_nS (pc := 29) d_J0_indexOf_7cf53_29 rfl ?_
    refine wp_invT (pc := 30) (N := M_J0_length_8abf5) (i := x0) (As := []) (rest := [vi _, vi _, vs (eV E x0)]) ht11 d_J0_indexOf_7cf53_30 ml_J0_505 mk_J0_length_8abf5 mv_J0_length_8abf5 h0 rfl (Nat.le_of_ble_eq_true rfl) ?_
    refine wpM.mono h (fun rr G13 hr => ?_)
    obtain ⟨r12, rfl, h⟩ := hr
    show wp E d M_J0_indexOf_7cf53 33 [some (vs (eK E x0)), some (vi _), some (vi _)] [vi _, vi _, vi _, vs (eV E x0)] G13 Q
    exact h.elim
  · have h := h.2 hc
    refine wp_aload_nS (pc := 7) d_J0_indexOf_7cf53_7 rfl ?_
    refine wp_tval (pc := 8) (n := x0) ht11 d_J0_indexOf_7cf53_8 sl_J0_9 ?_
    refine wp_iload_n (pc := 11) d_J0_indexOf_7cf53_11 rfl ?_
    refine wp_iload_n (pc := 12) d_J0_indexOf_7cf53_12 rfl ?_
    refine wp_aload_nS (pc := 13) d_J0_indexOf_7cf53_13 rfl ?_
    refine wp_invT (pc := 14) (N := M_J0_length_8abf5) (i := x0) (As := []) (rest := [vi _, vi _, vs (eV E x0)]) ht11 d_J0_indexOf_7cf53_14 ml_J0_505 mk_J0_length_8abf5 mv_J0_length_8abf5 h0 rfl (Nat.le_of_ble_eq_true rfl) ?_
    refine wpM.mono h (fun rr G15 hr => ?_)
    obtain ⟨r14, rfl, h⟩ := hr
    show wp E d M_J0_indexOf_7cf53 17 [some (vs (eK E x0)), some (vi _), some (vi _)] [vi _, vi _, vi _, vs (eV E x0)] G15 Q
    refine wp_invS (pc := 17) (N := M_J1_indexOf_4cfef) (As := [vs (eV E x0), vi _, vi _, vi _]) (rest := []) d_J0_indexOf_7cf53_17 ml_J0_637 mk_J1_indexOf_4cfef ms_J1_indexOf_4cfef h0 (Nat.le_of_ble_eq_true rfl) ?_
    refine wpM.mono h (fun rr G17 hr => ?_)
    obtain ⟨r16, rfl, h⟩ := hr
    show wp E d M_J0_indexOf_7cf53 20 [some (vs (eK E x0)), some (vi _), some (vi _)] [vi _] G17 Q
    refine wp_goto (pc := 20) (tgt := 36) d_J0_indexOf_7cf53_20 (by decide) ?_
    exact wp_iret (pc := 36) d_J0_indexOf_7cf53_36 rfl h
theorem d_J0_isLatin1_aae02_0 : decode prog_19_method_154_code 0 = .ok (.getstatic 38, 3) := by decide +kernel
theorem d_J0_isLatin1_aae02_3 : decode prog_19_method_154_code 3 = .ok (.ifCond .eq 14, 3) := by decide +kernel
theorem d_J0_isLatin1_aae02_6 : decode prog_19_method_154_code 6 = .ok (.aload_n 0, 1) := by decide +kernel
theorem d_J0_isLatin1_aae02_7 : decode prog_19_method_154_code 7 = .ok (.getfield 15, 3) := by decide +kernel
theorem d_J0_isLatin1_aae02_10 : decode prog_19_method_154_code 10 = .ok (.ifCond .ne 7, 3) := by decide +kernel
theorem d_J0_isLatin1_aae02_13 : decode prog_19_method_154_code 13 = .ok (.iconst 1, 1) := by decide +kernel
theorem d_J0_isLatin1_aae02_14 : decode prog_19_method_154_code 14 = .ok (.goto 4, 3) := by decide +kernel
theorem d_J0_isLatin1_aae02_17 : decode prog_19_method_154_code 17 = .ok (.iconst 0, 1) := by decide +kernel
theorem d_J0_isLatin1_aae02_18 : decode prog_19_method_154_code 18 = .ok (.ireturn, 1) := by decide +kernel
theorem v_J0_isLatin1_aae02_0 {E : EE} {d : Nat} {Q : Option AV → AH → Prop} {x0 : Nat} {G : AH} (h : ((1 : Int32) = 0 → Q (some (vi 0)) G) ∧ (¬ ((1 : Int32) = 0) → x0 < 22 ∧ ((¬ (0 : Int32) = 0 → Q (some (vi 0)) G) ∧ ((0 : Int32) = 0 → Q (some (vi 1)) G)))) : wp E d M_J0_isLatin1_aae02 0 [some (vs (eK E x0))] [] G Q := by
  refine wp_compact (pc := 0) d_J0_isLatin1_aae02_0 sl_J0_38 ?_
  refine wp_if_eq (pc := 3) (tgt := 17) d_J0_isLatin1_aae02_3 (by decide) (fun hc => ?_) (fun hc => ?_)
  · have h := h.1 hc
    refine wp_iconst (pc := 17) (v := 0) d_J0_isLatin1_aae02_17 rfl ?_
    exact wp_zret (pc := 18) d_J0_isLatin1_aae02_18 rfl rfl h
  · have h := h.2 hc
    refine wp_aload_nS (pc := 6) d_J0_isLatin1_aae02_6 rfl ?_
    obtain ⟨ht1, h⟩ := h
    refine wp_tcod (pc := 7) (n := x0) ht1 d_J0_isLatin1_aae02_7 sl_J0_15 ?_
    refine wp_if_ne (pc := 10) (tgt := 17) d_J0_isLatin1_aae02_10 (by decide) (fun hc => ?_) (fun hc => ?_)
    · have h := h.1 hc
      refine wp_iconst (pc := 17) (v := 0) d_J0_isLatin1_aae02_17 rfl ?_
      exact wp_zret (pc := 18) d_J0_isLatin1_aae02_18 rfl rfl h
    · have h := h.2 hc
      refine wp_iconst (pc := 13) (v := 1) d_J0_isLatin1_aae02_13 rfl ?_
      refine wp_goto (pc := 14) (tgt := 18) d_J0_isLatin1_aae02_14 (by decide) ?_
      exact wp_zret (pc := 18) d_J0_isLatin1_aae02_18 rfl rfl h
theorem d_J0_length_8abf5_0 : decode prog_19_method_54_code 0 = .ok (.aload_n 0, 1) := by decide +kernel
theorem d_J0_length_8abf5_1 : decode prog_19_method_54_code 1 = .ok (.getfield 9, 3) := by decide +kernel
theorem d_J0_length_8abf5_4 : decode prog_19_method_54_code 4 = .ok (.arraylength, 1) := by decide +kernel
theorem d_J0_length_8abf5_5 : decode prog_19_method_54_code 5 = .ok (.aload_n 0, 1) := by decide +kernel
theorem d_J0_length_8abf5_6 : decode prog_19_method_54_code 6 = .ok (.invokevirtual 335, 3) := by decide +kernel
theorem d_J0_length_8abf5_9 : decode prog_19_method_54_code 9 = .ok (.ishr, 1) := by decide +kernel
theorem d_J0_length_8abf5_10 : decode prog_19_method_54_code 10 = .ok (.ireturn, 1) := by decide +kernel
theorem v_J0_length_8abf5_0 {E : EE} {d : Nat} {Q : Option AV → AH → Prop} {x0 : Nat} {G : AH} (h0 : 0 < d) (h : x0 < 22 ∧ (wpI E (d - 1) M_J0_coder_7d493 [vs (eK E x0)] G (fun r2 G3 => Q (some (vi ((nI (txN x0)) >>> (r2 &&& 31)))) G3))) : wp E d M_J0_length_8abf5 0 [some (vs (eK E x0))] [] G Q := by
  refine wp_aload_nS (pc := 0) d_J0_length_8abf5_0 rfl ?_
  obtain ⟨ht1, h⟩ := h
  refine wp_tval (pc := 1) (n := x0) ht1 d_J0_length_8abf5_1 sl_J0_9 ?_
  refine wp_tlen (pc := 4) (n := x0) ht1 d_J0_length_8abf5_4 ?_
  refine wp_aload_nS (pc := 5) d_J0_length_8abf5_5 rfl ?_
  refine wp_invT (pc := 6) (N := M_J0_coder_7d493) (i := x0) (As := []) (rest := [vi _]) ht1 d_J0_length_8abf5_6 ml_J0_335 mk_J0_coder_7d493 mv_J0_coder_7d493 h0 rfl (Nat.le_of_ble_eq_true rfl) ?_
  refine wpM.mono h (fun rr G3 hr => ?_)
  obtain ⟨r2, rfl, h⟩ := hr
  show wp E d M_J0_length_8abf5 9 [some (vs (eK E x0))] [vi _, vi _] G3 Q
  refine wp_ishr (pc := 9) d_J0_length_8abf5_9 ?_
  exact wp_iret (pc := 10) d_J0_length_8abf5_10 rfl h
theorem d_J0_coder_7d493_0 : decode prog_19_method_152_code 0 = .ok (.getstatic 38, 3) := by decide +kernel
theorem d_J0_coder_7d493_3 : decode prog_19_method_152_code 3 = .ok (.ifCond .eq 10, 3) := by decide +kernel
theorem d_J0_coder_7d493_6 : decode prog_19_method_152_code 6 = .ok (.aload_n 0, 1) := by decide +kernel
theorem d_J0_coder_7d493_7 : decode prog_19_method_152_code 7 = .ok (.getfield 15, 3) := by decide +kernel
theorem d_J0_coder_7d493_10 : decode prog_19_method_152_code 10 = .ok (.goto 4, 3) := by decide +kernel
theorem d_J0_coder_7d493_13 : decode prog_19_method_152_code 13 = .ok (.iconst 1, 1) := by decide +kernel
theorem d_J0_coder_7d493_14 : decode prog_19_method_152_code 14 = .ok (.ireturn, 1) := by decide +kernel
theorem v_J0_coder_7d493_0 {E : EE} {d : Nat} {Q : Option AV → AH → Prop} {x0 : Nat} {G : AH} (h : ((1 : Int32) = 0 → okI .byte 1 ∧ Q (some (vi 1)) G) ∧ (¬ ((1 : Int32) = 0) → x0 < 22 ∧ (okI .byte 0 ∧ Q (some (vi 0)) G))) : wp E d M_J0_coder_7d493 0 [some (vs (eK E x0))] [] G Q := by
  refine wp_compact (pc := 0) d_J0_coder_7d493_0 sl_J0_38 ?_
  refine wp_if_eq (pc := 3) (tgt := 13) d_J0_coder_7d493_3 (by decide) (fun hc => ?_) (fun hc => ?_)
  · have h := h.1 hc
    refine wp_iconst (pc := 13) (v := 1) d_J0_coder_7d493_13 rfl ?_
    exact wp_zret (pc := 14) d_J0_coder_7d493_14 rfl h.1.1 h.2
  · have h := h.2 hc
    refine wp_aload_nS (pc := 6) d_J0_coder_7d493_6 rfl ?_
    obtain ⟨ht1, h⟩ := h
    refine wp_tcod (pc := 7) (n := x0) ht1 d_J0_coder_7d493_7 sl_J0_15 ?_
    refine wp_goto (pc := 10) (tgt := 14) d_J0_coder_7d493_10 (by decide) ?_
    exact wp_zret (pc := 14) d_J0_coder_7d493_14 rfl h.1.1 h.2
theorem d_J0_charAt_5068e_0 : decode prog_19_method_56_code 0 = .ok (.aload_n 0, 1) := by decide +kernel
theorem d_J0_charAt_5068e_1 : decode prog_19_method_56_code 1 = .ok (.invokevirtual 492, 3) := by decide +kernel
theorem d_J0_charAt_5068e_4 : decode prog_19_method_56_code 4 = .ok (.ifCond .eq 12, 3) := by decide +kernel
theorem d_J0_charAt_5068e_7 : decode prog_19_method_56_code 7 = .ok (.aload_n 0, 1) := by decide +kernel
theorem d_J0_charAt_5068e_8 : decode prog_19_method_56_code 8 = .ok (.getfield 9, 3) := by decide +kernel
theorem d_J0_charAt_5068e_11 : decode prog_19_method_56_code 11 = .ok (.iload_n 1, 1) := by decide +kernel
theorem d_J0_charAt_5068e_12 : decode prog_19_method_56_code 12 = .ok (.invokestatic 495, 3) := by decide +kernel
theorem d_J0_charAt_5068e_15 : decode prog_19_method_56_code 15 = .ok (.ireturn, 1) := by decide +kernel
theorem d_J0_charAt_5068e_16 : decode prog_19_method_56_code 16 = .ok (.aload_n 0, 1) := by decide +kernel
theorem d_J0_charAt_5068e_17 : decode prog_19_method_56_code 17 = .ok (.getfield 9, 3) := by decide +kernel
theorem d_J0_charAt_5068e_20 : decode prog_19_method_56_code 20 = .ok (.iload_n 1, 1) := by decide +kernel
theorem d_J0_charAt_5068e_21 : decode prog_19_method_56_code 21 = .ok (.invokestatic 498, 3) := by decide +kernel
theorem d_J0_charAt_5068e_24 : decode prog_19_method_56_code 24 = .ok (.ireturn, 1) := by decide +kernel
theorem v_J0_charAt_5068e_0 {E : EE} {d : Nat} {Q : Option AV → AH → Prop} {x0 : Nat} {x1 : Int32} {G : AH} (h0 : 0 < d) (h : x0 < 22 ∧ (wpI E (d - 1) M_J0_isLatin1_aae02 [vs (eK E x0)] G (fun r1 G2 => (r1 = 0 → False) ∧ (¬ (r1 = 0) → wpI E (d - 1) M_J1_charAt_3b067 [vs (eV E x0), vi x1] G2 (fun r8 G9 => okI .char r8 ∧ Q (some (vi r8)) G9))))) : wp E d M_J0_charAt_5068e 0 [some (vs (eK E x0)), some (vi x1)] [] G Q := by
  refine wp_aload_nS (pc := 0) d_J0_charAt_5068e_0 rfl ?_
  obtain ⟨ht7, h⟩ := h
  refine wp_invT (pc := 1) (N := M_J0_isLatin1_aae02) (i := x0) (As := []) (rest := []) ht7 d_J0_charAt_5068e_1 ml_J0_492 mk_J0_isLatin1_aae02 mv_J0_isLatin1_aae02 h0 rfl (Nat.le_of_ble_eq_true rfl) ?_
  refine wpM.mono h (fun rr G2 hr => ?_)
  obtain ⟨r1, rfl, h⟩ := hr
  show wp E d M_J0_charAt_5068e 4 [some (vs (eK E x0)), some (vi _)] [vi _] G2 Q
  refine wp_if_eq (pc := 4) (tgt := 16) d_J0_charAt_5068e_4 (by decide) (fun hc => ?_) (fun hc => ?_)
  · have h := h.1 hc
    refine wp_aload_nS (pc := 16) d_J0_charAt_5068e_16 rfl ?_
    refine wp_tval (pc := 17) (n := x0) ht7 d_J0_charAt_5068e_17 sl_J0_9 ?_
    refine wp_iload_n (pc := 20) d_J0_charAt_5068e_20 rfl ?_
    exact h.elim
  · have h := h.2 hc
    refine wp_aload_nS (pc := 7) d_J0_charAt_5068e_7 rfl ?_
    refine wp_tval (pc := 8) (n := x0) ht7 d_J0_charAt_5068e_8 sl_J0_9 ?_
    refine wp_iload_n (pc := 11) d_J0_charAt_5068e_11 rfl ?_
    refine wp_invS (pc := 12) (N := M_J1_charAt_3b067) (As := [vs (eV E x0), vi _]) (rest := []) d_J0_charAt_5068e_12 ml_J0_495 mk_J1_charAt_3b067 ms_J1_charAt_3b067 h0 (Nat.le_of_ble_eq_true rfl) ?_
    refine wpM.mono h (fun rr G9 hr => ?_)
    obtain ⟨r8, rfl, h⟩ := hr
    show wp E d M_J0_charAt_5068e 15 [some (vs (eK E x0)), some (vi _)] [vi _] G9 Q
    exact wp_zret (pc := 15) d_J0_charAt_5068e_15 rfl h.1.1 h.2
theorem d_J0_checkIndex_df160_0 : decode prog_19_method_155_code 0 = .ok (.iload_n 0, 1) := by decide +kernel
theorem d_J0_checkIndex_df160_1 : decode prog_19_method_155_code 1 = .ok (.iload_n 1, 1) := by decide +kernel
theorem d_J0_checkIndex_df160_2 : decode prog_19_method_155_code 2 = .ok (.getstatic 1053, 3) := by decide +kernel
theorem d_J0_checkIndex_df160_5 : decode prog_19_method_155_code 5 = .ok (.invokestatic 1059, 3) := by decide +kernel
theorem d_J0_checkIndex_df160_8 : decode prog_19_method_155_code 8 = .ok (.pop, 1) := by decide +kernel
theorem d_J0_checkIndex_df160_9 : decode prog_19_method_155_code 9 = .ok (.return_, 1) := by decide +kernel
theorem v_J0_checkIndex_df160_0 {E : EE} {d : Nat} {Q : Option AV → AH → Prop} {x0 : Int32} {x1 : Int32} {G : AH} (h0 : 0 < d) (h : wpI E (d - 1) M_J3_checkIndex_8e157 [vi x0, vi x1, eF E] G (fun r1 G2 => Q none G2)) : wp E d M_J0_checkIndex_df160 0 [some (vi x0), some (vi x1)] [] G Q := by
  refine wp_iload_n (pc := 0) d_J0_checkIndex_df160_0 rfl ?_
  refine wp_iload_n (pc := 1) d_J0_checkIndex_df160_1 rfl ?_
  refine wp_sioobe (pc := 2) d_J0_checkIndex_df160_2 sl_J0_1053 ?_
  refine wp_invS (pc := 5) (N := M_J3_checkIndex_8e157) (As := [vi _, vi _, _]) (rest := []) d_J0_checkIndex_df160_5 ml_J0_1059 mk_J3_checkIndex_8e157 ms_J3_checkIndex_8e157 h0 (Nat.le_of_ble_eq_true rfl) ?_
  refine wpM.mono h (fun rr G2 hr => ?_)
  obtain ⟨r1, rfl, h⟩ := hr
  show wp E d M_J0_checkIndex_df160 8 [some (vi _), some (vi _)] [vi _] G2 Q
  refine wp_pop (pc := 8) d_J0_checkIndex_df160_8 (c1_i _) ?_
  exact wp_vret (pc := 9) d_J0_checkIndex_df160_9 rfl h
