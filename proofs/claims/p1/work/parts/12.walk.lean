/-! decode rows and regions (by program): J7_copyOf_9075b J7_fill_53178 J7_copyOf_59c91 J7_copyOf_c38d5 J7_fill_d0a16 J6_bitCount_0f7a4 J6_numberOfTrailingZeros_0f7a4 J3_checkIndex_8e157 J1_indexOf_4cfef J1_canEncode_9a6ad J1_indexOfChar_4cfef J1_charAt_3b067 J0_indexOf_0f7a4 J0_indexOf_7cf53 J0_isLatin1_aae02 J0_length_8abf5 J0_coder_7d493 J0_charAt_5068e J0_checkIndex_df160 -/
theorem d_J7_copyOf_9075b_0 : decode prog_23_method_121_code 0 = .ok (.iload_n 1, 1) := by decide +kernel
theorem d_J7_copyOf_9075b_1 : decode prog_23_method_121_code 1 = .ok (.aload_n 0, 1) := by decide +kernel
theorem d_J7_copyOf_9075b_2 : decode prog_23_method_121_code 2 = .ok (.arraylength, 1) := by decide +kernel
theorem d_J7_copyOf_9075b_3 : decode prog_23_method_121_code 3 = .ok (.if_icmp .ne 11, 3) := by decide +kernel
theorem d_J7_copyOf_9075b_6 : decode prog_23_method_121_code 6 = .ok (.aload_n 0, 1) := by decide +kernel
theorem d_J7_copyOf_9075b_14 : decode prog_23_method_121_code 14 = .ok (.iload_n 1, 1) := by decide +kernel
theorem d_J7_copyOf_9075b_15 : decode prog_23_method_121_code 15 = .ok (.newarray .byte, 2) := by decide +kernel
theorem d_J7_copyOf_9075b_17 : decode prog_23_method_121_code 17 = .ok (.astore_n 2, 1) := by decide +kernel
theorem d_J7_copyOf_9075b_18 : decode prog_23_method_121_code 18 = .ok (.aload_n 0, 1) := by decide +kernel
theorem d_J7_copyOf_9075b_19 : decode prog_23_method_121_code 19 = .ok (.iconst 0, 1) := by decide +kernel
theorem d_J7_copyOf_9075b_20 : decode prog_23_method_121_code 20 = .ok (.aload_n 2, 1) := by decide +kernel
theorem d_J7_copyOf_9075b_21 : decode prog_23_method_121_code 21 = .ok (.iconst 0, 1) := by decide +kernel
theorem d_J7_copyOf_9075b_22 : decode prog_23_method_121_code 22 = .ok (.aload_n 0, 1) := by decide +kernel
theorem d_J7_copyOf_9075b_23 : decode prog_23_method_121_code 23 = .ok (.arraylength, 1) := by decide +kernel
theorem d_J7_copyOf_9075b_24 : decode prog_23_method_121_code 24 = .ok (.iload_n 1, 1) := by decide +kernel
theorem d_J7_copyOf_9075b_25 : decode prog_23_method_121_code 25 = .ok (.invokestatic 304, 3) := by decide +kernel
theorem d_J7_copyOf_9075b_28 : decode prog_23_method_121_code 28 = .ok (.invokestatic 150, 3) := by decide +kernel
theorem d_J7_copyOf_9075b_31 : decode prog_23_method_121_code 31 = .ok (.aload_n 2, 1) := by decide +kernel
theorem d_J7_copyOf_9075b_32 : decode prog_23_method_121_code 32 = .ok (.areturn, 1) := by decide +kernel
theorem v_J7_copyOf_9075b_0 {E : EE} {d : Nat} {Q : Option AV → AH → Prop} {x0 : Nat} {x1 : Int32} {G : AH} (h0 : 0 < d) (h : isO E G x0 13 ∧ ((¬ x1 = (nI (gN G x0)) → eB E ≤ gT G ∧ (¬ x1 < 0 ∧ (Int32.toNatClampNeg x1 ≤ 60000000 ∧ (¬ (0 : Int32) < 0 ∧ (¬ (0 : Int32) < 0 ∧ (¬ (imin (nI (gN (nw G 13 (Int32.toNatClampNeg x1) (Int32.toNatClampNeg x1)) x0)) x1) < 0 ∧ ((Int32.toNatClampNeg 0) + (Int32.toNatClampNeg (imin (nI (gN (nw G 13 (Int32.toNatClampNeg x1) (Int32.toNatClampNeg x1)) x0)) x1)) ≤ gN (nw G 13 (Int32.toNatClampNeg x1) (Int32.toNatClampNeg x1)) x0 ∧ ((Int32.toNatClampNeg 0) + (Int32.toNatClampNeg (imin (nI (gN (nw G 13 (Int32.toNatClampNeg x1) (Int32.toNatClampNeg x1)) x0)) x1)) ≤ gN (nw G 13 (Int32.toNatClampNeg x1) (Int32.toNatClampNeg x1)) (gT G) ∧ ((∀ i, i < (Int32.toNatClampNeg (imin (nI (gN (nw G 13 (Int32.toNatClampNeg x1) (Int32.toNatClampNeg x1)) x0)) x1)) → fits .byte (.int (gI (nw G 13 (Int32.toNatClampNeg x1) (Int32.toNatClampNeg x1)) x0 ((Int32.toNatClampNeg 0) + i))) = true) ∧ (Q (some (vr (gT G))) (cpI (nw G 13 (Int32.toNatClampNeg x1) (Int32.toNatClampNeg x1)) x0 (gT G) (Int32.toNatClampNeg 0) (Int32.toNatClampNeg 0) (Int32.toNatClampNeg (imin (nI (gN (nw G 13 (Int32.toNatClampNeg x1) (Int32.toNatClampNeg x1)) x0)) x1))))))))))))) ∧ (x1 = (nI (gN G x0)) → False))) : wp E d M_J7_copyOf_9075b 0 [some (vr x0), some (vi x1), none] [] G Q := by
  refine wp_iload_n (pc := 0) d_J7_copyOf_9075b_0 rfl ?_
  refine wp_aload_n (pc := 1) d_J7_copyOf_9075b_1 rfl ?_
  obtain ⟨ho1, h⟩ := h
  refine wp_alen (pc := 2) d_J7_copyOf_9075b_2 ho1 (by decide) rfl ?_
  refine wp_icmp_ne (pc := 3) (tgt := 14) d_J7_copyOf_9075b_3 (by decide) (fun hc => ?_) (fun hc => ?_)
  · have h := h.1 hc
    refine wp_iload_n (pc := 14) d_J7_copyOf_9075b_14 rfl ?_
    obtain ⟨hb2, h⟩ := h
    obtain ⟨hn6, h⟩ := h
    obtain ⟨hm7, h⟩ := h
    refine wp_newa (pc := 15) (t0 := 0) (kd := 13) d_J7_copyOf_9075b_15 rfl (fun _ q => by cases q) ac_byte (by decide) (fun _ => rfl) rfl (by decide) hn6 hm7 ?_
    have ho3 := isO_nw (kd := 13) (n := (Int32.toNatClampNeg x1)) (sz := (Int32.toNatClampNeg x1)) ho1
    have hb4 := base_nw (kd := 13) (n := (Int32.toNatClampNeg x1)) (sz := (Int32.toNatClampNeg x1)) hb2
    have ho5 := isO_new (kd := 13) (n := (Int32.toNatClampNeg x1)) (sz := (Int32.toNatClampNeg x1)) hb2
    refine wp_astore_n (pc := 17) (lv' := [some (vr _), some (vi _), some (vr _)]) d_J7_copyOf_9075b_17 (by decide) rfl ?_
    refine wp_aload_n (pc := 18) d_J7_copyOf_9075b_18 rfl ?_
    refine wp_iconst (pc := 19) (v := 0) d_J7_copyOf_9075b_19 rfl ?_
    refine wp_aload_n (pc := 20) d_J7_copyOf_9075b_20 rfl ?_
    refine wp_iconst (pc := 21) (v := 0) d_J7_copyOf_9075b_21 rfl ?_
    refine wp_aload_n (pc := 22) d_J7_copyOf_9075b_22 rfl ?_
    refine wp_alen (pc := 23) d_J7_copyOf_9075b_23 ho3 (by decide) rfl ?_
    refine wp_iload_n (pc := 24) d_J7_copyOf_9075b_24 rfl ?_
    refine wp_imin (pc := 25) d_J7_copyOf_9075b_25 ml_J7_304 ms_imin ii_math mc_imin h0 (Nat.le_of_ble_eq_true rfl) ?_
    obtain ⟨hc8, h⟩ := h
    obtain ⟨hc9, h⟩ := h
    obtain ⟨hc10, h⟩ := h
    obtain ⟨hc11, h⟩ := h
    obtain ⟨hc12, h⟩ := h
    obtain ⟨hf13, h⟩ := h
    refine wp_cpy (pc := 28) (c := 13) d_J7_copyOf_9075b_28 ml_J7_150 nat_cpy st_cpy ii_sys h0 (by decide) rfl rfl ho3 ho5 hc8 hc9 hc10 hc11 hc12 (fun i q => ⟨hf13 i q, fun _ q => by cases q⟩) (Nat.le_of_ble_eq_true rfl) (pd_cpI _ _ _ _ _ _) (cpy_vI (E := E) (by decide)) ?_
    refine wp_aload_n (pc := 31) d_J7_copyOf_9075b_31 rfl ?_
    exact wp_aret (pc := 32) d_J7_copyOf_9075b_32 rfl (Or.inr ⟨_, rfl⟩) h
  · have h := h.2 hc
    refine wp_aload_n (pc := 6) d_J7_copyOf_9075b_6 rfl ?_
    exact h.elim
theorem d_J7_fill_53178_0 : decode prog_23_method_103_code 0 = .ok (.iconst 0, 1) := by decide +kernel
theorem d_J7_fill_53178_1 : decode prog_23_method_103_code 1 = .ok (.istore_n 2, 1) := by decide +kernel
theorem d_J7_fill_53178_2 : decode prog_23_method_103_code 2 = .ok (.aload_n 0, 1) := by decide +kernel
theorem d_J7_fill_53178_3 : decode prog_23_method_103_code 3 = .ok (.arraylength, 1) := by decide +kernel
theorem d_J7_fill_53178_4 : decode prog_23_method_103_code 4 = .ok (.istore_n 3, 1) := by decide +kernel
theorem d_J7_fill_53178_5 : decode prog_23_method_103_code 5 = .ok (.iload_n 2, 1) := by decide +kernel
theorem d_J7_fill_53178_6 : decode prog_23_method_103_code 6 = .ok (.iload_n 3, 1) := by decide +kernel
theorem d_J7_fill_53178_7 : decode prog_23_method_103_code 7 = .ok (.if_icmp .ge 13, 3) := by decide +kernel
theorem d_J7_fill_53178_10 : decode prog_23_method_103_code 10 = .ok (.aload_n 0, 1) := by decide +kernel
theorem d_J7_fill_53178_11 : decode prog_23_method_103_code 11 = .ok (.iload_n 2, 1) := by decide +kernel
theorem d_J7_fill_53178_12 : decode prog_23_method_103_code 12 = .ok (.iload_n 1, 1) := by decide +kernel
theorem d_J7_fill_53178_13 : decode prog_23_method_103_code 13 = .ok (.iastore, 1) := by decide +kernel
theorem d_J7_fill_53178_14 : decode prog_23_method_103_code 14 = .ok (.iinc 2 1, 3) := by decide +kernel
theorem d_J7_fill_53178_17 : decode prog_23_method_103_code 17 = .ok (.goto (-12), 3) := by decide +kernel
theorem d_J7_fill_53178_20 : decode prog_23_method_103_code 20 = .ok (.return_, 1) := by decide +kernel
theorem v_J7_fill_53178_0 {E : EE} {d : Nat} {Q : Option AV → AH → Prop} {x0 : Nat} {x1 : Int32} {G : AH} (h : isO E G x0 14 ∧ (wp E d M_J7_fill_53178 5 [some (vr x0), some (vi x1), some (vi 0), some (vi (nI (gN G x0)))] [] G Q)) : wp E d M_J7_fill_53178 0 [some (vr x0), some (vi x1), none, none] [] G Q := by
  refine wp_iconst (pc := 0) (v := 0) d_J7_fill_53178_0 rfl ?_
  refine wp_istore_n (pc := 1) (lv' := [some (vr _), some (vi _), some (vi _), none]) d_J7_fill_53178_1 (by decide) rfl ?_
  refine wp_aload_n (pc := 2) d_J7_fill_53178_2 rfl ?_
  obtain ⟨ho1, h⟩ := h
  refine wp_alen (pc := 3) d_J7_fill_53178_3 ho1 (by decide) rfl ?_
  refine wp_istore_n (pc := 4) (lv' := [some (vr _), some (vi _), some (vi _), some (vi _)]) d_J7_fill_53178_4 (by decide) rfl ?_
  refine wp_sub ?_ h
  exact ⟨rfl, ⟨rfl, ⟨rfl, ⟨rfl, trivial⟩⟩⟩⟩
theorem v_J7_fill_53178_5 {E : EE} {d : Nat} {Q : Option AV → AH → Prop} {x0 : Nat} {x1 : Int32} {x2 : Int32} {x3 : Int32} {G : AH} (h : (x3 ≤ x2 → Q none G) ∧ (¬ (x3 ≤ x2) → isO E G x0 14 ∧ (vp_in x2 (gN G x0) ∧ (wp E d M_J7_fill_53178 5 [some (vr x0), some (vi x1), some (vi (x2 + 1)), some (vi x3)] [] (sI G x0 (Int32.toNatClampNeg x2) x1) Q)))) : wp E d M_J7_fill_53178 5 [some (vr x0), some (vi x1), some (vi x2), some (vi x3)] [] G Q := by
  refine wp_iload_n (pc := 5) d_J7_fill_53178_5 rfl ?_
  refine wp_iload_n (pc := 6) d_J7_fill_53178_6 rfl ?_
  refine wp_icmp_ge (pc := 7) (tgt := 20) d_J7_fill_53178_7 (by decide) (fun hc => ?_) (fun hc => ?_)
  · have h := h.1 hc
    exact wp_vret (pc := 20) d_J7_fill_53178_20 rfl h
  · have h := h.2 hc
    refine wp_aload_n (pc := 10) d_J7_fill_53178_10 rfl ?_
    refine wp_iload_n (pc := 11) d_J7_fill_53178_11 rfl ?_
    refine wp_iload_n (pc := 12) d_J7_fill_53178_12 rfl ?_
    obtain ⟨ho1, h⟩ := h
    obtain ⟨hi2, h⟩ := h
    refine wp_iast (pc := 13) d_J7_fill_53178_13 ho1 hi2 ?_
    refine wp_iinc (pc := 14) (v := 1) (lv' := [some (vr _), some (vi _), some (vi _), some (vi _)]) d_J7_fill_53178_14 (by decide) rfl rfl rfl ?_
    refine wp_goto (pc := 17) (tgt := 5) d_J7_fill_53178_17 (by decide) ?_
    refine wp_sub ?_ h
    exact ⟨rfl, ⟨rfl, ⟨rfl, ⟨rfl, trivial⟩⟩⟩⟩
theorem d_J7_copyOf_59c91_0 : decode prog_23_method_123_code 0 = .ok (.iload_n 1, 1) := by decide +kernel
theorem d_J7_copyOf_59c91_1 : decode prog_23_method_123_code 1 = .ok (.aload_n 0, 1) := by decide +kernel
theorem d_J7_copyOf_59c91_2 : decode prog_23_method_123_code 2 = .ok (.arraylength, 1) := by decide +kernel
theorem d_J7_copyOf_59c91_3 : decode prog_23_method_123_code 3 = .ok (.if_icmp .ne 11, 3) := by decide +kernel
theorem d_J7_copyOf_59c91_6 : decode prog_23_method_123_code 6 = .ok (.aload_n 0, 1) := by decide +kernel
theorem d_J7_copyOf_59c91_14 : decode prog_23_method_123_code 14 = .ok (.iload_n 1, 1) := by decide +kernel
theorem d_J7_copyOf_59c91_15 : decode prog_23_method_123_code 15 = .ok (.newarray .int, 2) := by decide +kernel
theorem d_J7_copyOf_59c91_17 : decode prog_23_method_123_code 17 = .ok (.astore_n 2, 1) := by decide +kernel
theorem d_J7_copyOf_59c91_18 : decode prog_23_method_123_code 18 = .ok (.aload_n 0, 1) := by decide +kernel
theorem d_J7_copyOf_59c91_19 : decode prog_23_method_123_code 19 = .ok (.iconst 0, 1) := by decide +kernel
theorem d_J7_copyOf_59c91_20 : decode prog_23_method_123_code 20 = .ok (.aload_n 2, 1) := by decide +kernel
theorem d_J7_copyOf_59c91_21 : decode prog_23_method_123_code 21 = .ok (.iconst 0, 1) := by decide +kernel
theorem d_J7_copyOf_59c91_22 : decode prog_23_method_123_code 22 = .ok (.aload_n 0, 1) := by decide +kernel
theorem d_J7_copyOf_59c91_23 : decode prog_23_method_123_code 23 = .ok (.arraylength, 1) := by decide +kernel
theorem d_J7_copyOf_59c91_24 : decode prog_23_method_123_code 24 = .ok (.iload_n 1, 1) := by decide +kernel
theorem d_J7_copyOf_59c91_25 : decode prog_23_method_123_code 25 = .ok (.invokestatic 304, 3) := by decide +kernel
theorem d_J7_copyOf_59c91_28 : decode prog_23_method_123_code 28 = .ok (.invokestatic 150, 3) := by decide +kernel
theorem d_J7_copyOf_59c91_31 : decode prog_23_method_123_code 31 = .ok (.aload_n 2, 1) := by decide +kernel
theorem d_J7_copyOf_59c91_32 : decode prog_23_method_123_code 32 = .ok (.areturn, 1) := by decide +kernel
theorem v_J7_copyOf_59c91_0 {E : EE} {d : Nat} {Q : Option AV → AH → Prop} {x0 : Nat} {x1 : Int32} {G : AH} (h0 : 0 < d) (h : isO E G x0 14 ∧ ((¬ x1 = (nI (gN G x0)) → eB E ≤ gT G ∧ (¬ x1 < 0 ∧ (Int32.toNatClampNeg x1 ≤ 60000000 ∧ (¬ (0 : Int32) < 0 ∧ (¬ (0 : Int32) < 0 ∧ (¬ (imin (nI (gN (nw G 14 (Int32.toNatClampNeg x1) (Int32.toNatClampNeg x1)) x0)) x1) < 0 ∧ ((Int32.toNatClampNeg 0) + (Int32.toNatClampNeg (imin (nI (gN (nw G 14 (Int32.toNatClampNeg x1) (Int32.toNatClampNeg x1)) x0)) x1)) ≤ gN (nw G 14 (Int32.toNatClampNeg x1) (Int32.toNatClampNeg x1)) x0 ∧ ((Int32.toNatClampNeg 0) + (Int32.toNatClampNeg (imin (nI (gN (nw G 14 (Int32.toNatClampNeg x1) (Int32.toNatClampNeg x1)) x0)) x1)) ≤ gN (nw G 14 (Int32.toNatClampNeg x1) (Int32.toNatClampNeg x1)) (gT G) ∧ (Q (some (vr (gT G))) (cpI (nw G 14 (Int32.toNatClampNeg x1) (Int32.toNatClampNeg x1)) x0 (gT G) (Int32.toNatClampNeg 0) (Int32.toNatClampNeg 0) (Int32.toNatClampNeg (imin (nI (gN (nw G 14 (Int32.toNatClampNeg x1) (Int32.toNatClampNeg x1)) x0)) x1)))))))))))) ∧ (x1 = (nI (gN G x0)) → False))) : wp E d M_J7_copyOf_59c91 0 [some (vr x0), some (vi x1), none] [] G Q := by
  refine wp_iload_n (pc := 0) d_J7_copyOf_59c91_0 rfl ?_
  refine wp_aload_n (pc := 1) d_J7_copyOf_59c91_1 rfl ?_
  obtain ⟨ho1, h⟩ := h
  refine wp_alen (pc := 2) d_J7_copyOf_59c91_2 ho1 (by decide) rfl ?_
  refine wp_icmp_ne (pc := 3) (tgt := 14) d_J7_copyOf_59c91_3 (by decide) (fun hc => ?_) (fun hc => ?_)
  · have h := h.1 hc
    refine wp_iload_n (pc := 14) d_J7_copyOf_59c91_14 rfl ?_
    obtain ⟨hb2, h⟩ := h
    obtain ⟨hn6, h⟩ := h
    obtain ⟨hm7, h⟩ := h
    refine wp_newa (pc := 15) (t0 := 1) (kd := 14) d_J7_copyOf_59c91_15 rfl (fun _ q => by cases q) ac_int (by decide) (fun _ => rfl) rfl (by decide) hn6 hm7 ?_
    have ho3 := isO_nw (kd := 14) (n := (Int32.toNatClampNeg x1)) (sz := (Int32.toNatClampNeg x1)) ho1
    have hb4 := base_nw (kd := 14) (n := (Int32.toNatClampNeg x1)) (sz := (Int32.toNatClampNeg x1)) hb2
    have ho5 := isO_new (kd := 14) (n := (Int32.toNatClampNeg x1)) (sz := (Int32.toNatClampNeg x1)) hb2
    refine wp_astore_n (pc := 17) (lv' := [some (vr _), some (vi _), some (vr _)]) d_J7_copyOf_59c91_17 (by decide) rfl ?_
    refine wp_aload_n (pc := 18) d_J7_copyOf_59c91_18 rfl ?_
    refine wp_iconst (pc := 19) (v := 0) d_J7_copyOf_59c91_19 rfl ?_
    refine wp_aload_n (pc := 20) d_J7_copyOf_59c91_20 rfl ?_
    refine wp_iconst (pc := 21) (v := 0) d_J7_copyOf_59c91_21 rfl ?_
    refine wp_aload_n (pc := 22) d_J7_copyOf_59c91_22 rfl ?_
    refine wp_alen (pc := 23) d_J7_copyOf_59c91_23 ho3 (by decide) rfl ?_
    refine wp_iload_n (pc := 24) d_J7_copyOf_59c91_24 rfl ?_
    refine wp_imin (pc := 25) d_J7_copyOf_59c91_25 ml_J7_304 ms_imin ii_math mc_imin h0 (Nat.le_of_ble_eq_true rfl) ?_
    obtain ⟨hc8, h⟩ := h
    obtain ⟨hc9, h⟩ := h
    obtain ⟨hc10, h⟩ := h
    obtain ⟨hc11, h⟩ := h
    obtain ⟨hc12, h⟩ := h
    refine wp_cpy (pc := 28) (c := 14) d_J7_copyOf_59c91_28 ml_J7_150 nat_cpy st_cpy ii_sys h0 (by decide) rfl rfl ho3 ho5 hc8 hc9 hc10 hc11 hc12 (fun i _ => ⟨rfl, fun _ q => by cases q⟩) (Nat.le_of_ble_eq_true rfl) (pd_cpI _ _ _ _ _ _) (cpy_vI (E := E) (by decide)) ?_
    refine wp_aload_n (pc := 31) d_J7_copyOf_59c91_31 rfl ?_
    exact wp_aret (pc := 32) d_J7_copyOf_59c91_32 rfl (Or.inr ⟨_, rfl⟩) h
  · have h := h.2 hc
    refine wp_aload_n (pc := 6) d_J7_copyOf_59c91_6 rfl ?_
    exact h.elim
theorem d_J7_copyOf_c38d5_0 : decode prog_23_method_124_code 0 = .ok (.iload_n 1, 1) := by decide +kernel
theorem d_J7_copyOf_c38d5_1 : decode prog_23_method_124_code 1 = .ok (.aload_n 0, 1) := by decide +kernel
theorem d_J7_copyOf_c38d5_2 : decode prog_23_method_124_code 2 = .ok (.arraylength, 1) := by decide +kernel
theorem d_J7_copyOf_c38d5_3 : decode prog_23_method_124_code 3 = .ok (.if_icmp .ne 11, 3) := by decide +kernel
theorem d_J7_copyOf_c38d5_6 : decode prog_23_method_124_code 6 = .ok (.aload_n 0, 1) := by decide +kernel
theorem d_J7_copyOf_c38d5_14 : decode prog_23_method_124_code 14 = .ok (.iload_n 1, 1) := by decide +kernel
theorem d_J7_copyOf_c38d5_15 : decode prog_23_method_124_code 15 = .ok (.newarray .long, 2) := by decide +kernel
theorem d_J7_copyOf_c38d5_17 : decode prog_23_method_124_code 17 = .ok (.astore_n 2, 1) := by decide +kernel
theorem d_J7_copyOf_c38d5_18 : decode prog_23_method_124_code 18 = .ok (.aload_n 0, 1) := by decide +kernel
theorem d_J7_copyOf_c38d5_19 : decode prog_23_method_124_code 19 = .ok (.iconst 0, 1) := by decide +kernel
theorem d_J7_copyOf_c38d5_20 : decode prog_23_method_124_code 20 = .ok (.aload_n 2, 1) := by decide +kernel
theorem d_J7_copyOf_c38d5_21 : decode prog_23_method_124_code 21 = .ok (.iconst 0, 1) := by decide +kernel
theorem d_J7_copyOf_c38d5_22 : decode prog_23_method_124_code 22 = .ok (.aload_n 0, 1) := by decide +kernel
theorem d_J7_copyOf_c38d5_23 : decode prog_23_method_124_code 23 = .ok (.arraylength, 1) := by decide +kernel
theorem d_J7_copyOf_c38d5_24 : decode prog_23_method_124_code 24 = .ok (.iload_n 1, 1) := by decide +kernel
theorem d_J7_copyOf_c38d5_25 : decode prog_23_method_124_code 25 = .ok (.invokestatic 304, 3) := by decide +kernel
theorem d_J7_copyOf_c38d5_28 : decode prog_23_method_124_code 28 = .ok (.invokestatic 150, 3) := by decide +kernel
theorem d_J7_copyOf_c38d5_31 : decode prog_23_method_124_code 31 = .ok (.aload_n 2, 1) := by decide +kernel
theorem d_J7_copyOf_c38d5_32 : decode prog_23_method_124_code 32 = .ok (.areturn, 1) := by decide +kernel
theorem v_J7_copyOf_c38d5_0 {E : EE} {d : Nat} {Q : Option AV → AH → Prop} {x0 : Nat} {x1 : Int32} {G : AH} (h0 : 0 < d) (h : isO E G x0 15 ∧ ((¬ x1 = (nI (gN G x0)) → eB E ≤ gT G ∧ (¬ x1 < 0 ∧ (Int32.toNatClampNeg x1 ≤ 60000000 ∧ (¬ (0 : Int32) < 0 ∧ (¬ (0 : Int32) < 0 ∧ (¬ (imin (nI (gN (nw G 15 (Int32.toNatClampNeg x1) (Int32.toNatClampNeg x1)) x0)) x1) < 0 ∧ ((Int32.toNatClampNeg 0) + (Int32.toNatClampNeg (imin (nI (gN (nw G 15 (Int32.toNatClampNeg x1) (Int32.toNatClampNeg x1)) x0)) x1)) ≤ gN (nw G 15 (Int32.toNatClampNeg x1) (Int32.toNatClampNeg x1)) x0 ∧ ((Int32.toNatClampNeg 0) + (Int32.toNatClampNeg (imin (nI (gN (nw G 15 (Int32.toNatClampNeg x1) (Int32.toNatClampNeg x1)) x0)) x1)) ≤ gN (nw G 15 (Int32.toNatClampNeg x1) (Int32.toNatClampNeg x1)) (gT G) ∧ (Q (some (vr (gT G))) (cpJ (nw G 15 (Int32.toNatClampNeg x1) (Int32.toNatClampNeg x1)) x0 (gT G) (Int32.toNatClampNeg 0) (Int32.toNatClampNeg 0) (Int32.toNatClampNeg (imin (nI (gN (nw G 15 (Int32.toNatClampNeg x1) (Int32.toNatClampNeg x1)) x0)) x1)))))))))))) ∧ (x1 = (nI (gN G x0)) → False))) : wp E d M_J7_copyOf_c38d5 0 [some (vr x0), some (vi x1), none] [] G Q := by
  refine wp_iload_n (pc := 0) d_J7_copyOf_c38d5_0 rfl ?_
  refine wp_aload_n (pc := 1) d_J7_copyOf_c38d5_1 rfl ?_
  obtain ⟨ho1, h⟩ := h
  refine wp_alen (pc := 2) d_J7_copyOf_c38d5_2 ho1 (by decide) rfl ?_
  refine wp_icmp_ne (pc := 3) (tgt := 14) d_J7_copyOf_c38d5_3 (by decide) (fun hc => ?_) (fun hc => ?_)
  · have h := h.1 hc
    refine wp_iload_n (pc := 14) d_J7_copyOf_c38d5_14 rfl ?_
    obtain ⟨hb2, h⟩ := h
    obtain ⟨hn6, h⟩ := h
    obtain ⟨hm7, h⟩ := h
    refine wp_newa (pc := 15) (t0 := 2) (kd := 15) d_J7_copyOf_c38d5_15 rfl (fun _ q => by cases q) ac_long (by decide) (fun _ => rfl) rfl (by decide) hn6 hm7 ?_
    have ho3 := isO_nw (kd := 15) (n := (Int32.toNatClampNeg x1)) (sz := (Int32.toNatClampNeg x1)) ho1
    have hb4 := base_nw (kd := 15) (n := (Int32.toNatClampNeg x1)) (sz := (Int32.toNatClampNeg x1)) hb2
    have ho5 := isO_new (kd := 15) (n := (Int32.toNatClampNeg x1)) (sz := (Int32.toNatClampNeg x1)) hb2
    refine wp_astore_n (pc := 17) (lv' := [some (vr _), some (vi _), some (vr _)]) d_J7_copyOf_c38d5_17 (by decide) rfl ?_
    refine wp_aload_n (pc := 18) d_J7_copyOf_c38d5_18 rfl ?_
    refine wp_iconst (pc := 19) (v := 0) d_J7_copyOf_c38d5_19 rfl ?_
    refine wp_aload_n (pc := 20) d_J7_copyOf_c38d5_20 rfl ?_
    refine wp_iconst (pc := 21) (v := 0) d_J7_copyOf_c38d5_21 rfl ?_
    refine wp_aload_n (pc := 22) d_J7_copyOf_c38d5_22 rfl ?_
    refine wp_alen (pc := 23) d_J7_copyOf_c38d5_23 ho3 (by decide) rfl ?_
    refine wp_iload_n (pc := 24) d_J7_copyOf_c38d5_24 rfl ?_
    refine wp_imin (pc := 25) d_J7_copyOf_c38d5_25 ml_J7_304 ms_imin ii_math mc_imin h0 (Nat.le_of_ble_eq_true rfl) ?_
    obtain ⟨hc8, h⟩ := h
    obtain ⟨hc9, h⟩ := h
    obtain ⟨hc10, h⟩ := h
    obtain ⟨hc11, h⟩ := h
    obtain ⟨hc12, h⟩ := h
    refine wp_cpy (pc := 28) (c := 15) d_J7_copyOf_c38d5_28 ml_J7_150 nat_cpy st_cpy ii_sys h0 (by decide) rfl rfl ho3 ho5 hc8 hc9 hc10 hc11 hc12 (fun i _ => ⟨rfl, fun _ q => by cases q⟩) (Nat.le_of_ble_eq_true rfl) (pd_cpJ _ _ _ _ _ _) (cpy_vJ (E := E)) ?_
    refine wp_aload_n (pc := 31) d_J7_copyOf_c38d5_31 rfl ?_
    exact wp_aret (pc := 32) d_J7_copyOf_c38d5_32 rfl (Or.inr ⟨_, rfl⟩) h
  · have h := h.2 hc
    refine wp_aload_n (pc := 6) d_J7_copyOf_c38d5_6 rfl ?_
    exact h.elim
