/-! regions over the view (by program): X12_ruleStatement X12_varStatement X12_aSet X12_aRange X12_factStatement X12_needOf X12_vars X12_placeOf X12_take X12_crash X12_byteAt X12_size X12_rows X12_load X12_freeSlot X12_save X12_isProblem X12_storeBytes X12_below X12_above X12_prove X12_know X12_weighAll X12_takeFacts X12_weighPlan X12_place X12_rulesOf X12_testValue X12_orValue X12_andValue X12_unitValue X12_allValue X12_rowOfNames X12_nameValue X12_different X12_rowValue X12_intValue X12_lexValue X12_ringValue X12_autoValue X12_busyValue X12_apartValue X12_sumValue X12_termValue X12_factorValue X12_held X12_aimsOf X12_handOf X12_isGood X12_isFeasible X12_isAllowed X12_isBetter X12_print X12_prints X12_check X12_giveAll X12_tree -/
theorem w_X12_ruleStatement_60 {E : EE} {d : Nat} {V : VH} {K : VH → Prop}   (h0 : 0 < d) (h : vMI E (d - 1) M_X12_aNumber [sl 6 0, wi 0, wi 2] V (fun r1 V1 => vMV E (d - 1) M_X12_need [sl 6 0, wi 42] V1 (fun V3 => vMI E (d - 1) M_X12_aNumber [sl 6 0, wi 1, wi 1000] V3 (fun r5 V5 => vMV E (d - 1) M_X12_need [sl 6 0, wi 58] V5 (fun V7 => vp_in (vI V7 6 0 47) 5 ∧ (vMV E (d - 1) M_X12_test [sl 6 0] V7 (fun V10 => vMV E (d - 1) M_X12_need [sl 6 0, wi 59] V10 (fun V12 => (¬ (vI V12 6 0 45) = 0 → K V12) ∧ ((vI V12 6 0 45) = 0 → vMI E (d - 1) M_X12_tell [sl 6 0, wi 2] V12 (fun r14 V14 => vp_in ((24 * (vI V12 6 0 47)) + r14) 120 ∧ (∀ V17 : VH, V17 = wrI V14 6 24 (Int32.toNatClampNeg ((24 * (vI V12 6 0 47)) + r14)) r1 → vp_in ((24 * (vI V12 6 0 47)) + r14) 120 ∧ (∀ V19 : VH, V19 = wrI V17 6 25 (Int32.toNatClampNeg ((24 * (vI V12 6 0 47)) + r14)) r5 → vp_in ((24 * (vI V12 6 0 47)) + r14) 120 ∧ (∀ V21 : VH, V21 = wrI V19 6 26 (Int32.toNatClampNeg ((24 * (vI V12 6 0 47)) + r14)) ((20000 * (vI V19 6 0 47)) + (vI V7 6 9 (Int32.toNatClampNeg (vI V7 6 0 47)))) → vp_in (vI V21 6 0 47) 5 ∧ ((¬ r1 = 0 → vwp E d M_X12_ruleStatement 182 [some (sl 6 0), some (wi r1), some (wi r5), some (wi (vI V7 6 9 (Int32.toNatClampNeg (vI V7 6 0 47)))), some (wi ((24 * (vI V12 6 0 47)) + r14))] [wi 0, wi (vI V21 6 23 (Int32.toNatClampNeg (vI V21 6 0 47))), wi (vI V21 6 0 47), sl 6 23] V21 (zv K)) ∧ (r1 = 0 → vwp E d M_X12_ruleStatement 182 [some (sl 6 0), some (wi r1), some (wi r5), some (wi (vI V7 6 9 (Int32.toNatClampNeg (vI V7 6 0 47)))), some (wi ((24 * (vI V12 6 0 47)) + r14))] [wi 1, wi (vI V21 6 23 (Int32.toNatClampNeg (vI V21 6 0 47))), wi (vI V21 6 0 47), sl 6 23] V21 (zv K)))))))))))))))) : vwp E d M_X12_ruleStatement 60 [some (sl 6 0), none, none, none, none] [] V (zv K) := by
  intro G A hR
  obtain ⟨L, P, rfl, hS⟩ := hR
  have hx := Xt.refl (V := pl G A L P) (A := A)
  show wp E d M_X12_ruleStatement 60 [some (vr (A 6 0)), none, none, none, none] [] G _
  refine v_X12_ruleStatement_60 h0 ?_
  refine ⟨hS.o (s6_0 hS), ?_⟩
  refine wpM.mono (h G A ⟨L, P, rfl, hS⟩) (fun rr1 G1 hr => ?_)
  obtain ⟨A1, W1, w1, ⟨L1, P1, rfl, hS1⟩, hy1, rfl, r1, rfl, h⟩ := hr
  refine ⟨r1, rfl, ?_⟩
  have hx1 := Xt.trans hx hy1
  have ee2 : A1 6 0 = A 6 0 := hy1.2 _ _ hS.1.2.1 (((n6_0 hS1)).trans ((n6_0 hS)).symm)
  try rw [← ee2]
  refine ⟨hS1.o (s6_0 hS1), ?_⟩
  refine wpM.mono (h G1 A1 ⟨L1, P1, rfl, hS1⟩) (fun rr3 G3 hr => ?_)
  obtain ⟨A3, W3, w3, ⟨L3, P3, rfl, hS3⟩, hy3, rfl, rfl, h⟩ := hr
  refine ⟨rfl, ?_⟩
  have hx3 := Xt.trans hx1 hy3
  have ee4 : A3 6 0 = A1 6 0 := hy3.2 _ _ hS1.1.2.1 (((n6_0 hS3)).trans ((n6_0 hS1)).symm)
  try rw [← ee4]
  refine ⟨hS3.o (s6_0 hS3), ?_⟩
  refine wpM.mono (h G3 A3 ⟨L3, P3, rfl, hS3⟩) (fun rr5 G5 hr => ?_)
  obtain ⟨A5, W5, w5, ⟨L5, P5, rfl, hS5⟩, hy5, rfl, r5, rfl, h⟩ := hr
  refine ⟨r5, rfl, ?_⟩
  have hx5 := Xt.trans hx3 hy5
  have ee6 : A5 6 0 = A3 6 0 := hy5.2 _ _ hS3.1.2.1 (((n6_0 hS5)).trans ((n6_0 hS3)).symm)
  try rw [← ee6]
  refine ⟨hS5.o (s6_0 hS5), ?_⟩
  refine wpM.mono (h G5 A5 ⟨L5, P5, rfl, hS5⟩) (fun rr7 G7 hr => ?_)
  obtain ⟨A7, W7, w7, ⟨L7, P7, rfl, hS7⟩, hy7, rfl, rfl, h⟩ := hr
  refine ⟨rfl, ?_⟩
  have hx7 := Xt.trans hx5 hy7
  have ee8 : A7 6 0 = A5 6 0 := hy7.2 _ _ hS5.1.2.1 (((n6_0 hS7)).trans ((n6_0 hS5)).symm)
  try rw [← ee8]
  refine ⟨hS7.o (s6_0 hS7), ?_⟩
  rw [l6_0_12 hS7]
  refine ⟨hS7.o (s6_9 hS7), ?_⟩
  obtain ⟨hi9, h⟩ := h
  refine ⟨by first | (rw [(n6_9 hS7)]; exact hi9) | exact (congrArg (vp_in _) (n6_9 hS7)).mpr hi9 | exact hi9, ?_⟩
  refine wpM.mono (h G7 A7 ⟨L7, P7, rfl, hS7⟩) (fun rr10 G10 hr => ?_)
  obtain ⟨A10, W10, w10, ⟨L10, P10, rfl, hS10⟩, hy10, rfl, rfl, h⟩ := hr
  refine ⟨rfl, ?_⟩
  have hx10 := Xt.trans hx7 hy10
  have ee11 : A10 6 0 = A7 6 0 := hy10.2 _ _ hS7.1.2.1 (((n6_0 hS10)).trans ((n6_0 hS7)).symm)
  try rw [← ee11]
  try rw [show gI G7 (A10 6 0) = gI G7 (A7 6 0) from by rw [ee11]]
  refine ⟨hS10.o (s6_0 hS10), ?_⟩
  refine wpM.mono (h G10 A10 ⟨L10, P10, rfl, hS10⟩) (fun rr12 G12 hr => ?_)
  obtain ⟨A12, W12, w12, ⟨L12, P12, rfl, hS12⟩, hy12, rfl, rfl, h⟩ := hr
  refine ⟨rfl, ?_⟩
  have hx12 := Xt.trans hx10 hy12
  have ee13 : A12 6 0 = A10 6 0 := hy12.2 _ _ hS10.1.2.1 (((n6_0 hS12)).trans ((n6_0 hS10)).symm)
  try rw [← ee13]
  refine ⟨hS12.o (s6_0 hS12), ?_⟩
  refine ⟨fun hc => ?_, fun hc => ?_⟩
  · have h := h.1 hc
    exact qx_v hS12 hx12 h
  · have h := h.2 hc
    refine wpM.mono (h G12 A12 ⟨L12, P12, rfl, hS12⟩) (fun rr14 G14 hr => ?_)
    obtain ⟨A14, W14, w14, ⟨L14, P14, rfl, hS14⟩, hy14, rfl, r14, rfl, h⟩ := hr
    refine ⟨r14, rfl, ?_⟩
    have hx14 := Xt.trans hx12 hy14
    have ee15 : A14 6 0 = A12 6 0 := hy14.2 _ _ hS12.1.2.1 (((n6_0 hS14)).trans ((n6_0 hS12)).symm)
    try rw [← ee15]
    try rw [show gI G12 (A14 6 0) = gI G12 (A12 6 0) from by rw [ee15]]
    refine ⟨hS14.o (s6_0 hS14), ?_⟩
    rw [l6_0_27 hS14]
    refine ⟨hS14.o (s6_24 hS14), ?_⟩
    obtain ⟨hi16, h⟩ := h
    refine ⟨by first | (rw [(n6_24 hS14)]; exact hi16) | exact (congrArg (vp_in _) (n6_24 hS14)).mpr hi16 | exact hi16, ?_⟩
    intro G17 eG17
    have hS17 : Sh E G17 A14 L14 P14 := Sh_sI eG17 hS14 (s6_24 hS14) (okT_0 rfl)
    have h := h (pl G17 A14 L14 P14) (pl_sI eG17 hS14 (s6_24 hS14))
    have hx17 : Xt (pl G A L P) A (pl G17 A14 L14 P14) A14 := Xt_sI eG17 hx14
    rw [l6_0_28 hS17]
    refine ⟨hS17.o (s6_25 hS17), ?_⟩
    obtain ⟨hi18, h⟩ := h
    refine ⟨by first | (rw [(n6_25 hS17)]; exact hi18) | exact (congrArg (vp_in _) (n6_25 hS17)).mpr hi18 | exact hi18, ?_⟩
    intro G19 eG19
    have hS19 : Sh E G19 A14 L14 P14 := Sh_sI eG19 hS17 (s6_25 hS17) (okT_0 rfl)
    have h := h (pl G19 A14 L14 P14) (pl_sI eG19 hS17 (s6_25 hS17))
    have hx19 : Xt (pl G A L P) A (pl G19 A14 L14 P14) A14 := Xt_sI eG19 hx17
    rw [l6_0_29 hS19]
    refine ⟨hS19.o (s6_26 hS19), ?_⟩
    obtain ⟨hi20, h⟩ := h
    refine ⟨by first | (rw [(n6_26 hS19)]; exact hi20) | exact (congrArg (vp_in _) (n6_26 hS19)).mpr hi20 | exact hi20, ?_⟩
    intro G21 eG21
    have hS21 : Sh E G21 A14 L14 P14 := Sh_sI eG21 hS19 (s6_26 hS19) (okT_0 rfl)
    have h := h (pl G21 A14 L14 P14) (pl_sI eG21 hS19 (s6_26 hS19))
    have hx21 : Xt (pl G A L P) A (pl G21 A14 L14 P14) A14 := Xt_sI eG21 hx19
    rw [l6_0_26 hS21]
    refine ⟨hS21.o (s6_23 hS21), ?_⟩
    obtain ⟨hi22, h⟩ := h
    refine ⟨by first | (rw [(n6_23 hS21)]; exact hi22) | exact (congrArg (vp_in _) (n6_23 hS21)).mpr hi22 | exact hi22, ?_⟩
    refine ⟨fun hc => ?_, fun hc => ?_⟩
    · have h := h.1 hc
      exact wp.mono (h G21 A14 ⟨L14, P14, rfl, hS21⟩) (fun r G' q => qx_trans hx21 q)
    · have h := h.2 hc
      exact wp.mono (h G21 A14 ⟨L14, P14, rfl, hS21⟩) (fun r G' q => qx_trans hx21 q)
theorem w_X12_ruleStatement_182 {E : EE} {d : Nat} {V : VH} {K : VH → Prop} {x1 : Int32} {x2 : Int32} {x3 : Int32} {x4 : Int32} {a90 f90 : Nat} {t1 : Int32} {t2 : Int32} {t3 : Int32} (hA90 : SL (vL V) a90 f90 14) (h : vp_in t1 (vN V a90 f90) ∧ (∀ V2 : VH, V2 = wrI V a90 f90 (Int32.toNatClampNeg t1) (t2 + t3) → K V2)) : vwp E d M_X12_ruleStatement 182 [some (sl 6 0), some (wi x1), some (wi x2), some (wi x3), some (wi x4)] [wi t3, wi t2, wi t1, sl a90 f90] V (zv K) := by
  intro G A hR
  obtain ⟨L, P, rfl, hS⟩ := hR
  have hx := Xt.refl (V := pl G A L P) (A := A)
  show wp E d M_X12_ruleStatement 182 [some (vr (A 6 0)), some (vi x1), some (vi x2), some (vi x3), some (vi x4)] [vi t3, vi t2, vi t1, vr (A a90 f90)] G _
  refine v_X12_ruleStatement_182 ?_
  refine ⟨hS.o hA90, ?_⟩
  obtain ⟨hi1, h⟩ := h
  refine ⟨hi1, ?_⟩
  have hS2 : Sh E (sI G (A a90 f90) (Int32.toNatClampNeg t1) (t2 + t3)) A L P := Sh_sI (rfl : sI G (A a90 f90) (Int32.toNatClampNeg t1) (t2 + t3) = sI G (A a90 f90) (Int32.toNatClampNeg t1) (t2 + t3)) hS hA90 (okT_0 rfl)
  have h := h (pl (sI G (A a90 f90) (Int32.toNatClampNeg t1) (t2 + t3)) A L P) (pl_sI (rfl : sI G (A a90 f90) (Int32.toNatClampNeg t1) (t2 + t3) = sI G (A a90 f90) (Int32.toNatClampNeg t1) (t2 + t3)) hS hA90)
  have hx2 : Xt (pl G A L P) A (pl (sI G (A a90 f90) (Int32.toNatClampNeg t1) (t2 + t3)) A L P) A := Xt_sI (rfl : sI G (A a90 f90) (Int32.toNatClampNeg t1) (t2 + t3) = sI G (A a90 f90) (Int32.toNatClampNeg t1) (t2 + t3)) hx
  exact qx_v hS2 hx2 h
theorem w_X12_varStatement_0 {E : EE} {d : Nat} {V : VH} {K : VH → Prop}   (h0 : 0 < d) (h : vMV E (d - 1) M_X12_newName [sl 6 0, wi 1, wi 12] V (fun V1 => vMV E (d - 1) M_X12_need [sl 6 0, wi 302] V1 (fun V3 => (¬ (vI V3 6 0 45) = 0 → vwp E d M_X12_varStatement 42 [some (sl 6 0), some (wi (vI V1 6 0 50)), none, none, none] [] V3 (zv K)) ∧ ((vI V3 6 0 45) = 0 → (¬ (vI V3 6 0 41) = 123 → vwp E d M_X12_varStatement 42 [some (sl 6 0), some (wi (vI V1 6 0 50)), none, none, none] [] V3 (zv K)) ∧ ((vI V3 6 0 41) = 123 → vMI E (d - 1) M_X12_aSet [sl 6 0] V3 (fun r5 V5 => vwp E d M_X12_varStatement 46 [some (sl 6 0), some (wi (vI V1 6 0 50)), none, none, none] [wi r5] V5 (zv K))))))) : vMV E d M_X12_varStatement [sl 6 0] V K := by
  intro G A hR
  obtain ⟨L, P, rfl, hS⟩ := hR
  have hx := Xt.refl (V := pl G A L P) (A := A)
  show wpM E d M_X12_varStatement [vr (A 6 0)] G _
  refine wpM_of mk_X12_varStatement (Nat.le_of_ble_eq_true rfl) ?_
  refine v_X12_varStatement_0 h0 ?_
  refine ⟨hS.o (s6_0 hS), ?_⟩
  refine wpM.mono (h G A ⟨L, P, rfl, hS⟩) (fun rr1 G1 hr => ?_)
  obtain ⟨A1, W1, w1, ⟨L1, P1, rfl, hS1⟩, hy1, rfl, rfl, h⟩ := hr
  refine ⟨rfl, ?_⟩
  have hx1 := Xt.trans hx hy1
  have ee2 : A1 6 0 = A 6 0 := hy1.2 _ _ hS.1.2.1 (((n6_0 hS1)).trans ((n6_0 hS)).symm)
  try rw [← ee2]
  refine ⟨hS1.o (s6_0 hS1), ?_⟩
  refine wpM.mono (h G1 A1 ⟨L1, P1, rfl, hS1⟩) (fun rr3 G3 hr => ?_)
  obtain ⟨A3, W3, w3, ⟨L3, P3, rfl, hS3⟩, hy3, rfl, rfl, h⟩ := hr
  refine ⟨rfl, ?_⟩
  have hx3 := Xt.trans hx1 hy3
  have ee4 : A3 6 0 = A1 6 0 := hy3.2 _ _ hS1.1.2.1 (((n6_0 hS3)).trans ((n6_0 hS1)).symm)
  try rw [← ee4]
  try rw [show gI G1 (A3 6 0) = gI G1 (A1 6 0) from by rw [ee4]]
  refine ⟨hS3.o (s6_0 hS3), ?_⟩
  refine ⟨fun hc => ?_, fun hc => ?_⟩
  · have h := h.1 hc
    exact wp.mono (h G3 A3 ⟨L3, P3, rfl, hS3⟩) (fun r G' q => qx_trans hx3 q)
  · have h := h.2 hc
    refine ⟨fun hc => ?_, fun hc => ?_⟩
    · have h := h.1 hc
      exact wp.mono (h G3 A3 ⟨L3, P3, rfl, hS3⟩) (fun r G' q => qx_trans hx3 q)
    · have h := h.2 hc
      refine wpM.mono (h G3 A3 ⟨L3, P3, rfl, hS3⟩) (fun rr5 G5 hr => ?_)
      obtain ⟨A5, W5, w5, ⟨L5, P5, rfl, hS5⟩, hy5, rfl, r5, rfl, h⟩ := hr
      refine ⟨r5, rfl, ?_⟩
      have hx5 := Xt.trans hx3 hy5
      have ee6 : A5 6 0 = A3 6 0 := hy5.2 _ _ hS3.1.2.1 (((n6_0 hS5)).trans ((n6_0 hS3)).symm)
      try rw [← ee6]
      exact wp.mono (h G5 A5 ⟨L5, P5, rfl, hS5⟩) (fun r G' q => qx_trans hx5 q)
theorem w_X12_varStatement_42 {E : EE} {d : Nat} {V : VH} {K : VH → Prop} {x1 : Int32}  (h0 : 0 < d) (h : vMI E (d - 1) M_X12_aRange [sl 6 0] V (fun r1 V1 => vwp E d M_X12_varStatement 46 [some (sl 6 0), some (wi x1), none, none, none] [wi r1] V1 (zv K))) : vwp E d M_X12_varStatement 42 [some (sl 6 0), some (wi x1), none, none, none] [] V (zv K) := by
  intro G A hR
  obtain ⟨L, P, rfl, hS⟩ := hR
  have hx := Xt.refl (V := pl G A L P) (A := A)
  show wp E d M_X12_varStatement 42 [some (vr (A 6 0)), some (vi x1), none, none, none] [] G _
  refine v_X12_varStatement_42 h0 ?_
  refine ⟨hS.o (s6_0 hS), ?_⟩
  refine wpM.mono (h G A ⟨L, P, rfl, hS⟩) (fun rr1 G1 hr => ?_)
  obtain ⟨A1, W1, w1, ⟨L1, P1, rfl, hS1⟩, hy1, rfl, r1, rfl, h⟩ := hr
  refine ⟨r1, rfl, ?_⟩
  have hx1 := Xt.trans hx hy1
  have ee2 : A1 6 0 = A 6 0 := hy1.2 _ _ hS.1.2.1 (((n6_0 hS1)).trans ((n6_0 hS)).symm)
  try rw [← ee2]
  exact wp.mono (h G1 A1 ⟨L1, P1, rfl, hS1⟩) (fun r G' q => qx_trans hx1 q)
theorem w_X12_varStatement_46 {E : EE} {d : Nat} {V : VH} {K : VH → Prop} {x1 : Int32} {t0 : Int32}  (h : (¬ (vI V 6 0 45) = 0 → vwp E d M_X12_varStatement 96 [some (sl 6 0), some (wi x1), some (wi t0), none, none] [] V (zv K)) ∧ ((vI V 6 0 45) = 0 → (¬ (vI V 6 0 41) = 59 → vwp E d M_X12_varStatement 96 [some (sl 6 0), some (wi x1), some (wi t0), none, none] [] V (zv K)) ∧ ((vI V 6 0 41) = 59 → (20 < t0 → vwp E d M_X12_varStatement 89 [some (sl 6 0), some (wi x1), some (wi t0), none, none] [] V (zv K)) ∧ (¬ (20 < t0) → vp_in (vI V 6 0 47) 5 ∧ ((((Int32.toInt64 (vI V 6 22 (Int32.toNatClampNeg (vI V 6 0 47)))) * (Int32.toInt64 t0)) ≤ 20000 → vwp E d M_X12_varStatement 96 [some (sl 6 0), some (wi x1), some (wi t0), none, none] [] V (zv K)) ∧ (¬ (((Int32.toInt64 (vI V 6 22 (Int32.toNatClampNeg (vI V 6 0 47)))) * (Int32.toInt64 t0)) ≤ 20000) → vwp E d M_X12_varStatement 89 [some (sl 6 0), some (wi x1), some (wi t0), none, none] [] V (zv K))))))) : vwp E d M_X12_varStatement 46 [some (sl 6 0), some (wi x1), none, none, none] [wi t0] V (zv K) := by
  intro G A hR
  obtain ⟨L, P, rfl, hS⟩ := hR
  have hx := Xt.refl (V := pl G A L P) (A := A)
  show wp E d M_X12_varStatement 46 [some (vr (A 6 0)), some (vi x1), none, none, none] [vi t0] G _
  refine v_X12_varStatement_46 ?_
  refine ⟨hS.o (s6_0 hS), ?_⟩
  refine ⟨fun hc => ?_, fun hc => ?_⟩
  · have h := h.1 hc
    exact wp.mono (h G A ⟨L, P, rfl, hS⟩) (fun r G' q => qx_trans hx q)
  · have h := h.2 hc
    refine ⟨fun hc => ?_, fun hc => ?_⟩
    · have h := h.1 hc
      exact wp.mono (h G A ⟨L, P, rfl, hS⟩) (fun r G' q => qx_trans hx q)
    · have h := h.2 hc
      refine ⟨fun hc => ?_, fun hc => ?_⟩
      · have h := h.1 hc
        exact wp.mono (h G A ⟨L, P, rfl, hS⟩) (fun r G' q => qx_trans hx q)
      · have h := h.2 hc
        rw [l6_0_25 hS]
        refine ⟨hS.o (s6_22 hS), ?_⟩
        obtain ⟨hi1, h⟩ := h
        refine ⟨by first | (rw [(n6_22 hS)]; exact hi1) | exact (congrArg (vp_in _) (n6_22 hS)).mpr hi1 | exact hi1, ?_⟩
        refine ⟨fun hc => ?_, fun hc => ?_⟩
        · have h := h.1 hc
          exact wp.mono (h G A ⟨L, P, rfl, hS⟩) (fun r G' q => qx_trans hx q)
        · have h := h.2 hc
          exact wp.mono (h G A ⟨L, P, rfl, hS⟩) (fun r G' q => qx_trans hx q)
theorem w_X12_varStatement_89 {E : EE} {d : Nat} {V : VH} {K : VH → Prop} {x1 : Int32} {x2 : Int32}  (h0 : 0 < d) (h : vMV E (d - 1) M_X12_fail [sl 6 0, wi 6, wi x1] V (fun V1 => vwp E d M_X12_varStatement 96 [some (sl 6 0), some (wi x1), some (wi x2), none, none] [] V1 (zv K))) : vwp E d M_X12_varStatement 89 [some (sl 6 0), some (wi x1), some (wi x2), none, none] [] V (zv K) := by
  intro G A hR
  obtain ⟨L, P, rfl, hS⟩ := hR
  have hx := Xt.refl (V := pl G A L P) (A := A)
  show wp E d M_X12_varStatement 89 [some (vr (A 6 0)), some (vi x1), some (vi x2), none, none] [] G _
  refine v_X12_varStatement_89 h0 ?_
  refine ⟨hS.o (s6_0 hS), ?_⟩
  refine wpM.mono (h G A ⟨L, P, rfl, hS⟩) (fun rr1 G1 hr => ?_)
  obtain ⟨A1, W1, w1, ⟨L1, P1, rfl, hS1⟩, hy1, rfl, rfl, h⟩ := hr
  refine ⟨rfl, ?_⟩
  have hx1 := Xt.trans hx hy1
  have ee2 : A1 6 0 = A 6 0 := hy1.2 _ _ hS.1.2.1 (((n6_0 hS1)).trans ((n6_0 hS)).symm)
  try rw [← ee2]
  exact wp.mono (h G1 A1 ⟨L1, P1, rfl, hS1⟩) (fun r G' q => qx_trans hx1 q)
theorem w_X12_varStatement_96 {E : EE} {d : Nat} {V : VH} {K : VH → Prop} {x1 : Int32} {x2 : Int32}  (h0 : 0 < d) (h : vMV E (d - 1) M_X12_need [sl 6 0, wi 59] V (fun V1 => (¬ (vI V1 6 0 45) = 0 → K V1) ∧ ((vI V1 6 0 45) = 0 → vMI E (d - 1) M_X12_tell [sl 6 0, wi 1] V1 (fun r3 V3 => vwp E d M_X12_varStatement 126 [some (sl 6 0), some (wi x1), some (wi x2), some (wi ((12 * (vI V1 6 0 47)) + r3)), some (wi 0)] [] V3 (zv K))))) : vwp E d M_X12_varStatement 96 [some (sl 6 0), some (wi x1), some (wi x2), none, none] [] V (zv K) := by
  intro G A hR
  obtain ⟨L, P, rfl, hS⟩ := hR
  have hx := Xt.refl (V := pl G A L P) (A := A)
  show wp E d M_X12_varStatement 96 [some (vr (A 6 0)), some (vi x1), some (vi x2), none, none] [] G _
  refine v_X12_varStatement_96 h0 ?_
  refine ⟨hS.o (s6_0 hS), ?_⟩
  refine wpM.mono (h G A ⟨L, P, rfl, hS⟩) (fun rr1 G1 hr => ?_)
  obtain ⟨A1, W1, w1, ⟨L1, P1, rfl, hS1⟩, hy1, rfl, rfl, h⟩ := hr
  refine ⟨rfl, ?_⟩
  have hx1 := Xt.trans hx hy1
  have ee2 : A1 6 0 = A 6 0 := hy1.2 _ _ hS.1.2.1 (((n6_0 hS1)).trans ((n6_0 hS)).symm)
  try rw [← ee2]
  refine ⟨hS1.o (s6_0 hS1), ?_⟩
  refine ⟨fun hc => ?_, fun hc => ?_⟩
  · have h := h.1 hc
    exact qx_v hS1 hx1 h
  · have h := h.2 hc
    refine wpM.mono (h G1 A1 ⟨L1, P1, rfl, hS1⟩) (fun rr3 G3 hr => ?_)
    obtain ⟨A3, W3, w3, ⟨L3, P3, rfl, hS3⟩, hy3, rfl, r3, rfl, h⟩ := hr
    refine ⟨r3, rfl, ?_⟩
    have hx3 := Xt.trans hx1 hy3
    have ee4 : A3 6 0 = A1 6 0 := hy3.2 _ _ hS1.1.2.1 (((n6_0 hS3)).trans ((n6_0 hS1)).symm)
    try rw [← ee4]
    try rw [show gI G1 (A3 6 0) = gI G1 (A1 6 0) from by rw [ee4]]
    exact wp.mono (h G3 A3 ⟨L3, P3, rfl, hS3⟩) (fun r G' q => qx_trans hx3 q)
theorem w_X12_varStatement_126 {E : EE} {d : Nat} {V : VH} {K : VH → Prop} {x1 : Int32} {x2 : Int32} {x3 : Int32} {x4 : Int32}  (h : (x2 ≤ x4 → vp_in x3 60 ∧ (∀ V2 : VH, V2 = wrI V 6 16 (Int32.toNatClampNeg x3) x2 → vp_in x3 60 ∧ (∀ V4 : VH, V4 = wrI V2 6 19 (Int32.toNatClampNeg x3) 0 → vp_in x3 60 ∧ (∀ V6 : VH, V6 = wrI V4 6 20 (Int32.toNatClampNeg x3) 1 → vp_in x3 60 ∧ (∀ V8 : VH, V8 = wrI V6 6 21 (Int32.toNatClampNeg x3) (nz 0) → vp_in (vI V8 6 0 47) 5 ∧ (vp_in (vI V8 6 0 47) 5 ∧ (∀ V11 : VH, V11 = wrI V8 6 22 (Int32.toNatClampNeg (vI V8 6 0 47)) ((vI V8 6 22 (Int32.toNatClampNeg (vI V8 6 0 47))) * x2) → K V11))))))) ∧ (¬ (x2 ≤ x4) → vp_in x4 200 ∧ (vp_in ((20 * x3) + x4) 1200 ∧ (∀ V14 : VH, V14 = wrI V 6 18 (Int32.toNatClampNeg ((20 * x3) + x4)) (vI V 6 34 (Int32.toNatClampNeg x4)) → vwp E d M_X12_varStatement 126 [some (sl 6 0), some (wi x1), some (wi x2), some (wi x3), some (wi (x4 + 1))] [] V14 (zv K))))) : vwp E d M_X12_varStatement 126 [some (sl 6 0), some (wi x1), some (wi x2), some (wi x3), some (wi x4)] [] V (zv K) := by
  intro G A hR
  obtain ⟨L, P, rfl, hS⟩ := hR
  have hx := Xt.refl (V := pl G A L P) (A := A)
  show wp E d M_X12_varStatement 126 [some (vr (A 6 0)), some (vi x1), some (vi x2), some (vi x3), some (vi x4)] [] G _
  refine v_X12_varStatement_126 ?_
  refine ⟨fun hc => ?_, fun hc => ?_⟩
  · have h := h.1 hc
    refine ⟨hS.o (s6_0 hS), ?_⟩
    rw [l6_0_19 hS]
    refine ⟨hS.o (s6_16 hS), ?_⟩
    obtain ⟨hi1, h⟩ := h
    refine ⟨by first | (rw [(n6_16 hS)]; exact hi1) | exact (congrArg (vp_in _) (n6_16 hS)).mpr hi1 | exact hi1, ?_⟩
    intro G2 eG2
    have hS2 : Sh E G2 A L P := Sh_sI eG2 hS (s6_16 hS) (okT_0 rfl)
    have h := h (pl G2 A L P) (pl_sI eG2 hS (s6_16 hS))
    have hx2 : Xt (pl G A L P) A (pl G2 A L P) A := Xt_sI eG2 hx
    rw [l6_0_22 hS2]
    refine ⟨hS2.o (s6_19 hS2), ?_⟩
    obtain ⟨hi3, h⟩ := h
    refine ⟨by first | (rw [(n6_19 hS2)]; exact hi3) | exact (congrArg (vp_in _) (n6_19 hS2)).mpr hi3 | exact hi3, ?_⟩
    intro G4 eG4
    have hS4 : Sh E G4 A L P := Sh_sI eG4 hS2 (s6_19 hS2) (okT_0 rfl)
    have h := h (pl G4 A L P) (pl_sI eG4 hS2 (s6_19 hS2))
    have hx4 : Xt (pl G A L P) A (pl G4 A L P) A := Xt_sI eG4 hx2
    rw [l6_0_23 hS4]
    refine ⟨hS4.o (s6_20 hS4), ?_⟩
    obtain ⟨hi5, h⟩ := h
    refine ⟨by first | (rw [(n6_20 hS4)]; exact hi5) | exact (congrArg (vp_in _) (n6_20 hS4)).mpr hi5 | exact hi5, ?_⟩
    intro G6 eG6
    have hS6 : Sh E G6 A L P := Sh_sI eG6 hS4 (s6_20 hS4) (okT_0 rfl)
    have h := h (pl G6 A L P) (pl_sI eG6 hS4 (s6_20 hS4))
    have hx6 : Xt (pl G A L P) A (pl G6 A L P) A := Xt_sI eG6 hx4
    rw [l6_0_24 hS6]
    refine ⟨hS6.o (s6_21 hS6), ?_⟩
    obtain ⟨hi7, h⟩ := h
    refine ⟨by first | (rw [(n6_21 hS6)]; exact hi7) | exact (congrArg (vp_in _) (n6_21 hS6)).mpr hi7 | exact hi7, ?_⟩
    intro G8 eG8
    have hS8 : Sh E G8 A L P := Sh_sI eG8 hS6 (s6_21 hS6) (okT_nz rfl)
    have h := h (pl G8 A L P) (pl_sI eG8 hS6 (s6_21 hS6))
    have hx8 : Xt (pl G A L P) A (pl G8 A L P) A := Xt_sI eG8 hx6
    rw [l6_0_25 hS8]
    refine ⟨hS8.o (s6_22 hS8), ?_⟩
    obtain ⟨hi9, h⟩ := h
    refine ⟨by first | (rw [(n6_22 hS8)]; exact hi9) | exact (congrArg (vp_in _) (n6_22 hS8)).mpr hi9 | exact hi9, ?_⟩
    obtain ⟨hi10, h⟩ := h
    refine ⟨by first | (rw [(n6_22 hS8)]; exact hi10) | exact (congrArg (vp_in _) (n6_22 hS8)).mpr hi10 | exact hi10, ?_⟩
    intro G11 eG11
    have hS11 : Sh E G11 A L P := Sh_sI eG11 hS8 (s6_22 hS8) (okT_0 rfl)
    have h := h (pl G11 A L P) (pl_sI eG11 hS8 (s6_22 hS8))
    have hx11 : Xt (pl G A L P) A (pl G11 A L P) A := Xt_sI eG11 hx8
    exact qx_v hS11 hx11 h
  · have h := h.2 hc
    refine ⟨hS.o (s6_0 hS), ?_⟩
    rw [l6_0_21 hS]
    rw [l6_0_49 hS]
    refine ⟨hS.o (s6_34 hS), ?_⟩
    obtain ⟨hi12, h⟩ := h
    refine ⟨by first | (rw [(n6_34 hS)]; exact hi12) | exact (congrArg (vp_in _) (n6_34 hS)).mpr hi12 | exact hi12, ?_⟩
    refine ⟨hS.o (s6_18 hS), ?_⟩
    obtain ⟨hi13, h⟩ := h
    refine ⟨by first | (rw [(n6_18 hS)]; exact hi13) | exact (congrArg (vp_in _) (n6_18 hS)).mpr hi13 | exact hi13, ?_⟩
    intro G14 eG14
    have hS14 : Sh E G14 A L P := Sh_sI eG14 hS (s6_18 hS) (okT_0 rfl)
    have h := h (pl G14 A L P) (pl_sI eG14 hS (s6_18 hS))
    have hx14 : Xt (pl G A L P) A (pl G14 A L P) A := Xt_sI eG14 hx
    exact wp.mono (h G14 A ⟨L, P, rfl, hS14⟩) (fun r G' q => qx_trans hx14 q)
theorem w_X12_aSet_0 {E : EE} {d : Nat} {V : VH} {K : Int32 → VH → Prop}   (h0 : 0 < d) (h : vMV E (d - 1) M_X12_keep [sl 6 0, wi 0] V (fun V1 => vwp E d M_X12_aSet 9 [some (sl 6 0), some (wi 0), some (wi 1), none, none, none] [] V1 (zi K))) : vMI E d M_X12_aSet [sl 6 0] V K := by
  intro G A hR
  obtain ⟨L, P, rfl, hS⟩ := hR
  have hx := Xt.refl (V := pl G A L P) (A := A)
  show wpM E d M_X12_aSet [vr (A 6 0)] G _
  refine wpM_of mk_X12_aSet (Nat.le_of_ble_eq_true rfl) ?_
  refine v_X12_aSet_0 h0 ?_
  refine ⟨hS.o (s6_0 hS), ?_⟩
  refine wpM.mono (h G A ⟨L, P, rfl, hS⟩) (fun rr1 G1 hr => ?_)
  obtain ⟨A1, W1, w1, ⟨L1, P1, rfl, hS1⟩, hy1, rfl, rfl, h⟩ := hr
  refine ⟨rfl, ?_⟩
  have hx1 := Xt.trans hx hy1
  have ee2 : A1 6 0 = A 6 0 := hy1.2 _ _ hS.1.2.1 (((n6_0 hS1)).trans ((n6_0 hS)).symm)
  try rw [← ee2]
  exact wp.mono (h G1 A1 ⟨L1, P1, rfl, hS1⟩) (fun r G' q => qx_trans hx1 q)
theorem w_X12_aSet_9 {E : EE} {d : Nat} {V : VH} {K : Int32 → VH → Prop} {x1 : Int32} {x2 : Int32}  (h0 : 0 < d) (h : (x2 = 0 → vwp E d M_X12_aSet 157 [some (sl 6 0), some (wi x1), some (wi x2), none, none, none] [] V (zi K)) ∧ (¬ (x2 = 0) → (¬ (vI V 6 0 45) = 0 → vwp E d M_X12_aSet 157 [some (sl 6 0), some (wi x1), some (wi x2), none, none, none] [] V (zi K)) ∧ ((vI V 6 0 45) = 0 → vMI E (d - 1) M_X12_isMinus [sl 6 0] V (fun r1 V1 => (r1 = 0 → vwp E d M_X12_aSet 41 [some (sl 6 0), some (wi x1), some (wi x2), some (wi r1), none, none] [wi (vI V1 6 0 42)] V1 (zi K)) ∧ (¬ (r1 = 0) → vwp E d M_X12_aSet 41 [some (sl 6 0), some (wi x1), some (wi x2), some (wi r1), none, none] [wi (-(vI V1 6 0 42))] V1 (zi K)))))) : vwp E d M_X12_aSet 9 [some (sl 6 0), some (wi x1), some (wi x2), none, none, none] [] V (zi K) := by
  intro G A hR
  obtain ⟨L, P, rfl, hS⟩ := hR
  have hx := Xt.refl (V := pl G A L P) (A := A)
  show wp E d M_X12_aSet 9 [some (vr (A 6 0)), some (vi x1), some (vi x2), none, none, none] [] G _
  refine v_X12_aSet_9 h0 ?_
  refine ⟨fun hc => ?_, fun hc => ?_⟩
  · have h := h.1 hc
    exact wp.mono (h G A ⟨L, P, rfl, hS⟩) (fun r G' q => qx_trans hx q)
  · have h := h.2 hc
    refine ⟨hS.o (s6_0 hS), ?_⟩
    refine ⟨fun hc => ?_, fun hc => ?_⟩
    · have h := h.1 hc
      exact wp.mono (h G A ⟨L, P, rfl, hS⟩) (fun r G' q => qx_trans hx q)
    · have h := h.2 hc
      refine wpM.mono (h G A ⟨L, P, rfl, hS⟩) (fun rr1 G1 hr => ?_)
      obtain ⟨A1, W1, w1, ⟨L1, P1, rfl, hS1⟩, hy1, rfl, r1, rfl, h⟩ := hr
      refine ⟨r1, rfl, ?_⟩
      have hx1 := Xt.trans hx hy1
      have ee2 : A1 6 0 = A 6 0 := hy1.2 _ _ hS.1.2.1 (((n6_0 hS1)).trans ((n6_0 hS)).symm)
      try rw [← ee2]
      refine ⟨fun hc => ?_, fun hc => ?_⟩
      · have h := h.1 hc
        refine ⟨hS1.o (s6_0 hS1), ?_⟩
        exact wp.mono (h G1 A1 ⟨L1, P1, rfl, hS1⟩) (fun r G' q => qx_trans hx1 q)
      · have h := h.2 hc
        refine ⟨hS1.o (s6_0 hS1), ?_⟩
        exact wp.mono (h G1 A1 ⟨L1, P1, rfl, hS1⟩) (fun r G' q => qx_trans hx1 q)
theorem w_X12_aSet_41 {E : EE} {d : Nat} {V : VH} {K : Int32 → VH → Prop} {x1 : Int32} {x2 : Int32} {x3 : Int32} {t0 : Int32}  (h : (¬ (vI V 6 0 45) = 0 → vwp E d M_X12_aSet 103 [some (sl 6 0), some (wi x1), some (wi x2), some (wi x3), some (wi t0), none] [] V (zi K)) ∧ ((vI V 6 0 45) = 0 → (¬ (vI V 6 0 41) = 2 → vwp E d M_X12_aSet 103 [some (sl 6 0), some (wi x1), some (wi x2), some (wi x3), some (wi t0), none] [] V (zi K)) ∧ ((vI V 6 0 41) = 2 → (99 < (vI V 6 0 42) → vwp E d M_X12_aSet 103 [some (sl 6 0), some (wi x1), some (wi x2), some (wi x3), some (wi t0), none] [] V (zi K)) ∧ (¬ (99 < (vI V 6 0 42)) → vwp E d M_X12_aSet 70 [some (sl 6 0), some (wi x1), some (wi x2), some (wi x3), some (wi t0), some (wi 0)] [] V (zi K))))) : vwp E d M_X12_aSet 41 [some (sl 6 0), some (wi x1), some (wi x2), some (wi x3), none, none] [wi t0] V (zi K) := by
  intro G A hR
  obtain ⟨L, P, rfl, hS⟩ := hR
  have hx := Xt.refl (V := pl G A L P) (A := A)
  show wp E d M_X12_aSet 41 [some (vr (A 6 0)), some (vi x1), some (vi x2), some (vi x3), none, none] [vi t0] G _
  refine v_X12_aSet_41 ?_
  refine ⟨hS.o (s6_0 hS), ?_⟩
  refine ⟨fun hc => ?_, fun hc => ?_⟩
  · have h := h.1 hc
    exact wp.mono (h G A ⟨L, P, rfl, hS⟩) (fun r G' q => qx_trans hx q)
  · have h := h.2 hc
    refine ⟨fun hc => ?_, fun hc => ?_⟩
    · have h := h.1 hc
      exact wp.mono (h G A ⟨L, P, rfl, hS⟩) (fun r G' q => qx_trans hx q)
    · have h := h.2 hc
      refine ⟨fun hc => ?_, fun hc => ?_⟩
      · have h := h.1 hc
        exact wp.mono (h G A ⟨L, P, rfl, hS⟩) (fun r G' q => qx_trans hx q)
      · have h := h.2 hc
        exact wp.mono (h G A ⟨L, P, rfl, hS⟩) (fun r G' q => qx_trans hx q)
theorem w_X12_aSet_70 {E : EE} {d : Nat} {V : VH} {K : Int32 → VH → Prop} {x1 : Int32} {x2 : Int32} {x3 : Int32} {x4 : Int32} {x5 : Int32}  (h0 : 0 < d) (h : (x1 ≤ x5 → vwp E d M_X12_aSet 103 [some (sl 6 0), some (wi x1), some (wi x2), some (wi x3), some (wi x4), none] [] V (zi K)) ∧ (¬ (x1 ≤ x5) → vp_in x5 200 ∧ ((¬ (vI V 6 34 (Int32.toNatClampNeg x5)) = x4 → vwp E d M_X12_aSet 97 [some (sl 6 0), some (wi x1), some (wi x2), some (wi x3), some (wi x4), some (wi x5)] [] V (zi K)) ∧ ((vI V 6 34 (Int32.toNatClampNeg x5)) = x4 → vMV E (d - 1) M_X12_fail [sl 6 0, wi 5, wi (vI V 6 0 43)] V (fun V2 => vwp E d M_X12_aSet 97 [some (sl 6 0), some (wi x1), some (wi x2), some (wi x3), some (wi x4), some (wi x5)] [] V2 (zi K)))))) : vwp E d M_X12_aSet 70 [some (sl 6 0), some (wi x1), some (wi x2), some (wi x3), some (wi x4), some (wi x5)] [] V (zi K) := by
  intro G A hR
  obtain ⟨L, P, rfl, hS⟩ := hR
  have hx := Xt.refl (V := pl G A L P) (A := A)
  show wp E d M_X12_aSet 70 [some (vr (A 6 0)), some (vi x1), some (vi x2), some (vi x3), some (vi x4), some (vi x5)] [] G _
  refine v_X12_aSet_70 h0 ?_
  refine ⟨fun hc => ?_, fun hc => ?_⟩
  · have h := h.1 hc
    exact wp.mono (h G A ⟨L, P, rfl, hS⟩) (fun r G' q => qx_trans hx q)
  · have h := h.2 hc
    refine ⟨hS.o (s6_0 hS), ?_⟩
    rw [l6_0_49 hS]
    refine ⟨hS.o (s6_34 hS), ?_⟩
    obtain ⟨hi1, h⟩ := h
    refine ⟨by first | (rw [(n6_34 hS)]; exact hi1) | exact (congrArg (vp_in _) (n6_34 hS)).mpr hi1 | exact hi1, ?_⟩
    refine ⟨fun hc => ?_, fun hc => ?_⟩
    · have h := h.1 hc
      exact wp.mono (h G A ⟨L, P, rfl, hS⟩) (fun r G' q => qx_trans hx q)
    · have h := h.2 hc
      refine wpM.mono (h G A ⟨L, P, rfl, hS⟩) (fun rr2 G2 hr => ?_)
      obtain ⟨A2, W2, w2, ⟨L2, P2, rfl, hS2⟩, hy2, rfl, rfl, h⟩ := hr
      refine ⟨rfl, ?_⟩
      have hx2 := Xt.trans hx hy2
      have ee3 : A2 6 0 = A 6 0 := hy2.2 _ _ hS.1.2.1 (((n6_0 hS2)).trans ((n6_0 hS)).symm)
      try rw [← ee3]
      exact wp.mono (h G2 A2 ⟨L2, P2, rfl, hS2⟩) (fun r G' q => qx_trans hx2 q)
theorem w_X12_aSet_97 {E : EE} {d : Nat} {V : VH} {K : Int32 → VH → Prop} {x1 : Int32} {x2 : Int32} {x3 : Int32} {x4 : Int32} {x5 : Int32}  (h : vwp E d M_X12_aSet 70 [some (sl 6 0), some (wi x1), some (wi x2), some (wi x3), some (wi x4), some (wi (x5 + 1))] [] V (zi K)) : vwp E d M_X12_aSet 97 [some (sl 6 0), some (wi x1), some (wi x2), some (wi x3), some (wi x4), some (wi x5)] [] V (zi K) := by
  intro G A hR
  obtain ⟨L, P, rfl, hS⟩ := hR
  have hx := Xt.refl (V := pl G A L P) (A := A)
  show wp E d M_X12_aSet 97 [some (vr (A 6 0)), some (vi x1), some (vi x2), some (vi x3), some (vi x4), some (vi x5)] [] G _
  refine v_X12_aSet_97 ?_
  exact wp.mono (h G A ⟨L, P, rfl, hS⟩) (fun r G' q => qx_trans hx q)
theorem w_X12_aSet_103 {E : EE} {d : Nat} {V : VH} {K : Int32 → VH → Prop} {x1 : Int32} {x2 : Int32} {x3 : Int32} {x4 : Int32}  (h0 : 0 < d) (h : vMI E (d - 1) M_X12_aNumber [sl 6 0, wi 0, wi 99] V (fun r1 V1 => (¬ (vI V1 6 0 45) = 0 → vwp E d M_X12_aSet 154 [some (sl 6 0), some (wi x1), some (wi x2), some (wi x3), some (wi x4), some (wi r1)] [] V1 (zi K)) ∧ ((vI V1 6 0 45) = 0 → vp_in x1 200 ∧ (∀ V4 : VH, V4 = wrI V1 6 34 (Int32.toNatClampNeg x1) x4 → (¬ (vI V4 6 0 41) = 44 → vwp E d M_X12_aSet 144 [some (sl 6 0), some (wi (x1 + 1)), some (wi x2), some (wi x3), some (wi x4), some (wi r1)] [wi 0] V4 (zi K)) ∧ ((vI V4 6 0 41) = 44 → vwp E d M_X12_aSet 144 [some (sl 6 0), some (wi (x1 + 1)), some (wi x2), some (wi x3), some (wi x4), some (wi r1)] [wi 1] V4 (zi K)))))) : vwp E d M_X12_aSet 103 [some (sl 6 0), some (wi x1), some (wi x2), some (wi x3), some (wi x4), none] [] V (zi K) := by
  intro G A hR
  obtain ⟨L, P, rfl, hS⟩ := hR
  have hx := Xt.refl (V := pl G A L P) (A := A)
  show wp E d M_X12_aSet 103 [some (vr (A 6 0)), some (vi x1), some (vi x2), some (vi x3), some (vi x4), none] [] G _
  refine v_X12_aSet_103 h0 ?_
  refine ⟨hS.o (s6_0 hS), ?_⟩
  refine wpM.mono (h G A ⟨L, P, rfl, hS⟩) (fun rr1 G1 hr => ?_)
  obtain ⟨A1, W1, w1, ⟨L1, P1, rfl, hS1⟩, hy1, rfl, r1, rfl, h⟩ := hr
  refine ⟨r1, rfl, ?_⟩
  have hx1 := Xt.trans hx hy1
  have ee2 : A1 6 0 = A 6 0 := hy1.2 _ _ hS.1.2.1 (((n6_0 hS1)).trans ((n6_0 hS)).symm)
  try rw [← ee2]
  refine ⟨hS1.o (s6_0 hS1), ?_⟩
  refine ⟨fun hc => ?_, fun hc => ?_⟩
  · have h := h.1 hc
    exact wp.mono (h G1 A1 ⟨L1, P1, rfl, hS1⟩) (fun r G' q => qx_trans hx1 q)
  · have h := h.2 hc
    rw [l6_0_49 hS1]
    refine ⟨hS1.o (s6_34 hS1), ?_⟩
    obtain ⟨hi3, h⟩ := h
    refine ⟨by first | (rw [(n6_34 hS1)]; exact hi3) | exact (congrArg (vp_in _) (n6_34 hS1)).mpr hi3 | exact hi3, ?_⟩
    have hS4 : Sh E (sI G1 (A1 6 34) (Int32.toNatClampNeg x1) x4) A1 L1 P1 := Sh_sI (rfl : sI G1 (A1 6 34) (Int32.toNatClampNeg x1) x4 = sI G1 (A1 6 34) (Int32.toNatClampNeg x1) x4) hS1 (s6_34 hS1) (okT_0 rfl)
    have h := h (pl (sI G1 (A1 6 34) (Int32.toNatClampNeg x1) x4) A1 L1 P1) (pl_sI (rfl : sI G1 (A1 6 34) (Int32.toNatClampNeg x1) x4 = sI G1 (A1 6 34) (Int32.toNatClampNeg x1) x4) hS1 (s6_34 hS1))
    have hx4 : Xt (pl G A L P) A (pl (sI G1 (A1 6 34) (Int32.toNatClampNeg x1) x4) A1 L1 P1) A1 := Xt_sI (rfl : sI G1 (A1 6 34) (Int32.toNatClampNeg x1) x4 = sI G1 (A1 6 34) (Int32.toNatClampNeg x1) x4) hx1
    refine ⟨fun hc => ?_, fun hc => ?_⟩
    · have h := h.1 hc
      exact wp.mono (h (sI G1 (A1 6 34) (Int32.toNatClampNeg x1) x4) A1 ⟨L1, P1, rfl, hS4⟩) (fun r G' q => qx_trans hx4 q)
    · have h := h.2 hc
      exact wp.mono (h (sI G1 (A1 6 34) (Int32.toNatClampNeg x1) x4) A1 ⟨L1, P1, rfl, hS4⟩) (fun r G' q => qx_trans hx4 q)
theorem w_X12_aSet_144 {E : EE} {d : Nat} {V : VH} {K : Int32 → VH → Prop} {x1 : Int32} {x2 : Int32} {x3 : Int32} {x4 : Int32} {x5 : Int32} {t0 : Int32}  (h0 : 0 < d) (h : (t0 = 0 → vwp E d M_X12_aSet 154 [some (sl 6 0), some (wi x1), some (wi t0), some (wi x3), some (wi x4), some (wi x5)] [] V (zi K)) ∧ (¬ (t0 = 0) → vMV E (d - 1) M_X12_keep [sl 6 0, wi 0] V (fun V1 => vwp E d M_X12_aSet 154 [some (sl 6 0), some (wi x1), some (wi t0), some (wi x3), some (wi x4), some (wi x5)] [] V1 (zi K)))) : vwp E d M_X12_aSet 144 [some (sl 6 0), some (wi x1), some (wi x2), some (wi x3), some (wi x4), some (wi x5)] [wi t0] V (zi K) := by
  intro G A hR
  obtain ⟨L, P, rfl, hS⟩ := hR
  have hx := Xt.refl (V := pl G A L P) (A := A)
  show wp E d M_X12_aSet 144 [some (vr (A 6 0)), some (vi x1), some (vi x2), some (vi x3), some (vi x4), some (vi x5)] [vi t0] G _
  refine v_X12_aSet_144 h0 ?_
  refine ⟨fun hc => ?_, fun hc => ?_⟩
  · have h := h.1 hc
    exact wp.mono (h G A ⟨L, P, rfl, hS⟩) (fun r G' q => qx_trans hx q)
  · have h := h.2 hc
    refine ⟨hS.o (s6_0 hS), ?_⟩
    refine wpM.mono (h G A ⟨L, P, rfl, hS⟩) (fun rr1 G1 hr => ?_)
    obtain ⟨A1, W1, w1, ⟨L1, P1, rfl, hS1⟩, hy1, rfl, rfl, h⟩ := hr
    refine ⟨rfl, ?_⟩
    have hx1 := Xt.trans hx hy1
    have ee2 : A1 6 0 = A 6 0 := hy1.2 _ _ hS.1.2.1 (((n6_0 hS1)).trans ((n6_0 hS)).symm)
    try rw [← ee2]
    exact wp.mono (h G1 A1 ⟨L1, P1, rfl, hS1⟩) (fun r G' q => qx_trans hx1 q)
theorem w_X12_aSet_154 {E : EE} {d : Nat} {V : VH} {K : Int32 → VH → Prop} {x1 : Int32} {x2 : Int32} {x3 : Int32} {x4 : Int32} {x5 : Int32}  (h : vwp E d M_X12_aSet 9 [some (sl 6 0), some (wi x1), some (wi x2), none, none, none] [] V (zi K)) : vwp E d M_X12_aSet 154 [some (sl 6 0), some (wi x1), some (wi x2), some (wi x3), some (wi x4), some (wi x5)] [] V (zi K) := by
  intro G A hR
  obtain ⟨L, P, rfl, hS⟩ := hR
  have hx := Xt.refl (V := pl G A L P) (A := A)
  show wp E d M_X12_aSet 154 [some (vr (A 6 0)), some (vi x1), some (vi x2), some (vi x3), some (vi x4), some (vi x5)] [] G _
  refine v_X12_aSet_154 ?_
  exact wp.mono (h G A ⟨L, P, rfl, hS⟩) (fun r G' q => qx_trans hx q)
theorem w_X12_aSet_157 {E : EE} {d : Nat} {V : VH} {K : Int32 → VH → Prop} {x1 : Int32} {x2 : Int32}  (h0 : 0 < d) (h : vMV E (d - 1) M_X12_need [sl 6 0, wi 125] V (fun V1 => K x1 V1)) : vwp E d M_X12_aSet 157 [some (sl 6 0), some (wi x1), some (wi x2), none, none, none] [] V (zi K) := by
  intro G A hR
  obtain ⟨L, P, rfl, hS⟩ := hR
  have hx := Xt.refl (V := pl G A L P) (A := A)
  show wp E d M_X12_aSet 157 [some (vr (A 6 0)), some (vi x1), some (vi x2), none, none, none] [] G _
  refine v_X12_aSet_157 h0 ?_
  refine ⟨hS.o (s6_0 hS), ?_⟩
  refine wpM.mono (h G A ⟨L, P, rfl, hS⟩) (fun rr1 G1 hr => ?_)
  obtain ⟨A1, W1, w1, ⟨L1, P1, rfl, hS1⟩, hy1, rfl, rfl, h⟩ := hr
  refine ⟨rfl, ?_⟩
  have hx1 := Xt.trans hx hy1
  have ee2 : A1 6 0 = A 6 0 := hy1.2 _ _ hS.1.2.1 (((n6_0 hS1)).trans ((n6_0 hS)).symm)
  try rw [← ee2]
  exact qx_i hS1 hx1 h
theorem w_X12_aRange_0 {E : EE} {d : Nat} {V : VH} {K : Int32 → VH → Prop}   (h0 : 0 < d) (h : vMI E (d - 1) M_X12_anInt [sl 6 0, wi 99] V (fun r1 V1 => vMV E (d - 1) M_X12_need [sl 6 0, wi 202] V1 (fun V3 => vMI E (d - 1) M_X12_isMinus [sl 6 0] V3 (fun r5 V5 => ((vI V5 6 0 45) = 0 → (r5 = 0 → vwp E d M_X12_aRange 44 [some (sl 6 0), some (wi r1), some (wi r5), none, none, none] [wi (vI V5 6 0 42)] V5 (zi K)) ∧ (¬ (r5 = 0) → vwp E d M_X12_aRange 44 [some (sl 6 0), some (wi r1), some (wi r5), none, none, none] [wi (-(vI V5 6 0 42))] V5 (zi K))) ∧ (¬ ((vI V5 6 0 45) = 0) → K 0 V5))))) : vMI E d M_X12_aRange [sl 6 0] V K := by
  intro G A hR
  obtain ⟨L, P, rfl, hS⟩ := hR
  have hx := Xt.refl (V := pl G A L P) (A := A)
  show wpM E d M_X12_aRange [vr (A 6 0)] G _
  refine wpM_of mk_X12_aRange (Nat.le_of_ble_eq_true rfl) ?_
  refine v_X12_aRange_0 h0 ?_
  refine ⟨hS.o (s6_0 hS), ?_⟩
  refine wpM.mono (h G A ⟨L, P, rfl, hS⟩) (fun rr1 G1 hr => ?_)
  obtain ⟨A1, W1, w1, ⟨L1, P1, rfl, hS1⟩, hy1, rfl, r1, rfl, h⟩ := hr
  refine ⟨r1, rfl, ?_⟩
  have hx1 := Xt.trans hx hy1
  have ee2 : A1 6 0 = A 6 0 := hy1.2 _ _ hS.1.2.1 (((n6_0 hS1)).trans ((n6_0 hS)).symm)
  try rw [← ee2]
  refine ⟨hS1.o (s6_0 hS1), ?_⟩
  refine wpM.mono (h G1 A1 ⟨L1, P1, rfl, hS1⟩) (fun rr3 G3 hr => ?_)
  obtain ⟨A3, W3, w3, ⟨L3, P3, rfl, hS3⟩, hy3, rfl, rfl, h⟩ := hr
  refine ⟨rfl, ?_⟩
  have hx3 := Xt.trans hx1 hy3
  have ee4 : A3 6 0 = A1 6 0 := hy3.2 _ _ hS1.1.2.1 (((n6_0 hS3)).trans ((n6_0 hS1)).symm)
  try rw [← ee4]
  refine ⟨hS3.o (s6_0 hS3), ?_⟩
  refine wpM.mono (h G3 A3 ⟨L3, P3, rfl, hS3⟩) (fun rr5 G5 hr => ?_)
  obtain ⟨A5, W5, w5, ⟨L5, P5, rfl, hS5⟩, hy5, rfl, r5, rfl, h⟩ := hr
  refine ⟨r5, rfl, ?_⟩
  have hx5 := Xt.trans hx3 hy5
  have ee6 : A5 6 0 = A3 6 0 := hy5.2 _ _ hS3.1.2.1 (((n6_0 hS5)).trans ((n6_0 hS3)).symm)
  try rw [← ee6]
  refine ⟨hS5.o (s6_0 hS5), ?_⟩
  refine ⟨fun hc => ?_, fun hc => ?_⟩
  · have h := h.1 hc
    refine ⟨fun hc => ?_, fun hc => ?_⟩
    · have h := h.1 hc
      exact wp.mono (h G5 A5 ⟨L5, P5, rfl, hS5⟩) (fun r G' q => qx_trans hx5 q)
    · have h := h.2 hc
      exact wp.mono (h G5 A5 ⟨L5, P5, rfl, hS5⟩) (fun r G' q => qx_trans hx5 q)
  · have h := h.2 hc
    exact qx_i hS5 hx5 h
theorem w_X12_aRange_44 {E : EE} {d : Nat} {V : VH} {K : Int32 → VH → Prop} {x1 : Int32} {x2 : Int32} {t0 : Int32}  (h0 : 0 < d) (h : (¬ (vI V 6 0 41) = 2 → vwp E d M_X12_aRange 76 [some (sl 6 0), some (wi x1), some (wi x2), some (wi t0), none, none] [] V (zi K)) ∧ ((vI V 6 0 41) = 2 → (99 < (vI V 6 0 42) → vwp E d M_X12_aRange 76 [some (sl 6 0), some (wi x1), some (wi x2), some (wi t0), none, none] [] V (zi K)) ∧ (¬ (99 < (vI V 6 0 42)) → (x1 ≤ t0 → vwp E d M_X12_aRange 76 [some (sl 6 0), some (wi x1), some (wi x2), some (wi t0), none, none] [] V (zi K)) ∧ (¬ (x1 ≤ t0) → vMV E (d - 1) M_X12_fail [sl 6 0, wi 5, wi (vI V 6 0 43)] V (fun V1 => vwp E d M_X12_aRange 76 [some (sl 6 0), some (wi x1), some (wi x2), some (wi t0), none, none] [] V1 (zi K)))))) : vwp E d M_X12_aRange 44 [some (sl 6 0), some (wi x1), some (wi x2), none, none, none] [wi t0] V (zi K) := by
  intro G A hR
  obtain ⟨L, P, rfl, hS⟩ := hR
  have hx := Xt.refl (V := pl G A L P) (A := A)
  show wp E d M_X12_aRange 44 [some (vr (A 6 0)), some (vi x1), some (vi x2), none, none, none] [vi t0] G _
  refine v_X12_aRange_44 h0 ?_
  refine ⟨hS.o (s6_0 hS), ?_⟩
  refine ⟨fun hc => ?_, fun hc => ?_⟩
  · have h := h.1 hc
    exact wp.mono (h G A ⟨L, P, rfl, hS⟩) (fun r G' q => qx_trans hx q)
  · have h := h.2 hc
    refine ⟨fun hc => ?_, fun hc => ?_⟩
    · have h := h.1 hc
      exact wp.mono (h G A ⟨L, P, rfl, hS⟩) (fun r G' q => qx_trans hx q)
    · have h := h.2 hc
      refine ⟨fun hc => ?_, fun hc => ?_⟩
      · have h := h.1 hc
        exact wp.mono (h G A ⟨L, P, rfl, hS⟩) (fun r G' q => qx_trans hx q)
      · have h := h.2 hc
        refine wpM.mono (h G A ⟨L, P, rfl, hS⟩) (fun rr1 G1 hr => ?_)
        obtain ⟨A1, W1, w1, ⟨L1, P1, rfl, hS1⟩, hy1, rfl, rfl, h⟩ := hr
        refine ⟨rfl, ?_⟩
        have hx1 := Xt.trans hx hy1
        have ee2 : A1 6 0 = A 6 0 := hy1.2 _ _ hS.1.2.1 (((n6_0 hS1)).trans ((n6_0 hS)).symm)
        try rw [← ee2]
        exact wp.mono (h G1 A1 ⟨L1, P1, rfl, hS1⟩) (fun r G' q => qx_trans hx1 q)
theorem w_X12_aRange_76 {E : EE} {d : Nat} {V : VH} {K : Int32 → VH → Prop} {x1 : Int32} {x2 : Int32} {x3 : Int32}  (h0 : 0 < d) (h : vMI E (d - 1) M_X12_aNumber [sl 6 0, wi 0, wi 99] V (fun r1 V1 => vwp E d M_X12_aRange 88 [some (sl 6 0), some (wi x1), some (wi x2), some (wi x3), some (wi r1), some (wi 0)] [] V1 (zi K))) : vwp E d M_X12_aRange 76 [some (sl 6 0), some (wi x1), some (wi x2), some (wi x3), none, none] [] V (zi K) := by
  intro G A hR
  obtain ⟨L, P, rfl, hS⟩ := hR
  have hx := Xt.refl (V := pl G A L P) (A := A)
  show wp E d M_X12_aRange 76 [some (vr (A 6 0)), some (vi x1), some (vi x2), some (vi x3), none, none] [] G _
  refine v_X12_aRange_76 h0 ?_
  refine ⟨hS.o (s6_0 hS), ?_⟩
  refine wpM.mono (h G A ⟨L, P, rfl, hS⟩) (fun rr1 G1 hr => ?_)
  obtain ⟨A1, W1, w1, ⟨L1, P1, rfl, hS1⟩, hy1, rfl, r1, rfl, h⟩ := hr
  refine ⟨r1, rfl, ?_⟩
  have hx1 := Xt.trans hx hy1
  have ee2 : A1 6 0 = A 6 0 := hy1.2 _ _ hS.1.2.1 (((n6_0 hS1)).trans ((n6_0 hS)).symm)
  try rw [← ee2]
  exact wp.mono (h G1 A1 ⟨L1, P1, rfl, hS1⟩) (fun r G' q => qx_trans hx1 q)
theorem w_X12_aRange_88 {E : EE} {d : Nat} {V : VH} {K : Int32 → VH → Prop} {x1 : Int32} {x2 : Int32} {x3 : Int32} {x4 : Int32} {x5 : Int32}  (h : (¬ (vI V 6 0 45) = 0 → vwp E d M_X12_aRange 120 [some (sl 6 0), some (wi x1), some (wi x2), some (wi x3), some (wi x4), some (wi x5)] [] V (zi K)) ∧ ((vI V 6 0 45) = 0 → ((x3 - x1) < x5 → vwp E d M_X12_aRange 120 [some (sl 6 0), some (wi x1), some (wi x2), some (wi x3), some (wi x4), some (wi x5)] [] V (zi K)) ∧ (¬ ((x3 - x1) < x5) → vp_in x5 200 ∧ (∀ V2 : VH, V2 = wrI V 6 34 (Int32.toNatClampNeg x5) (x1 + x5) → vwp E d M_X12_aRange 88 [some (sl 6 0), some (wi x1), some (wi x2), some (wi x3), some (wi x4), some (wi (x5 + 1))] [] V2 (zi K))))) : vwp E d M_X12_aRange 88 [some (sl 6 0), some (wi x1), some (wi x2), some (wi x3), some (wi x4), some (wi x5)] [] V (zi K) := by
  intro G A hR
  obtain ⟨L, P, rfl, hS⟩ := hR
  have hx := Xt.refl (V := pl G A L P) (A := A)
  show wp E d M_X12_aRange 88 [some (vr (A 6 0)), some (vi x1), some (vi x2), some (vi x3), some (vi x4), some (vi x5)] [] G _
  refine v_X12_aRange_88 ?_
  refine ⟨hS.o (s6_0 hS), ?_⟩
  refine ⟨fun hc => ?_, fun hc => ?_⟩
  · have h := h.1 hc
    exact wp.mono (h G A ⟨L, P, rfl, hS⟩) (fun r G' q => qx_trans hx q)
  · have h := h.2 hc
    refine ⟨fun hc => ?_, fun hc => ?_⟩
    · have h := h.1 hc
      exact wp.mono (h G A ⟨L, P, rfl, hS⟩) (fun r G' q => qx_trans hx q)
    · have h := h.2 hc
      rw [l6_0_49 hS]
      refine ⟨hS.o (s6_34 hS), ?_⟩
      obtain ⟨hi1, h⟩ := h
      refine ⟨by first | (rw [(n6_34 hS)]; exact hi1) | exact (congrArg (vp_in _) (n6_34 hS)).mpr hi1 | exact hi1, ?_⟩
      have hS2 : Sh E (sI G (A 6 34) (Int32.toNatClampNeg x5) (x1 + x5)) A L P := Sh_sI (rfl : sI G (A 6 34) (Int32.toNatClampNeg x5) (x1 + x5) = sI G (A 6 34) (Int32.toNatClampNeg x5) (x1 + x5)) hS (s6_34 hS) (okT_0 rfl)
      have h := h (pl (sI G (A 6 34) (Int32.toNatClampNeg x5) (x1 + x5)) A L P) (pl_sI (rfl : sI G (A 6 34) (Int32.toNatClampNeg x5) (x1 + x5) = sI G (A 6 34) (Int32.toNatClampNeg x5) (x1 + x5)) hS (s6_34 hS))
      have hx2 : Xt (pl G A L P) A (pl (sI G (A 6 34) (Int32.toNatClampNeg x5) (x1 + x5)) A L P) A := Xt_sI (rfl : sI G (A 6 34) (Int32.toNatClampNeg x5) (x1 + x5) = sI G (A 6 34) (Int32.toNatClampNeg x5) (x1 + x5)) hx
      exact wp.mono (h (sI G (A 6 34) (Int32.toNatClampNeg x5) (x1 + x5)) A ⟨L, P, rfl, hS2⟩) (fun r G' q => qx_trans hx2 q)
theorem w_X12_aRange_120 {E : EE} {d : Nat} {V : VH} {K : Int32 → VH → Prop} {x1 : Int32} {x2 : Int32} {x3 : Int32} {x4 : Int32} {x5 : Int32}  (h : K ((x3 - x1) + 1) V) : vwp E d M_X12_aRange 120 [some (sl 6 0), some (wi x1), some (wi x2), some (wi x3), some (wi x4), some (wi x5)] [] V (zi K) := by
  intro G A hR
  obtain ⟨L, P, rfl, hS⟩ := hR
  have hx := Xt.refl (V := pl G A L P) (A := A)
  show wp E d M_X12_aRange 120 [some (vr (A 6 0)), some (vi x1), some (vi x2), some (vi x3), some (vi x4), some (vi x5)] [] G _
  refine v_X12_aRange_120 ?_
  exact qx_i hS hx h
theorem w_X12_factStatement_0 {E : EE} {d : Nat} {V : VH} {K : VH → Prop}   (h0 : 0 < d) (h : vMV E (d - 1) M_X12_newName [sl 6 0, wi 0, wi 16] V (fun V1 => vMV E (d - 1) M_X12_need [sl 6 0, wi 61] V1 (fun V3 => vMI E (d - 1) M_X12_anInt [sl 6 0, wi 9999] V3 (fun r5 V5 => vMV E (d - 1) M_X12_need [sl 6 0, wi 59] V5 (fun V7 => (¬ (vI V7 6 0 45) = 0 → K V7) ∧ ((vI V7 6 0 45) = 0 → vMI E (d - 1) M_X12_tell [sl 6 0, wi 0] V7 (fun r9 V9 => vp_in ((16 * (vI V7 6 0 47)) + r9) 80 ∧ (∀ V13 : VH, V13 = wrI V9 6 15 (Int32.toNatClampNeg ((16 * (vI V7 6 0 47)) + r9)) r5 → K V13)))))))) : vMV E d M_X12_factStatement [sl 6 0] V K := by
  intro G A hR
  obtain ⟨L, P, rfl, hS⟩ := hR
  have hx := Xt.refl (V := pl G A L P) (A := A)
  show wpM E d M_X12_factStatement [vr (A 6 0)] G _
  refine wpM_of mk_X12_factStatement (Nat.le_of_ble_eq_true rfl) ?_
  refine v_X12_factStatement_0 h0 ?_
  refine ⟨hS.o (s6_0 hS), ?_⟩
  refine wpM.mono (h G A ⟨L, P, rfl, hS⟩) (fun rr1 G1 hr => ?_)
  obtain ⟨A1, W1, w1, ⟨L1, P1, rfl, hS1⟩, hy1, rfl, rfl, h⟩ := hr
  refine ⟨rfl, ?_⟩
  have hx1 := Xt.trans hx hy1
  have ee2 : A1 6 0 = A 6 0 := hy1.2 _ _ hS.1.2.1 (((n6_0 hS1)).trans ((n6_0 hS)).symm)
  try rw [← ee2]
  refine ⟨hS1.o (s6_0 hS1), ?_⟩
  refine wpM.mono (h G1 A1 ⟨L1, P1, rfl, hS1⟩) (fun rr3 G3 hr => ?_)
  obtain ⟨A3, W3, w3, ⟨L3, P3, rfl, hS3⟩, hy3, rfl, rfl, h⟩ := hr
  refine ⟨rfl, ?_⟩
  have hx3 := Xt.trans hx1 hy3
  have ee4 : A3 6 0 = A1 6 0 := hy3.2 _ _ hS1.1.2.1 (((n6_0 hS3)).trans ((n6_0 hS1)).symm)
  try rw [← ee4]
  refine ⟨hS3.o (s6_0 hS3), ?_⟩
  refine wpM.mono (h G3 A3 ⟨L3, P3, rfl, hS3⟩) (fun rr5 G5 hr => ?_)
  obtain ⟨A5, W5, w5, ⟨L5, P5, rfl, hS5⟩, hy5, rfl, r5, rfl, h⟩ := hr
  refine ⟨r5, rfl, ?_⟩
  have hx5 := Xt.trans hx3 hy5
  have ee6 : A5 6 0 = A3 6 0 := hy5.2 _ _ hS3.1.2.1 (((n6_0 hS5)).trans ((n6_0 hS3)).symm)
  try rw [← ee6]
  refine ⟨hS5.o (s6_0 hS5), ?_⟩
  refine wpM.mono (h G5 A5 ⟨L5, P5, rfl, hS5⟩) (fun rr7 G7 hr => ?_)
  obtain ⟨A7, W7, w7, ⟨L7, P7, rfl, hS7⟩, hy7, rfl, rfl, h⟩ := hr
  refine ⟨rfl, ?_⟩
  have hx7 := Xt.trans hx5 hy7
  have ee8 : A7 6 0 = A5 6 0 := hy7.2 _ _ hS5.1.2.1 (((n6_0 hS7)).trans ((n6_0 hS5)).symm)
  try rw [← ee8]
  refine ⟨hS7.o (s6_0 hS7), ?_⟩
  refine ⟨fun hc => ?_, fun hc => ?_⟩
  · have h := h.1 hc
    exact qx_v hS7 hx7 h
  · have h := h.2 hc
    rw [l6_0_18 hS7]
    refine wpM.mono (h G7 A7 ⟨L7, P7, rfl, hS7⟩) (fun rr9 G9 hr => ?_)
    obtain ⟨A9, W9, w9, ⟨L9, P9, rfl, hS9⟩, hy9, rfl, r9, rfl, h⟩ := hr
    refine ⟨r9, rfl, ?_⟩
    have hx9 := Xt.trans hx7 hy9
    have ee10 : A9 6 0 = A7 6 0 := hy9.2 _ _ hS7.1.2.1 (((n6_0 hS9)).trans ((n6_0 hS7)).symm)
    try rw [← ee10]
    have ee11 : A9 6 15 = A7 6 15 := hy9.2 _ _ hS7.1.2.1 (((n6_15 hS9)).trans ((n6_15 hS7)).symm)
    try rw [← ee11]
    try rw [show gI G7 (A9 6 0) = gI G7 (A7 6 0) from by rw [ee10]]
    refine ⟨hS9.o (s6_15 hS9), ?_⟩
    obtain ⟨hi12, h⟩ := h
    refine ⟨by first | (rw [(n6_15 hS9)]; exact hi12) | exact (congrArg (vp_in _) (n6_15 hS9)).mpr hi12 | exact hi12, ?_⟩
    have hS13 : Sh E (sI G9 (A9 6 15) (Int32.toNatClampNeg ((16 * (gI G7 (A7 6 0) 47)) + r9)) r5) A9 L9 P9 := Sh_sI (rfl : sI G9 (A9 6 15) (Int32.toNatClampNeg ((16 * (gI G7 (A7 6 0) 47)) + r9)) r5 = sI G9 (A9 6 15) (Int32.toNatClampNeg ((16 * (gI G7 (A7 6 0) 47)) + r9)) r5) hS9 (s6_15 hS9) (okT_0 rfl)
    have h := h (pl (sI G9 (A9 6 15) (Int32.toNatClampNeg ((16 * (gI G7 (A7 6 0) 47)) + r9)) r5) A9 L9 P9) (pl_sI (rfl : sI G9 (A9 6 15) (Int32.toNatClampNeg ((16 * (gI G7 (A7 6 0) 47)) + r9)) r5 = sI G9 (A9 6 15) (Int32.toNatClampNeg ((16 * (gI G7 (A7 6 0) 47)) + r9)) r5) hS9 (s6_15 hS9))
    have hx13 : Xt (pl G A L P) A (pl (sI G9 (A9 6 15) (Int32.toNatClampNeg ((16 * (gI G7 (A7 6 0) 47)) + r9)) r5) A9 L9 P9) A9 := Xt_sI (rfl : sI G9 (A9 6 15) (Int32.toNatClampNeg ((16 * (gI G7 (A7 6 0) 47)) + r9)) r5 = sI G9 (A9 6 15) (Int32.toNatClampNeg ((16 * (gI G7 (A7 6 0) 47)) + r9)) r5) hx9
    exact qx_v hS13 hx13 h
theorem w_X12_needOf_0 {E : EE} {d : Nat} {V : VH} {K : Int32 → VH → Prop} {x1 : Int32}  (h0 : 0 < d) (h : vp_in x1 5 ∧ (vp_in (4 * x1) 20 ∧ (vMI E (d - 1) M_X12_vars [sl 6 0, wi x1] V (fun r3 V3 => K (((((3 + (vI V 6 4 (Int32.toNatClampNeg x1))) + (4 * (vI V 6 14 (Int32.toNatClampNeg (4 * x1))))) + (3 * r3)) + 2) + 8) V3)))) : vMI E d M_X12_needOf [sl 6 0, wi x1] V K := by
  intro G A hR
  obtain ⟨L, P, rfl, hS⟩ := hR
  have hx := Xt.refl (V := pl G A L P) (A := A)
  show wpM E d M_X12_needOf [vr (A 6 0), vi x1] G _
  refine wpM_of mk_X12_needOf (Nat.le_of_ble_eq_true rfl) ?_
  refine v_X12_needOf_0 h0 ?_
  refine ⟨hS.o (s6_0 hS), ?_⟩
  rw [l6_0_7 hS]
  refine ⟨hS.o (s6_4 hS), ?_⟩
  obtain ⟨hi1, h⟩ := h
  refine ⟨by first | (rw [(n6_4 hS)]; exact hi1) | exact (congrArg (vp_in _) (n6_4 hS)).mpr hi1 | exact hi1, ?_⟩
  rw [l6_0_17 hS]
  refine ⟨hS.o (s6_14 hS), ?_⟩
  obtain ⟨hi2, h⟩ := h
  refine ⟨by first | (rw [(n6_14 hS)]; exact hi2) | exact (congrArg (vp_in _) (n6_14 hS)).mpr hi2 | exact hi2, ?_⟩
  refine wpM.mono (h G A ⟨L, P, rfl, hS⟩) (fun rr3 G3 hr => ?_)
  obtain ⟨A3, W3, w3, ⟨L3, P3, rfl, hS3⟩, hy3, rfl, r3, rfl, h⟩ := hr
  refine ⟨r3, rfl, ?_⟩
  have hx3 := Xt.trans hx hy3
  have ee4 : A3 6 0 = A 6 0 := hy3.2 _ _ hS.1.2.1 (((n6_0 hS3)).trans ((n6_0 hS)).symm)
  try rw [← ee4]
  exact qx_i hS3 hx3 h
theorem w_X12_vars_0 {E : EE} {d : Nat} {V : VH} {K : Int32 → VH → Prop} {x1 : Int32}  (h : vp_in ((4 * x1) + 1) 20 ∧ (K (vI V 6 14 (Int32.toNatClampNeg ((4 * x1) + 1))) V)) : vMI E d M_X12_vars [sl 6 0, wi x1] V K := by
  intro G A hR
  obtain ⟨L, P, rfl, hS⟩ := hR
  have hx := Xt.refl (V := pl G A L P) (A := A)
  show wpM E d M_X12_vars [vr (A 6 0), vi x1] G _
  refine wpM_of mk_X12_vars (Nat.le_of_ble_eq_true rfl) ?_
  refine v_X12_vars_0 ?_
  refine ⟨hS.o (s6_0 hS), ?_⟩
  rw [l6_0_17 hS]
  refine ⟨hS.o (s6_14 hS), ?_⟩
  obtain ⟨hi1, h⟩ := h
  refine ⟨by first | (rw [(n6_14 hS)]; exact hi1) | exact (congrArg (vp_in _) (n6_14 hS)).mpr hi1 | exact hi1, ?_⟩
  exact qx_i hS hx h
theorem w_X12_placeOf_0 {E : EE} {d : Nat} {V : VH} {K : Int32 → VH → Prop} {x1 : Int32} {x2 : Int32} {x3 : Int32}  (h : vwp E d M_X12_placeOf 3 [some (sl 6 0), some (wi x1), some (wi x2), some (wi x3), some (wi 0)] [] V (zi K)) : vMI E d M_X12_placeOf [sl 6 0, wi x1, wi x2, wi x3] V K := by
  intro G A hR
  obtain ⟨L, P, rfl, hS⟩ := hR
  have hx := Xt.refl (V := pl G A L P) (A := A)
  show wpM E d M_X12_placeOf [vr (A 6 0), vi x1, vi x2, vi x3] G _
  refine wpM_of mk_X12_placeOf (Nat.le_of_ble_eq_true rfl) ?_
  refine v_X12_placeOf_0 ?_
  exact wp.mono (h G A ⟨L, P, rfl, hS⟩) (fun r G' q => qx_trans hx q)
theorem w_X12_placeOf_3 {E : EE} {d : Nat} {V : VH} {K : Int32 → VH → Prop} {x1 : Int32} {x2 : Int32} {x3 : Int32} {x4 : Int32}  (h : vp_in ((12 * x1) + x2) 60 ∧ (((vI V 6 16 (Int32.toNatClampNeg ((12 * x1) + x2))) ≤ x4 → K (-1) V) ∧ (¬ ((vI V 6 16 (Int32.toNatClampNeg ((12 * x1) + x2))) ≤ x4) → vp_in ((20 * ((12 * x1) + x2)) + x4) 1200 ∧ ((¬ (vI V 6 18 (Int32.toNatClampNeg ((20 * ((12 * x1) + x2)) + x4))) = x3 → vwp E d M_X12_placeOf 3 [some (sl 6 0), some (wi x1), some (wi x2), some (wi x3), some (wi (x4 + 1))] [] V (zi K)) ∧ ((vI V 6 18 (Int32.toNatClampNeg ((20 * ((12 * x1) + x2)) + x4))) = x3 → K x4 V))))) : vwp E d M_X12_placeOf 3 [some (sl 6 0), some (wi x1), some (wi x2), some (wi x3), some (wi x4)] [] V (zi K) := by
  intro G A hR
  obtain ⟨L, P, rfl, hS⟩ := hR
  have hx := Xt.refl (V := pl G A L P) (A := A)
  show wp E d M_X12_placeOf 3 [some (vr (A 6 0)), some (vi x1), some (vi x2), some (vi x3), some (vi x4)] [] G _
  refine v_X12_placeOf_3 ?_
  refine ⟨hS.o (s6_0 hS), ?_⟩
  rw [l6_0_19 hS]
  refine ⟨hS.o (s6_16 hS), ?_⟩
  obtain ⟨hi1, h⟩ := h
  refine ⟨by first | (rw [(n6_16 hS)]; exact hi1) | exact (congrArg (vp_in _) (n6_16 hS)).mpr hi1 | exact hi1, ?_⟩
  refine ⟨fun hc => ?_, fun hc => ?_⟩
  · have h := h.1 hc
    exact qx_i hS hx h
  · have h := h.2 hc
    rw [l6_0_21 hS]
    refine ⟨hS.o (s6_18 hS), ?_⟩
    obtain ⟨hi2, h⟩ := h
    refine ⟨by first | (rw [(n6_18 hS)]; exact hi2) | exact (congrArg (vp_in _) (n6_18 hS)).mpr hi2 | exact hi2, ?_⟩
    refine ⟨fun hc => ?_, fun hc => ?_⟩
    · have h := h.1 hc
      exact wp.mono (h G A ⟨L, P, rfl, hS⟩) (fun r G' q => qx_trans hx q)
    · have h := h.2 hc
      exact qx_i hS hx h
theorem w_X12_take_0 {E : EE} {d : Nat} {V : VH} {K : Int32 → VH → Prop}   (h : ∀ V2 : VH, V2 = wrI V 6 1 (Int32.toNatClampNeg 0) (i2b 0) → ∀ V4 : VH, V4 = wrI V2 6 1 (Int32.toNatClampNeg 1) (i2b (i2b (vI V2 6 0 91))) → vwp E d M_X12_take 20 [some (sl 6 0), some (wi 0), none, none] [] V4 (zi K)) : vMI E d M_X12_take [sl 6 0] V K := by
  intro G A hR
  obtain ⟨L, P, rfl, hS⟩ := hR
  have hx := Xt.refl (V := pl G A L P) (A := A)
  show wpM E d M_X12_take [vr (A 6 0)] G _
  refine wpM_of mk_X12_take (Nat.le_of_ble_eq_true rfl) ?_
  refine v_X12_take_0 ?_
  refine ⟨hS.o (s6_0 hS), ?_⟩
  rw [l6_0_0 hS]
  refine ⟨hS.o (s6_1 hS), ?_⟩
  refine ⟨by first | (rw [(n6_1 hS)]; unfold vp_in; decide) | exact (congrArg (vp_in _) (n6_1 hS)).mpr (by unfold vp_in; decide) | (unfold vp_in; decide), ?_⟩
  intro G2 eG2
  have hS2 : Sh E G2 A L P := Sh_sI eG2 hS (s6_1 hS) (okT_b rfl)
  have h := h (pl G2 A L P) (pl_sI eG2 hS (s6_1 hS))
  have hx2 : Xt (pl G A L P) A (pl G2 A L P) A := Xt_sI eG2 hx
  rw [l6_0_0 hS2]
  refine ⟨hS2.o (s6_1 hS2), ?_⟩
  refine ⟨by first | (rw [(n6_1 hS2)]; unfold vp_in; decide) | exact (congrArg (vp_in _) (n6_1 hS2)).mpr (by unfold vp_in; decide) | (unfold vp_in; decide), ?_⟩
  intro G4 eG4
  have hS4 : Sh E G4 A L P := Sh_sI eG4 hS2 (s6_1 hS2) (okT_b rfl)
  have h := h (pl G4 A L P) (pl_sI eG4 hS2 (s6_1 hS2))
  have hx4 : Xt (pl G A L P) A (pl G4 A L P) A := Xt_sI eG4 hx2
  exact wp.mono (h G4 A ⟨L, P, rfl, hS4⟩) (fun r G' q => qx_trans hx4 q)
theorem w_X12_take_20 {E : EE} {d : Nat} {V : VH} {K : Int32 → VH → Prop} {x1 : Int32}  (h : ((vI V 6 0 89) ≤ x1 → ∀ V1 : VH, V1 = wrI V 6 0 1 (2 + (vI V 6 0 89)) → vwp E d M_X12_take 62 [some (sl 6 0), some (wj 0), none, some (wi 0)] [] V1 (zi K)) ∧ (¬ ((vI V 6 0 89) ≤ x1) → vp_in x1 20000 ∧ (vp_in (2 + x1) 20000 ∧ (∀ V4 : VH, V4 = wrI V 6 1 (Int32.toNatClampNeg (2 + x1)) (i2b (vI V 6 59 (Int32.toNatClampNeg x1))) → vwp E d M_X12_take 20 [some (sl 6 0), some (wi (x1 + 1)), none, none] [] V4 (zi K))))) : vwp E d M_X12_take 20 [some (sl 6 0), some (wi x1), none, none] [] V (zi K) := by
  intro G A hR
  obtain ⟨L, P, rfl, hS⟩ := hR
  have hx := Xt.refl (V := pl G A L P) (A := A)
  show wp E d M_X12_take 20 [some (vr (A 6 0)), some (vi x1), none, none] [] G _
  refine v_X12_take_20 ?_
  refine ⟨hS.o (s6_0 hS), ?_⟩
  refine ⟨fun hc => ?_, fun hc => ?_⟩
  · have h := h.1 hc
    have hS1 : Sh E (sI G (A 6 0) 1 (2 + (gI G (A 6 0) 89))) A L P := Sh_sI (rfl : sI G (A 6 0) 1 (2 + (gI G (A 6 0) 89)) = sI G (A 6 0) 1 (2 + (gI G (A 6 0) 89))) hS (s6_0 hS) (okT_0 rfl)
    have h := h (pl (sI G (A 6 0) 1 (2 + (gI G (A 6 0) 89))) A L P) (pl_sI (rfl : sI G (A 6 0) 1 (2 + (gI G (A 6 0) 89)) = sI G (A 6 0) 1 (2 + (gI G (A 6 0) 89))) hS (s6_0 hS))
    have hx1 : Xt (pl G A L P) A (pl (sI G (A 6 0) 1 (2 + (gI G (A 6 0) 89))) A L P) A := Xt_sI (rfl : sI G (A 6 0) 1 (2 + (gI G (A 6 0) 89)) = sI G (A 6 0) 1 (2 + (gI G (A 6 0) 89))) hx
    exact wp.mono (h (sI G (A 6 0) 1 (2 + (gI G (A 6 0) 89))) A ⟨L, P, rfl, hS1⟩) (fun r G' q => qx_trans hx1 q)
  · have h := h.2 hc
    rw [l6_0_0 hS]
    rw [l6_0_88 hS]
    refine ⟨hS.o (s6_59 hS), ?_⟩
    obtain ⟨hi2, h⟩ := h
    refine ⟨by first | (rw [(n6_59 hS)]; exact hi2) | exact (congrArg (vp_in _) (n6_59 hS)).mpr hi2 | exact hi2, ?_⟩
    refine ⟨hS.o (s6_1 hS), ?_⟩
    obtain ⟨hi3, h⟩ := h
    refine ⟨by first | (rw [(n6_1 hS)]; exact hi3) | exact (congrArg (vp_in _) (n6_1 hS)).mpr hi3 | exact hi3, ?_⟩
    have hS4 : Sh E (sI G (A 6 1) (Int32.toNatClampNeg (2 + x1)) (i2b (gI G (A 6 59) (Int32.toNatClampNeg x1)))) A L P := Sh_sI (rfl : sI G (A 6 1) (Int32.toNatClampNeg (2 + x1)) (i2b (gI G (A 6 59) (Int32.toNatClampNeg x1))) = sI G (A 6 1) (Int32.toNatClampNeg (2 + x1)) (i2b (gI G (A 6 59) (Int32.toNatClampNeg x1)))) hS (s6_1 hS) (okT_b rfl)
    have h := h (pl (sI G (A 6 1) (Int32.toNatClampNeg (2 + x1)) (i2b (gI G (A 6 59) (Int32.toNatClampNeg x1)))) A L P) (pl_sI (rfl : sI G (A 6 1) (Int32.toNatClampNeg (2 + x1)) (i2b (gI G (A 6 59) (Int32.toNatClampNeg x1))) = sI G (A 6 1) (Int32.toNatClampNeg (2 + x1)) (i2b (gI G (A 6 59) (Int32.toNatClampNeg x1)))) hS (s6_1 hS))
    have hx4 : Xt (pl G A L P) A (pl (sI G (A 6 1) (Int32.toNatClampNeg (2 + x1)) (i2b (gI G (A 6 59) (Int32.toNatClampNeg x1)))) A L P) A := Xt_sI (rfl : sI G (A 6 1) (Int32.toNatClampNeg (2 + x1)) (i2b (gI G (A 6 59) (Int32.toNatClampNeg x1))) = sI G (A 6 1) (Int32.toNatClampNeg (2 + x1)) (i2b (gI G (A 6 59) (Int32.toNatClampNeg x1)))) hx
    exact wp.mono (h (sI G (A 6 1) (Int32.toNatClampNeg (2 + x1)) (i2b (gI G (A 6 59) (Int32.toNatClampNeg x1)))) A ⟨L, P, rfl, hS4⟩) (fun r G' q => qx_trans hx4 q)
theorem w_X12_take_62 {E : EE} {d : Nat} {V : VH} {K : Int32 → VH → Prop} {x1 : Int64} {x3 : Int32}  (h0 : 0 < d) (h : ((vI V 6 0 1) ≤ x3 → vwp E d M_X12_take 90 [some (sl 6 0), some (wj x1), none, some (wi 7)] [] V (zi K)) ∧ (¬ ((vI V 6 0 1) ≤ x3) → vp_in x3 20000 ∧ (vMJ E (d - 1) M_X12_mixed [wj x1, wi (vI V 6 1 (Int32.toNatClampNeg x3))] V (fun r2 V2 => vwp E d M_X12_take 62 [some (sl 6 0), some (wj r2), none, some (wi (x3 + 1))] [] V2 (zi K))))) : vwp E d M_X12_take 62 [some (sl 6 0), some (wj x1), none, some (wi x3)] [] V (zi K) := by
  intro G A hR
  obtain ⟨L, P, rfl, hS⟩ := hR
  have hx := Xt.refl (V := pl G A L P) (A := A)
  show wp E d M_X12_take 62 [some (vr (A 6 0)), some (vj x1), none, some (vi x3)] [] G _
  refine v_X12_take_62 h0 ?_
  refine ⟨hS.o (s6_0 hS), ?_⟩
  refine ⟨fun hc => ?_, fun hc => ?_⟩
  · have h := h.1 hc
    exact wp.mono (h G A ⟨L, P, rfl, hS⟩) (fun r G' q => qx_trans hx q)
  · have h := h.2 hc
    rw [l6_0_0 hS]
    refine ⟨hS.o (s6_1 hS), ?_⟩
    obtain ⟨hi1, h⟩ := h
    refine ⟨by first | (rw [(n6_1 hS)]; exact hi1) | exact (congrArg (vp_in _) (n6_1 hS)).mpr hi1 | exact hi1, ?_⟩
    refine wpM.mono (h G A ⟨L, P, rfl, hS⟩) (fun rr2 G2 hr => ?_)
    obtain ⟨A2, W2, w2, ⟨L2, P2, rfl, hS2⟩, hy2, rfl, r2, rfl, h⟩ := hr
    refine ⟨r2, rfl, ?_⟩
    have hx2 := Xt.trans hx hy2
    have ee3 : A2 6 0 = A 6 0 := hy2.2 _ _ hS.1.2.1 (((n6_0 hS2)).trans ((n6_0 hS)).symm)
    try rw [← ee3]
    exact wp.mono (h G2 A2 ⟨L2, P2, rfl, hS2⟩) (fun r G' q => qx_trans hx2 q)
theorem w_X12_take_90 {E : EE} {d : Nat} {V : VH} {K : Int32 → VH → Prop} {x1 : Int64} {x3 : Int32}  (h : (x3 < 0 → K (vI V 6 0 1) V) ∧ (¬ (x3 < 0) → vp_in (vI V 6 0 1) 20000 ∧ (∀ V2 : VH, V2 = wrI V 6 1 (Int32.toNatClampNeg (vI V 6 0 1)) (i2b (i2b (Int64.toInt32 (x1 >>> (Int32.toInt64 (8 * x3) &&& 63))))) → ∀ V3 : VH, V3 = wrI V2 6 0 1 ((vI V2 6 0 1) + 1) → vwp E d M_X12_take 90 [some (sl 6 0), some (wj x1), none, some (wi (x3 + (-1)))] [] V3 (zi K)))) : vwp E d M_X12_take 90 [some (sl 6 0), some (wj x1), none, some (wi x3)] [] V (zi K) := by
  intro G A hR
  obtain ⟨L, P, rfl, hS⟩ := hR
  have hx := Xt.refl (V := pl G A L P) (A := A)
  show wp E d M_X12_take 90 [some (vr (A 6 0)), some (vj x1), none, some (vi x3)] [] G _
  refine v_X12_take_90 ?_
  refine ⟨fun hc => ?_, fun hc => ?_⟩
  · have h := h.1 hc
    refine ⟨hS.o (s6_0 hS), ?_⟩
    exact qx_i hS hx h
  · have h := h.2 hc
    refine ⟨hS.o (s6_0 hS), ?_⟩
    rw [l6_0_0 hS]
    refine ⟨hS.o (s6_1 hS), ?_⟩
    obtain ⟨hi1, h⟩ := h
    refine ⟨by first | (rw [(n6_1 hS)]; exact hi1) | exact (congrArg (vp_in _) (n6_1 hS)).mpr hi1 | exact hi1, ?_⟩
    intro G2 eG2
    have hS2 : Sh E G2 A L P := Sh_sI eG2 hS (s6_1 hS) (okT_b rfl)
    have h := h (pl G2 A L P) (pl_sI eG2 hS (s6_1 hS))
    have hx2 : Xt (pl G A L P) A (pl G2 A L P) A := Xt_sI eG2 hx
    intro G3 eG3
    have hS3 : Sh E G3 A L P := Sh_sI eG3 hS2 (s6_0 hS2) (okT_0 rfl)
    have h := h (pl G3 A L P) (pl_sI eG3 hS2 (s6_0 hS2))
    have hx3 : Xt (pl G A L P) A (pl G3 A L P) A := Xt_sI eG3 hx2
    exact wp.mono (h G3 A ⟨L, P, rfl, hS3⟩) (fun r G' q => qx_trans hx3 q)
theorem w_X12_crash_0 {E : EE} {d : Nat} {V : VH} {K : Int32 → VH → Prop} {x1 : Int32}  (h : (0 ≤ x1 → ((vI V 6 0 92) < 0 → vwp E d M_X12_crash 84 [some (sl 6 0), some (wi x1), none, none] [] V (zi K)) ∧ (¬ ((vI V 6 0 92) < 0) → vp_in (vI V 6 0 92) 101 ∧ (vwp E d M_X12_crash 27 [some (sl 6 0), some (wi x1), some (wj ((Int32.toInt64 (vI V 6 60 (Int32.toNatClampNeg (vI V 6 0 92)))) + (Int32.toInt64 x1))), none] [] V (zi K)))) ∧ (¬ (0 ≤ x1) → K (-1) V)) : vMI E d M_X12_crash [sl 6 0, wi x1] V K := by
  intro G A hR
  obtain ⟨L, P, rfl, hS⟩ := hR
  have hx := Xt.refl (V := pl G A L P) (A := A)
  show wpM E d M_X12_crash [vr (A 6 0), vi x1] G _
  refine wpM_of mk_X12_crash (Nat.le_of_ble_eq_true rfl) ?_
  refine v_X12_crash_0 ?_
  refine ⟨fun hc => ?_, fun hc => ?_⟩
  · have h := h.1 hc
    refine ⟨hS.o (s6_0 hS), ?_⟩
    refine ⟨fun hc => ?_, fun hc => ?_⟩
    · have h := h.1 hc
      exact wp.mono (h G A ⟨L, P, rfl, hS⟩) (fun r G' q => qx_trans hx q)
    · have h := h.2 hc
      rw [l6_0_90 hS]
      refine ⟨hS.o (s6_60 hS), ?_⟩
      obtain ⟨hi1, h⟩ := h
      refine ⟨by first | (rw [(n6_60 hS)]; exact hi1) | exact (congrArg (vp_in _) (n6_60 hS)).mpr hi1 | exact hi1, ?_⟩
      exact wp.mono (h G A ⟨L, P, rfl, hS⟩) (fun r G' q => qx_trans hx q)
  · have h := h.2 hc
    exact qx_i hS hx h
theorem w_X12_crash_27 {E : EE} {d : Nat} {V : VH} {K : Int32 → VH → Prop} {x1 : Int32} {x2 : Int64}  (h : ((vI V 6 0 91) ≤ (vI V 6 0 92) → vwp E d M_X12_crash 66 [some (sl 6 0), some (wi x1), some (wj x2), none] [] V (zi K)) ∧ (¬ ((vI V 6 0 91) ≤ (vI V 6 0 92)) → vp_in (vI V 6 0 91) 101 ∧ (((Int32.toInt64 (vI V 6 60 (Int32.toNatClampNeg (vI V 6 0 91)))) ≤ x2 → vwp E d M_X12_crash 66 [some (sl 6 0), some (wi x1), some (wj x2), none] [] V (zi K)) ∧ (¬ ((Int32.toInt64 (vI V 6 60 (Int32.toNatClampNeg (vI V 6 0 91)))) ≤ x2) → ∀ V2 : VH, V2 = wrI V 6 0 91 ((vI V 6 0 91) - 1) → vwp E d M_X12_crash 27 [some (sl 6 0), some (wi x1), some (wj x2), none] [] V2 (zi K))))) : vwp E d M_X12_crash 27 [some (sl 6 0), some (wi x1), some (wj x2), none] [] V (zi K) := by
  intro G A hR
  obtain ⟨L, P, rfl, hS⟩ := hR
  have hx := Xt.refl (V := pl G A L P) (A := A)
  show wp E d M_X12_crash 27 [some (vr (A 6 0)), some (vi x1), some (vj x2), none] [] G _
  refine v_X12_crash_27 ?_
  refine ⟨hS.o (s6_0 hS), ?_⟩
  refine ⟨fun hc => ?_, fun hc => ?_⟩
  · have h := h.1 hc
    exact wp.mono (h G A ⟨L, P, rfl, hS⟩) (fun r G' q => qx_trans hx q)
  · have h := h.2 hc
    rw [l6_0_90 hS]
    refine ⟨hS.o (s6_60 hS), ?_⟩
    obtain ⟨hi1, h⟩ := h
    refine ⟨by first | (rw [(n6_60 hS)]; exact hi1) | exact (congrArg (vp_in _) (n6_60 hS)).mpr hi1 | exact hi1, ?_⟩
    refine ⟨fun hc => ?_, fun hc => ?_⟩
    · have h := h.1 hc
      exact wp.mono (h G A ⟨L, P, rfl, hS⟩) (fun r G' q => qx_trans hx q)
    · have h := h.2 hc
      have hS2 : Sh E (sI G (A 6 0) 91 ((gI G (A 6 0) 91) - 1)) A L P := Sh_sI (rfl : sI G (A 6 0) 91 ((gI G (A 6 0) 91) - 1) = sI G (A 6 0) 91 ((gI G (A 6 0) 91) - 1)) hS (s6_0 hS) (okT_0 rfl)
      have h := h (pl (sI G (A 6 0) 91 ((gI G (A 6 0) 91) - 1)) A L P) (pl_sI (rfl : sI G (A 6 0) 91 ((gI G (A 6 0) 91) - 1) = sI G (A 6 0) 91 ((gI G (A 6 0) 91) - 1)) hS (s6_0 hS))
      have hx2 : Xt (pl G A L P) A (pl (sI G (A 6 0) 91 ((gI G (A 6 0) 91) - 1)) A L P) A := Xt_sI (rfl : sI G (A 6 0) 91 ((gI G (A 6 0) 91) - 1) = sI G (A 6 0) 91 ((gI G (A 6 0) 91) - 1)) hx
      exact wp.mono (h (sI G (A 6 0) 91 ((gI G (A 6 0) 91) - 1)) A ⟨L, P, rfl, hS2⟩) (fun r G' q => qx_trans hx2 q)
theorem w_X12_crash_66 {E : EE} {d : Nat} {V : VH} {K : Int32 → VH → Prop} {x1 : Int32} {x2 : Int64}  (h : vp_in (vI V 6 0 91) 101 ∧ (∀ V2 : VH, V2 = wrI V 6 0 89 (vI V 6 60 (Int32.toNatClampNeg (vI V 6 0 91))) → ∀ V3 : VH, V3 = wrI V2 6 0 92 (-1) → vwp E d M_X12_crash 84 [some (sl 6 0), some (wi x1), none, none] [] V3 (zi K))) : vwp E d M_X12_crash 66 [some (sl 6 0), some (wi x1), some (wj x2), none] [] V (zi K) := by
  intro G A hR
  obtain ⟨L, P, rfl, hS⟩ := hR
  have hx := Xt.refl (V := pl G A L P) (A := A)
  show wp E d M_X12_crash 66 [some (vr (A 6 0)), some (vi x1), some (vj x2), none] [] G _
  refine v_X12_crash_66 ?_
  refine ⟨hS.o (s6_0 hS), ?_⟩
  rw [l6_0_90 hS]
  refine ⟨hS.o (s6_60 hS), ?_⟩
  obtain ⟨hi1, h⟩ := h
  refine ⟨by first | (rw [(n6_60 hS)]; exact hi1) | exact (congrArg (vp_in _) (n6_60 hS)).mpr hi1 | exact hi1, ?_⟩
  intro G2 eG2
  have hS2 : Sh E G2 A L P := Sh_sI eG2 hS (s6_0 hS) (okT_0 rfl)
  have h := h (pl G2 A L P) (pl_sI eG2 hS (s6_0 hS))
  have hx2 : Xt (pl G A L P) A (pl G2 A L P) A := Xt_sI eG2 hx
  intro G3 eG3
  have hS3 : Sh E G3 A L P := Sh_sI eG3 hS2 (s6_0 hS2) (okT_0 rfl)
  have h := h (pl G3 A L P) (pl_sI eG3 hS2 (s6_0 hS2))
  have hx3 : Xt (pl G A L P) A (pl G3 A L P) A := Xt_sI eG3 hx2
  exact wp.mono (h G3 A ⟨L, P, rfl, hS3⟩) (fun r G' q => qx_trans hx3 q)
theorem w_X12_crash_84 {E : EE} {d : Nat} {V : VH} {K : Int32 → VH → Prop} {x1 : Int32}  (h : K (vI V 6 0 91) V) : vwp E d M_X12_crash 84 [some (sl 6 0), some (wi x1), none, none] [] V (zi K) := by
  intro G A hR
  obtain ⟨L, P, rfl, hS⟩ := hR
  have hx := Xt.refl (V := pl G A L P) (A := A)
  show wp E d M_X12_crash 84 [some (vr (A 6 0)), some (vi x1), none, none] [] G _
  refine v_X12_crash_84 ?_
  refine ⟨hS.o (s6_0 hS), ?_⟩
  exact qx_i hS hx h
theorem w_X12_byteAt_0 {E : EE} {d : Nat} {V : VH} {K : Int32 → VH → Prop} {x1 : Int32}  (h : (x1 < 0 → vwp E d M_X12_byteAt 12 [some (sl 6 0), some (wi x1)] [] V (zi K)) ∧ (¬ (x1 < 0) → (x1 < (vI V 6 0 89) → vp_in x1 20000 ∧ (K ((vI V 6 59 (Int32.toNatClampNeg x1)) &&& 255) V)) ∧ (¬ (x1 < (vI V 6 0 89)) → vwp E d M_X12_byteAt 12 [some (sl 6 0), some (wi x1)] [] V (zi K)))) : vMI E d M_X12_byteAt [sl 6 0, wi x1] V K := by
  intro G A hR
  obtain ⟨L, P, rfl, hS⟩ := hR
  have hx := Xt.refl (V := pl G A L P) (A := A)
  show wpM E d M_X12_byteAt [vr (A 6 0), vi x1] G _
  refine wpM_of mk_X12_byteAt (Nat.le_of_ble_eq_true rfl) ?_
  refine v_X12_byteAt_0 ?_
  refine ⟨fun hc => ?_, fun hc => ?_⟩
  · have h := h.1 hc
    exact wp.mono (h G A ⟨L, P, rfl, hS⟩) (fun r G' q => qx_trans hx q)
  · have h := h.2 hc
    refine ⟨hS.o (s6_0 hS), ?_⟩
    refine ⟨fun hc => ?_, fun hc => ?_⟩
    · have h := h.1 hc
      rw [l6_0_88 hS]
      refine ⟨hS.o (s6_59 hS), ?_⟩
      obtain ⟨hi1, h⟩ := h
      refine ⟨by first | (rw [(n6_59 hS)]; exact hi1) | exact (congrArg (vp_in _) (n6_59 hS)).mpr hi1 | exact hi1, ?_⟩
      exact qx_i hS hx h
    · have h := h.2 hc
      exact wp.mono (h G A ⟨L, P, rfl, hS⟩) (fun r G' q => qx_trans hx q)
theorem w_X12_byteAt_12 {E : EE} {d : Nat} {V : VH} {K : Int32 → VH → Prop} {x1 : Int32}  (h : K (-1) V) : vwp E d M_X12_byteAt 12 [some (sl 6 0), some (wi x1)] [] V (zi K) := by
  intro G A hR
  obtain ⟨L, P, rfl, hS⟩ := hR
  have hx := Xt.refl (V := pl G A L P) (A := A)
  show wp E d M_X12_byteAt 12 [some (vr (A 6 0)), some (vi x1)] [] G _
  refine v_X12_byteAt_12 ?_
  exact qx_i hS hx h
theorem w_X12_size_0 {E : EE} {d : Nat} {V : VH} {K : Int32 → VH → Prop}   (h : K (vI V 6 0 89) V) : vMI E d M_X12_size [sl 6 0] V K := by
  intro G A hR
  obtain ⟨L, P, rfl, hS⟩ := hR
  have hx := Xt.refl (V := pl G A L P) (A := A)
  show wpM E d M_X12_size [vr (A 6 0)] G _
  refine wpM_of mk_X12_size (Nat.le_of_ble_eq_true rfl) ?_
  refine v_X12_size_0 ?_
  refine ⟨hS.o (s6_0 hS), ?_⟩
  exact qx_i hS hx h
theorem w_X12_rows_0 {E : EE} {d : Nat} {V : VH} {K : Int32 → VH → Prop}   (h : K (vI V 6 0 91) V) : vMI E d M_X12_rows [sl 6 0] V K := by
  intro G A hR
  obtain ⟨L, P, rfl, hS⟩ := hR
  have hx := Xt.refl (V := pl G A L P) (A := A)
  show wpM E d M_X12_rows [vr (A 6 0)] G _
  refine wpM_of mk_X12_rows (Nat.le_of_ble_eq_true rfl) ?_
  refine v_X12_rows_0 ?_
  refine ⟨hS.o (s6_0 hS), ?_⟩
  exact qx_i hS hx h
theorem w_X12_load_0 {E : EE} {d : Nat} {V : VH} {K : Int32 → VH → Prop} {x1 : Int32}  (h0 : 0 < d) (h : (x1 < 0 → K (-1) V) ∧ (¬ (x1 < 0) → (x1 < (vI V 6 0 91) → vMI E (d - 1) M_X12_freeSlot [sl 6 0] V (fun r1 V1 => (¬ r1 = 4 → ∀ V3 : VH, V3 = wrI V1 6 0 93 1 → vp_in x1 101 ∧ (vp_in (x1 + 1) 101 ∧ (vMI E (d - 1) M_X12_readRow [sl 6 0, wi (vI V3 6 60 (Int32.toNatClampNeg x1)), wi (vI V3 6 60 (Int32.toNatClampNeg (x1 + 1))), wi r1] V3 (fun r6 V6 => vp_in r1 5 ∧ (∀ V9 : VH, V9 = wrI V6 6 2 (Int32.toNatClampNeg r1) (nz 1) → K r1 V9))))) ∧ (r1 = 4 → K (-100000) V1))) ∧ (¬ (x1 < (vI V 6 0 91)) → K (-1) V))) : vMI E d M_X12_load [sl 6 0, wi x1] V K := by
  intro G A hR
  obtain ⟨L, P, rfl, hS⟩ := hR
  have hx := Xt.refl (V := pl G A L P) (A := A)
  show wpM E d M_X12_load [vr (A 6 0), vi x1] G _
  refine wpM_of mk_X12_load (Nat.le_of_ble_eq_true rfl) ?_
  refine v_X12_load_0 h0 ?_
  refine ⟨fun hc => ?_, fun hc => ?_⟩
  · have h := h.1 hc
    exact qx_i hS hx h
  · have h := h.2 hc
    refine ⟨hS.o (s6_0 hS), ?_⟩
    refine ⟨fun hc => ?_, fun hc => ?_⟩
    · have h := h.1 hc
      refine wpM.mono (h G A ⟨L, P, rfl, hS⟩) (fun rr1 G1 hr => ?_)
      obtain ⟨A1, W1, w1, ⟨L1, P1, rfl, hS1⟩, hy1, rfl, r1, rfl, h⟩ := hr
      refine ⟨r1, rfl, ?_⟩
      have hx1 := Xt.trans hx hy1
      have ee2 : A1 6 0 = A 6 0 := hy1.2 _ _ hS.1.2.1 (((n6_0 hS1)).trans ((n6_0 hS)).symm)
      try rw [← ee2]
      refine ⟨fun hc => ?_, fun hc => ?_⟩
      · have h := h.1 hc
        refine ⟨hS1.o (s6_0 hS1), ?_⟩
        intro G3 eG3
        have hS3 : Sh E G3 A1 L1 P1 := Sh_sI eG3 hS1 (s6_0 hS1) (okT_2 rfl (Or.inr rfl))
        have h := h (pl G3 A1 L1 P1) (pl_sI eG3 hS1 (s6_0 hS1))
        have hx3 : Xt (pl G A L P) A (pl G3 A1 L1 P1) A1 := Xt_sI eG3 hx1
        rw [l6_0_90 hS3]
        refine ⟨hS3.o (s6_60 hS3), ?_⟩
        obtain ⟨hi4, h⟩ := h
        refine ⟨by first | (rw [(n6_60 hS3)]; exact hi4) | exact (congrArg (vp_in _) (n6_60 hS3)).mpr hi4 | exact hi4, ?_⟩
        obtain ⟨hi5, h⟩ := h
        refine ⟨by first | (rw [(n6_60 hS3)]; exact hi5) | exact (congrArg (vp_in _) (n6_60 hS3)).mpr hi5 | exact hi5, ?_⟩
        refine wpM.mono (h G3 A1 ⟨L1, P1, rfl, hS3⟩) (fun rr6 G6 hr => ?_)
        obtain ⟨A6, W6, w6, ⟨L6, P6, rfl, hS6⟩, hy6, rfl, r6, rfl, h⟩ := hr
        refine ⟨r6, rfl, ?_⟩
        have hx6 := Xt.trans hx3 hy6
        have ee7 : A6 6 0 = A1 6 0 := hy6.2 _ _ hS3.1.2.1 (((n6_0 hS6)).trans ((n6_0 hS3)).symm)
        try rw [← ee7]
        refine ⟨hS6.o (s6_0 hS6), ?_⟩
        rw [l6_0_5 hS6]
        refine ⟨hS6.o (s6_2 hS6), ?_⟩
        obtain ⟨hi8, h⟩ := h
        refine ⟨by first | (rw [(n6_2 hS6)]; exact hi8) | exact (congrArg (vp_in _) (n6_2 hS6)).mpr hi8 | exact hi8, ?_⟩
        intro G9 eG9
        have hS9 : Sh E G9 A6 L6 P6 := Sh_sI eG9 hS6 (s6_2 hS6) (okT_nz rfl)
        have h := h (pl G9 A6 L6 P6) (pl_sI eG9 hS6 (s6_2 hS6))
        have hx9 : Xt (pl G A L P) A (pl G9 A6 L6 P6) A6 := Xt_sI eG9 hx6
        exact qx_i hS9 hx9 h
      · have h := h.2 hc
        exact qx_i hS1 hx1 h
    · have h := h.2 hc
      exact qx_i hS hx h
theorem w_X12_freeSlot_0 {E : EE} {d : Nat} {V : VH} {K : Int32 → VH → Prop}   (h : vwp E d M_X12_freeSlot 2 [some (sl 6 0), some (wi 0)] [] V (zi K)) : vMI E d M_X12_freeSlot [sl 6 0] V K := by
  intro G A hR
  obtain ⟨L, P, rfl, hS⟩ := hR
  have hx := Xt.refl (V := pl G A L P) (A := A)
  show wpM E d M_X12_freeSlot [vr (A 6 0)] G _
  refine wpM_of mk_X12_freeSlot (Nat.le_of_ble_eq_true rfl) ?_
  refine v_X12_freeSlot_0 ?_
  exact wp.mono (h G A ⟨L, P, rfl, hS⟩) (fun r G' q => qx_trans hx q)
theorem w_X12_freeSlot_2 {E : EE} {d : Nat} {V : VH} {K : Int32 → VH → Prop} {x1 : Int32}  (h : (4 ≤ x1 → K x1 V) ∧ (¬ (4 ≤ x1) → vp_in x1 5 ∧ (((vI V 6 2 (Int32.toNatClampNeg x1)) = 0 → K x1 V) ∧ (¬ ((vI V 6 2 (Int32.toNatClampNeg x1)) = 0) → vwp E d M_X12_freeSlot 2 [some (sl 6 0), some (wi (x1 + 1))] [] V (zi K))))) : vwp E d M_X12_freeSlot 2 [some (sl 6 0), some (wi x1)] [] V (zi K) := by
  intro G A hR
  obtain ⟨L, P, rfl, hS⟩ := hR
  have hx := Xt.refl (V := pl G A L P) (A := A)
  show wp E d M_X12_freeSlot 2 [some (vr (A 6 0)), some (vi x1)] [] G _
  refine v_X12_freeSlot_2 ?_
  refine ⟨fun hc => ?_, fun hc => ?_⟩
  · have h := h.1 hc
    exact qx_i hS hx h
  · have h := h.2 hc
    refine ⟨hS.o (s6_0 hS), ?_⟩
    rw [l6_0_5 hS]
    refine ⟨hS.o (s6_2 hS), ?_⟩
    obtain ⟨hi1, h⟩ := h
    refine ⟨by first | (rw [(n6_2 hS)]; exact hi1) | exact (congrArg (vp_in _) (n6_2 hS)).mpr hi1 | exact hi1, ?_⟩
    refine ⟨fun hc => ?_, fun hc => ?_⟩
    · have h := h.1 hc
      exact qx_i hS hx h
    · have h := h.2 hc
      exact wp.mono (h G A ⟨L, P, rfl, hS⟩) (fun r G' q => qx_trans hx q)
theorem w_X12_save_0 {E : EE} {d : Nat} {V : VH} {K : Int32 → VH → Prop} {x1 : Int32}  (h0 : 0 < d) (h : vMI E (d - 1) M_X12_isProblem [sl 6 0, wi x1] V (fun r1 V1 => (¬ r1 = 0 → ((vI V1 6 0 91) = 100 → K (-100000) V1) ∧ (¬ ((vI V1 6 0 91) = 100) → vMI E (d - 1) M_X12_needOf [sl 6 0, wi x1] V1 (fun r3 V3 => (((vI V1 6 0 89) + r3) ≤ 19990 → vMV E (d - 1) M_X12_storeBytes [sl 6 0, wj 211, wi 1] V3 (fun V5 => vp_in x1 5 ∧ (vMV E (d - 1) M_X12_storeBytes [sl 6 0, wj (Int32.toInt64 (vI V5 6 4 (Int32.toNatClampNeg x1))), wi 2] V5 (fun V8 => vwp E d M_X12_save 65 [some (sl 6 0), some (wi x1), some (wi (vI V3 6 0 89)), some (wi 0), none, none, none] [] V8 (zi K))))) ∧ (¬ (((vI V1 6 0 89) + r3) ≤ 19990) → K (-100000) V3)))) ∧ (r1 = 0 → K (-1) V1))) : vMI E d M_X12_save [sl 6 0, wi x1] V K := by
  intro G A hR
  obtain ⟨L, P, rfl, hS⟩ := hR
  have hx := Xt.refl (V := pl G A L P) (A := A)
  show wpM E d M_X12_save [vr (A 6 0), vi x1] G _
  refine wpM_of mk_X12_save (Nat.le_of_ble_eq_true rfl) ?_
  refine v_X12_save_0 h0 ?_
  refine ⟨hS.o (s6_0 hS), ?_⟩
  refine wpM.mono (h G A ⟨L, P, rfl, hS⟩) (fun rr1 G1 hr => ?_)
  obtain ⟨A1, W1, w1, ⟨L1, P1, rfl, hS1⟩, hy1, rfl, r1, rfl, h⟩ := hr
  refine ⟨r1, rfl, ?_⟩
  have hx1 := Xt.trans hx hy1
  have ee2 : A1 6 0 = A 6 0 := hy1.2 _ _ hS.1.2.1 (((n6_0 hS1)).trans ((n6_0 hS)).symm)
  try rw [← ee2]
  refine ⟨fun hc => ?_, fun hc => ?_⟩
  · have h := h.1 hc
    refine ⟨hS1.o (s6_0 hS1), ?_⟩
    refine ⟨fun hc => ?_, fun hc => ?_⟩
    · have h := h.1 hc
      exact qx_i hS1 hx1 h
    · have h := h.2 hc
      refine wpM.mono (h G1 A1 ⟨L1, P1, rfl, hS1⟩) (fun rr3 G3 hr => ?_)
      obtain ⟨A3, W3, w3, ⟨L3, P3, rfl, hS3⟩, hy3, rfl, r3, rfl, h⟩ := hr
      refine ⟨r3, rfl, ?_⟩
      have hx3 := Xt.trans hx1 hy3
      have ee4 : A3 6 0 = A1 6 0 := hy3.2 _ _ hS1.1.2.1 (((n6_0 hS3)).trans ((n6_0 hS1)).symm)
      try rw [← ee4]
      try rw [show gI G1 (A3 6 0) = gI G1 (A1 6 0) from by rw [ee4]]
      refine ⟨fun hc => ?_, fun hc => ?_⟩
      · have h := h.1 hc
        refine ⟨hS3.o (s6_0 hS3), ?_⟩
        refine wpM.mono (h G3 A3 ⟨L3, P3, rfl, hS3⟩) (fun rr5 G5 hr => ?_)
        obtain ⟨A5, W5, w5, ⟨L5, P5, rfl, hS5⟩, hy5, rfl, rfl, h⟩ := hr
        refine ⟨rfl, ?_⟩
        have hx5 := Xt.trans hx3 hy5
        have ee6 : A5 6 0 = A3 6 0 := hy5.2 _ _ hS3.1.2.1 (((n6_0 hS5)).trans ((n6_0 hS3)).symm)
        try rw [← ee6]
        try rw [show gI G3 (A5 6 0) = gI G3 (A3 6 0) from by rw [ee6]]
        refine ⟨hS5.o (s6_0 hS5), ?_⟩
        rw [l6_0_7 hS5]
        refine ⟨hS5.o (s6_4 hS5), ?_⟩
        obtain ⟨hi7, h⟩ := h
        refine ⟨by first | (rw [(n6_4 hS5)]; exact hi7) | exact (congrArg (vp_in _) (n6_4 hS5)).mpr hi7 | exact hi7, ?_⟩
        refine wpM.mono (h G5 A5 ⟨L5, P5, rfl, hS5⟩) (fun rr8 G8 hr => ?_)
        obtain ⟨A8, W8, w8, ⟨L8, P8, rfl, hS8⟩, hy8, rfl, rfl, h⟩ := hr
        refine ⟨rfl, ?_⟩
        have hx8 := Xt.trans hx5 hy8
        have ee9 : A8 6 0 = A5 6 0 := hy8.2 _ _ hS5.1.2.1 (((n6_0 hS8)).trans ((n6_0 hS5)).symm)
        try rw [← ee9]
        exact wp.mono (h G8 A8 ⟨L8, P8, rfl, hS8⟩) (fun r G' q => qx_trans hx8 q)
      · have h := h.2 hc
        exact qx_i hS3 hx3 h
  · have h := h.2 hc
    exact qx_i hS1 hx1 h
theorem w_X12_save_65 {E : EE} {d : Nat} {V : VH} {K : Int32 → VH → Prop} {x1 : Int32} {x2 : Int32} {x3 : Int32}  (h0 : 0 < d) (h : vp_in x1 5 ∧ (((vI V 6 4 (Int32.toNatClampNeg x1)) ≤ x3 → vwp E d M_X12_save 101 [some (sl 6 0), some (wi x1), some (wi x2), some (wi 0), none, none, none] [] V (zi K)) ∧ (¬ ((vI V 6 4 (Int32.toNatClampNeg x1)) ≤ x3) → vp_in ((20000 * x1) + x3) 100000 ∧ (vMV E (d - 1) M_X12_storeBytes [sl 6 0, wj (Int32.toInt64 (vI V 6 3 (Int32.toNatClampNeg ((20000 * x1) + x3)))), wi 1] V (fun V3 => vwp E d M_X12_save 65 [some (sl 6 0), some (wi x1), some (wi x2), some (wi (x3 + 1)), none, none, none] [] V3 (zi K)))))) : vwp E d M_X12_save 65 [some (sl 6 0), some (wi x1), some (wi x2), some (wi x3), none, none, none] [] V (zi K) := by
  intro G A hR
  obtain ⟨L, P, rfl, hS⟩ := hR
  have hx := Xt.refl (V := pl G A L P) (A := A)
  show wp E d M_X12_save 65 [some (vr (A 6 0)), some (vi x1), some (vi x2), some (vi x3), none, none, none] [] G _
  refine v_X12_save_65 h0 ?_
  refine ⟨hS.o (s6_0 hS), ?_⟩
  rw [l6_0_7 hS]
  refine ⟨hS.o (s6_4 hS), ?_⟩
  obtain ⟨hi1, h⟩ := h
  refine ⟨by first | (rw [(n6_4 hS)]; exact hi1) | exact (congrArg (vp_in _) (n6_4 hS)).mpr hi1 | exact hi1, ?_⟩
  refine ⟨fun hc => ?_, fun hc => ?_⟩
  · have h := h.1 hc
    exact wp.mono (h G A ⟨L, P, rfl, hS⟩) (fun r G' q => qx_trans hx q)
  · have h := h.2 hc
    rw [l6_0_6 hS]
    refine ⟨hS.o (s6_3 hS), ?_⟩
    obtain ⟨hi2, h⟩ := h
    refine ⟨by first | (rw [(n6_3 hS)]; exact hi2) | exact (congrArg (vp_in _) (n6_3 hS)).mpr hi2 | exact hi2, ?_⟩
    refine wpM.mono (h G A ⟨L, P, rfl, hS⟩) (fun rr3 G3 hr => ?_)
    obtain ⟨A3, W3, w3, ⟨L3, P3, rfl, hS3⟩, hy3, rfl, rfl, h⟩ := hr
    refine ⟨rfl, ?_⟩
    have hx3 := Xt.trans hx hy3
    have ee4 : A3 6 0 = A 6 0 := hy3.2 _ _ hS.1.2.1 (((n6_0 hS3)).trans ((n6_0 hS)).symm)
    try rw [← ee4]
    exact wp.mono (h G3 A3 ⟨L3, P3, rfl, hS3⟩) (fun r G' q => qx_trans hx3 q)
theorem w_X12_save_101 {E : EE} {d : Nat} {V : VH} {K : Int32 → VH → Prop} {x1 : Int32} {x2 : Int32} {x3 : Int32}  (h0 : 0 < d) (h : vp_in (4 * x1) 20 ∧ (((vI V 6 14 (Int32.toNatClampNeg (4 * x1))) ≤ x3 → vwp E d M_X12_save 141 [some (sl 6 0), some (wi x1), some (wi x2), some (wi 0), some (wi 0), none, none] [] V (zi K)) ∧ (¬ ((vI V 6 14 (Int32.toNatClampNeg (4 * x1))) ≤ x3) → vp_in ((16 * x1) + x3) 80 ∧ (vMV E (d - 1) M_X12_storeBytes [sl 6 0, wj (Int32.toInt64 (vI V 6 15 (Int32.toNatClampNeg ((16 * x1) + x3)))), wi 4] V (fun V3 => vwp E d M_X12_save 101 [some (sl 6 0), some (wi x1), some (wi x2), some (wi (x3 + 1)), none, none, none] [] V3 (zi K)))))) : vwp E d M_X12_save 101 [some (sl 6 0), some (wi x1), some (wi x2), some (wi x3), none, none, none] [] V (zi K) := by
  intro G A hR
  obtain ⟨L, P, rfl, hS⟩ := hR
  have hx := Xt.refl (V := pl G A L P) (A := A)
  show wp E d M_X12_save 101 [some (vr (A 6 0)), some (vi x1), some (vi x2), some (vi x3), none, none, none] [] G _
  refine v_X12_save_101 h0 ?_
  refine ⟨hS.o (s6_0 hS), ?_⟩
  rw [l6_0_17 hS]
  refine ⟨hS.o (s6_14 hS), ?_⟩
  obtain ⟨hi1, h⟩ := h
  refine ⟨by first | (rw [(n6_14 hS)]; exact hi1) | exact (congrArg (vp_in _) (n6_14 hS)).mpr hi1 | exact hi1, ?_⟩
  refine ⟨fun hc => ?_, fun hc => ?_⟩
  · have h := h.1 hc
    exact wp.mono (h G A ⟨L, P, rfl, hS⟩) (fun r G' q => qx_trans hx q)
  · have h := h.2 hc
    rw [l6_0_18 hS]
    refine ⟨hS.o (s6_15 hS), ?_⟩
    obtain ⟨hi2, h⟩ := h
    refine ⟨by first | (rw [(n6_15 hS)]; exact hi2) | exact (congrArg (vp_in _) (n6_15 hS)).mpr hi2 | exact hi2, ?_⟩
    refine wpM.mono (h G A ⟨L, P, rfl, hS⟩) (fun rr3 G3 hr => ?_)
    obtain ⟨A3, W3, w3, ⟨L3, P3, rfl, hS3⟩, hy3, rfl, rfl, h⟩ := hr
    refine ⟨rfl, ?_⟩
    have hx3 := Xt.trans hx hy3
    have ee4 : A3 6 0 = A 6 0 := hy3.2 _ _ hS.1.2.1 (((n6_0 hS3)).trans ((n6_0 hS)).symm)
    try rw [← ee4]
    exact wp.mono (h G3 A3 ⟨L3, P3, rfl, hS3⟩) (fun r G' q => qx_trans hx3 q)
theorem w_X12_save_141 {E : EE} {d : Nat} {V : VH} {K : Int32 → VH → Prop} {x1 : Int32} {x2 : Int32} {x3 : Int32} {x4 : Int32}  (h0 : 0 < d) (h : vMI E (d - 1) M_X12_vars [sl 6 0, wi x1] V (fun r1 V1 => (r1 ≤ x4 → vMV E (d - 1) M_X12_storeBytes [sl 6 0, wj (Int32.toInt64 x3), wi 2] V1 (fun V3 => vwp E d M_X12_save 248 [some (sl 6 0), some (wi x1), some (wi x2), some (wi x3), some (wj 0), none, some (wi x2)] [] V3 (zi K))) ∧ (¬ (r1 ≤ x4) → vp_in ((12 * x1) + x4) 60 ∧ (vp_in ((20 * ((12 * x1) + x4)) + (vI V1 6 19 (Int32.toNatClampNeg ((12 * x1) + x4)))) 1200 ∧ (vMV E (d - 1) M_X12_storeBytes [sl 6 0, wj (Int32.toInt64 (vI V1 6 18 (Int32.toNatClampNeg ((20 * ((12 * x1) + x4)) + (vI V1 6 19 (Int32.toNatClampNeg ((12 * x1) + x4))))))), wi 1] V1 (fun V7 => vp_in ((12 * x1) + x4) 60 ∧ (vMV E (d - 1) M_X12_storeBytes [sl 6 0, wj (Int32.toInt64 (vI V7 6 20 (Int32.toNatClampNeg ((12 * x1) + x4)))), wi 2] V7 (fun V10 => vp_in ((12 * x1) + x4) 60 ∧ (((vI V10 6 21 (Int32.toNatClampNeg ((12 * x1) + x4))) = 0 → vwp E d M_X12_save 227 [some (sl 6 0), some (wi x1), some (wi x2), some (wi x3), some (wi x4), none, none] [wi 0, wi x3] V10 (zi K)) ∧ (¬ ((vI V10 6 21 (Int32.toNatClampNeg ((12 * x1) + x4))) = 0) → vwp E d M_X12_save 227 [some (sl 6 0), some (wi x1), some (wi x2), some (wi x3), some (wi x4), none, none] [wi (1 <<< (x4 &&& 31)), wi x3] V10 (zi K))))))))))) : vwp E d M_X12_save 141 [some (sl 6 0), some (wi x1), some (wi x2), some (wi x3), some (wi x4), none, none] [] V (zi K) := by
  intro G A hR
  obtain ⟨L, P, rfl, hS⟩ := hR
  have hx := Xt.refl (V := pl G A L P) (A := A)
  show wp E d M_X12_save 141 [some (vr (A 6 0)), some (vi x1), some (vi x2), some (vi x3), some (vi x4), none, none] [] G _
  refine v_X12_save_141 h0 ?_
  refine ⟨hS.o (s6_0 hS), ?_⟩
  refine wpM.mono (h G A ⟨L, P, rfl, hS⟩) (fun rr1 G1 hr => ?_)
  obtain ⟨A1, W1, w1, ⟨L1, P1, rfl, hS1⟩, hy1, rfl, r1, rfl, h⟩ := hr
  refine ⟨r1, rfl, ?_⟩
  have hx1 := Xt.trans hx hy1
  have ee2 : A1 6 0 = A 6 0 := hy1.2 _ _ hS.1.2.1 (((n6_0 hS1)).trans ((n6_0 hS)).symm)
  try rw [← ee2]
  refine ⟨fun hc => ?_, fun hc => ?_⟩
  · have h := h.1 hc
    refine ⟨hS1.o (s6_0 hS1), ?_⟩
    refine wpM.mono (h G1 A1 ⟨L1, P1, rfl, hS1⟩) (fun rr3 G3 hr => ?_)
    obtain ⟨A3, W3, w3, ⟨L3, P3, rfl, hS3⟩, hy3, rfl, rfl, h⟩ := hr
    refine ⟨rfl, ?_⟩
    have hx3 := Xt.trans hx1 hy3
    have ee4 : A3 6 0 = A1 6 0 := hy3.2 _ _ hS1.1.2.1 (((n6_0 hS3)).trans ((n6_0 hS1)).symm)
    try rw [← ee4]
    exact wp.mono (h G3 A3 ⟨L3, P3, rfl, hS3⟩) (fun r G' q => qx_trans hx3 q)
  · have h := h.2 hc
    refine ⟨hS1.o (s6_0 hS1), ?_⟩
    rw [l6_0_21 hS1]
    rw [l6_0_22 hS1]
    refine ⟨hS1.o (s6_19 hS1), ?_⟩
    obtain ⟨hi5, h⟩ := h
    refine ⟨by first | (rw [(n6_19 hS1)]; exact hi5) | exact (congrArg (vp_in _) (n6_19 hS1)).mpr hi5 | exact hi5, ?_⟩
    refine ⟨hS1.o (s6_18 hS1), ?_⟩
    obtain ⟨hi6, h⟩ := h
    refine ⟨by first | (rw [(n6_18 hS1)]; exact hi6) | exact (congrArg (vp_in _) (n6_18 hS1)).mpr hi6 | exact hi6, ?_⟩
    refine wpM.mono (h G1 A1 ⟨L1, P1, rfl, hS1⟩) (fun rr7 G7 hr => ?_)
    obtain ⟨A7, W7, w7, ⟨L7, P7, rfl, hS7⟩, hy7, rfl, rfl, h⟩ := hr
    refine ⟨rfl, ?_⟩
    have hx7 := Xt.trans hx1 hy7
    have ee8 : A7 6 0 = A1 6 0 := hy7.2 _ _ hS1.1.2.1 (((n6_0 hS7)).trans ((n6_0 hS1)).symm)
    try rw [← ee8]
    refine ⟨hS7.o (s6_0 hS7), ?_⟩
    rw [l6_0_23 hS7]
    refine ⟨hS7.o (s6_20 hS7), ?_⟩
    obtain ⟨hi9, h⟩ := h
    refine ⟨by first | (rw [(n6_20 hS7)]; exact hi9) | exact (congrArg (vp_in _) (n6_20 hS7)).mpr hi9 | exact hi9, ?_⟩
    refine wpM.mono (h G7 A7 ⟨L7, P7, rfl, hS7⟩) (fun rr10 G10 hr => ?_)
    obtain ⟨A10, W10, w10, ⟨L10, P10, rfl, hS10⟩, hy10, rfl, rfl, h⟩ := hr
    refine ⟨rfl, ?_⟩
    have hx10 := Xt.trans hx7 hy10
    have ee11 : A10 6 0 = A7 6 0 := hy10.2 _ _ hS7.1.2.1 (((n6_0 hS10)).trans ((n6_0 hS7)).symm)
    try rw [← ee11]
    refine ⟨hS10.o (s6_0 hS10), ?_⟩
    rw [l6_0_24 hS10]
    refine ⟨hS10.o (s6_21 hS10), ?_⟩
    obtain ⟨hi12, h⟩ := h
    refine ⟨by first | (rw [(n6_21 hS10)]; exact hi12) | exact (congrArg (vp_in _) (n6_21 hS10)).mpr hi12 | exact hi12, ?_⟩
    refine ⟨fun hc => ?_, fun hc => ?_⟩
    · have h := h.1 hc
      exact wp.mono (h G10 A10 ⟨L10, P10, rfl, hS10⟩) (fun r G' q => qx_trans hx10 q)
    · have h := h.2 hc
      exact wp.mono (h G10 A10 ⟨L10, P10, rfl, hS10⟩) (fun r G' q => qx_trans hx10 q)
theorem w_X12_save_227 {E : EE} {d : Nat} {V : VH} {K : Int32 → VH → Prop} {x1 : Int32} {x2 : Int32} {x3 : Int32} {x4 : Int32} {t0 : Int32} {t1 : Int32}  (h : vwp E d M_X12_save 141 [some (sl 6 0), some (wi x1), some (wi x2), some (wi (t0 ||| t1)), some (wi (x4 + 1)), none, none] [] V (zi K)) : vwp E d M_X12_save 227 [some (sl 6 0), some (wi x1), some (wi x2), some (wi x3), some (wi x4), none, none] [wi t1, wi t0] V (zi K) := by
  intro G A hR
  obtain ⟨L, P, rfl, hS⟩ := hR
  have hx := Xt.refl (V := pl G A L P) (A := A)
  show wp E d M_X12_save 227 [some (vr (A 6 0)), some (vi x1), some (vi x2), some (vi x3), some (vi x4), none, none] [vi t1, vi t0] G _
  refine v_X12_save_227 ?_
  exact wp.mono (h G A ⟨L, P, rfl, hS⟩) (fun r G' q => qx_trans hx q)
theorem w_X12_save_248 {E : EE} {d : Nat} {V : VH} {K : Int32 → VH → Prop} {x1 : Int32} {x2 : Int32} {x3 : Int32} {x4 : Int64} {x6 : Int32}  (h0 : 0 < d) (h : ((vI V 6 0 89) ≤ x6 → vMV E (d - 1) M_X12_storeBytes [sl 6 0, wj x4, wi 8] V (fun V1 => ∀ V3 : VH, V3 = wrI V1 6 0 92 (vI V1 6 0 91) → vp_in (vI V3 6 0 91) 101 ∧ (∀ V5 : VH, V5 = wrI V3 6 60 (Int32.toNatClampNeg (vI V3 6 0 91)) x2 → ∀ V6 : VH, V6 = wrI V5 6 0 91 ((vI V5 6 0 91) + 1) → vp_in (vI V6 6 0 91) 101 ∧ (∀ V8 : VH, V8 = wrI V6 6 60 (Int32.toNatClampNeg (vI V6 6 0 91)) (vI V6 6 0 89) → K ((vI V8 6 0 91) - 1) V8)))) ∧ (¬ ((vI V 6 0 89) ≤ x6) → vp_in x6 20000 ∧ (vMJ E (d - 1) M_X12_mixed [wj x4, wi (vI V 6 59 (Int32.toNatClampNeg x6))] V (fun r10 V10 => vwp E d M_X12_save 248 [some (sl 6 0), some (wi x1), some (wi x2), some (wi x3), some (wj r10), none, some (wi (x6 + 1))] [] V10 (zi K))))) : vwp E d M_X12_save 248 [some (sl 6 0), some (wi x1), some (wi x2), some (wi x3), some (wj x4), none, some (wi x6)] [] V (zi K) := by
  intro G A hR
  obtain ⟨L, P, rfl, hS⟩ := hR
  have hx := Xt.refl (V := pl G A L P) (A := A)
  show wp E d M_X12_save 248 [some (vr (A 6 0)), some (vi x1), some (vi x2), some (vi x3), some (vj x4), none, some (vi x6)] [] G _
  refine v_X12_save_248 h0 ?_
  refine ⟨hS.o (s6_0 hS), ?_⟩
  refine ⟨fun hc => ?_, fun hc => ?_⟩
  · have h := h.1 hc
    refine wpM.mono (h G A ⟨L, P, rfl, hS⟩) (fun rr1 G1 hr => ?_)
    obtain ⟨A1, W1, w1, ⟨L1, P1, rfl, hS1⟩, hy1, rfl, rfl, h⟩ := hr
    refine ⟨rfl, ?_⟩
    have hx1 := Xt.trans hx hy1
    have ee2 : A1 6 0 = A 6 0 := hy1.2 _ _ hS.1.2.1 (((n6_0 hS1)).trans ((n6_0 hS)).symm)
    try rw [← ee2]
    refine ⟨hS1.o (s6_0 hS1), ?_⟩
    intro G3 eG3
    have hS3 : Sh E G3 A1 L1 P1 := Sh_sI eG3 hS1 (s6_0 hS1) (okT_0 rfl)
    have h := h (pl G3 A1 L1 P1) (pl_sI eG3 hS1 (s6_0 hS1))
    have hx3 : Xt (pl G A L P) A (pl G3 A1 L1 P1) A1 := Xt_sI eG3 hx1
    rw [l6_0_90 hS3]
    refine ⟨hS3.o (s6_60 hS3), ?_⟩
    obtain ⟨hi4, h⟩ := h
    refine ⟨by first | (rw [(n6_60 hS3)]; exact hi4) | exact (congrArg (vp_in _) (n6_60 hS3)).mpr hi4 | exact hi4, ?_⟩
    intro G5 eG5
    have hS5 : Sh E G5 A1 L1 P1 := Sh_sI eG5 hS3 (s6_60 hS3) (okT_0 rfl)
    have h := h (pl G5 A1 L1 P1) (pl_sI eG5 hS3 (s6_60 hS3))
    have hx5 : Xt (pl G A L P) A (pl G5 A1 L1 P1) A1 := Xt_sI eG5 hx3
    intro G6 eG6
    have hS6 : Sh E G6 A1 L1 P1 := Sh_sI eG6 hS5 (s6_0 hS5) (okT_0 rfl)
    have h := h (pl G6 A1 L1 P1) (pl_sI eG6 hS5 (s6_0 hS5))
    have hx6 : Xt (pl G A L P) A (pl G6 A1 L1 P1) A1 := Xt_sI eG6 hx5
    rw [l6_0_90 hS6]
    refine ⟨hS6.o (s6_60 hS6), ?_⟩
    obtain ⟨hi7, h⟩ := h
    refine ⟨by first | (rw [(n6_60 hS6)]; exact hi7) | exact (congrArg (vp_in _) (n6_60 hS6)).mpr hi7 | exact hi7, ?_⟩
    intro G8 eG8
    have hS8 : Sh E G8 A1 L1 P1 := Sh_sI eG8 hS6 (s6_60 hS6) (okT_0 rfl)
    have h := h (pl G8 A1 L1 P1) (pl_sI eG8 hS6 (s6_60 hS6))
    have hx8 : Xt (pl G A L P) A (pl G8 A1 L1 P1) A1 := Xt_sI eG8 hx6
    exact qx_i hS8 hx8 h
  · have h := h.2 hc
    rw [l6_0_88 hS]
    refine ⟨hS.o (s6_59 hS), ?_⟩
    obtain ⟨hi9, h⟩ := h
    refine ⟨by first | (rw [(n6_59 hS)]; exact hi9) | exact (congrArg (vp_in _) (n6_59 hS)).mpr hi9 | exact hi9, ?_⟩
    refine wpM.mono (h G A ⟨L, P, rfl, hS⟩) (fun rr10 G10 hr => ?_)
    obtain ⟨A10, W10, w10, ⟨L10, P10, rfl, hS10⟩, hy10, rfl, r10, rfl, h⟩ := hr
    refine ⟨r10, rfl, ?_⟩
    have hx10 := Xt.trans hx hy10
    have ee11 : A10 6 0 = A 6 0 := hy10.2 _ _ hS.1.2.1 (((n6_0 hS10)).trans ((n6_0 hS)).symm)
    try rw [← ee11]
    exact wp.mono (h G10 A10 ⟨L10, P10, rfl, hS10⟩) (fun r G' q => qx_trans hx10 q)
theorem w_X12_isProblem_0 {E : EE} {d : Nat} {V : VH} {K : Int32 → VH → Prop} {x1 : Int32}  (h : (x1 < 0 → K 0 V) ∧ (¬ (x1 < 0) → (4 ≤ x1 → K 0 V) ∧ (¬ (4 ≤ x1) → vp_in x1 5 ∧ (((vI V 6 2 (Int32.toNatClampNeg x1)) = 0 → K 0 V) ∧ (¬ ((vI V 6 2 (Int32.toNatClampNeg x1)) = 0) → K 1 V))))) : vMI E d M_X12_isProblem [sl 6 0, wi x1] V K := by
  intro G A hR
  obtain ⟨L, P, rfl, hS⟩ := hR
  have hx := Xt.refl (V := pl G A L P) (A := A)
  show wpM E d M_X12_isProblem [vr (A 6 0), vi x1] G _
  refine wpM_of mk_X12_isProblem (Nat.le_of_ble_eq_true rfl) ?_
  refine v_X12_isProblem_0 ?_
  refine ⟨fun hc => ?_, fun hc => ?_⟩
  · have h := h.1 hc
    exact qx_i hS hx h
  · have h := h.2 hc
    refine ⟨fun hc => ?_, fun hc => ?_⟩
    · have h := h.1 hc
      exact qx_i hS hx h
    · have h := h.2 hc
      refine ⟨hS.o (s6_0 hS), ?_⟩
      rw [l6_0_5 hS]
      refine ⟨hS.o (s6_2 hS), ?_⟩
      obtain ⟨hi1, h⟩ := h
      refine ⟨by first | (rw [(n6_2 hS)]; exact hi1) | exact (congrArg (vp_in _) (n6_2 hS)).mpr hi1 | exact hi1, ?_⟩
      refine ⟨fun hc => ?_, fun hc => ?_⟩
      · have h := h.1 hc
        exact qx_i hS hx h
      · have h := h.2 hc
        exact qx_i hS hx h
theorem w_X12_storeBytes_0 {E : EE} {d : Nat} {V : VH} {K : VH → Prop} {x1 : Int64} {x3 : Int32}  (h : vwp E d M_X12_storeBytes 5 [some (sl 6 0), some (wj x1), none, some (wi x3), some (wi (x3 - 1))] [] V (zv K)) : vMV E d M_X12_storeBytes [sl 6 0, wj x1, wi x3] V K := by
  intro G A hR
  obtain ⟨L, P, rfl, hS⟩ := hR
  have hx := Xt.refl (V := pl G A L P) (A := A)
  show wpM E d M_X12_storeBytes [vr (A 6 0), vj x1, vi x3] G _
  refine wpM_of mk_X12_storeBytes (Nat.le_of_ble_eq_true rfl) ?_
  refine v_X12_storeBytes_0 ?_
  exact wp.mono (h G A ⟨L, P, rfl, hS⟩) (fun r G' q => qx_trans hx q)
theorem w_X12_storeBytes_5 {E : EE} {d : Nat} {V : VH} {K : VH → Prop} {x1 : Int64} {x3 : Int32} {x4 : Int32}  (h : (x4 < 0 → K V) ∧ (¬ (x4 < 0) → vp_in (vI V 6 0 89) 20000 ∧ (∀ V2 : VH, V2 = wrI V 6 59 (Int32.toNatClampNeg (vI V 6 0 89)) (i2b (i2b (Int64.toInt32 (x1 >>> (Int32.toInt64 (8 * x4) &&& 63))))) → ∀ V3 : VH, V3 = wrI V2 6 0 89 ((vI V2 6 0 89) + 1) → vwp E d M_X12_storeBytes 5 [some (sl 6 0), some (wj x1), none, some (wi x3), some (wi (x4 + (-1)))] [] V3 (zv K)))) : vwp E d M_X12_storeBytes 5 [some (sl 6 0), some (wj x1), none, some (wi x3), some (wi x4)] [] V (zv K) := by
  intro G A hR
  obtain ⟨L, P, rfl, hS⟩ := hR
  have hx := Xt.refl (V := pl G A L P) (A := A)
  show wp E d M_X12_storeBytes 5 [some (vr (A 6 0)), some (vj x1), none, some (vi x3), some (vi x4)] [] G _
  refine v_X12_storeBytes_5 ?_
  refine ⟨fun hc => ?_, fun hc => ?_⟩
  · have h := h.1 hc
    exact qx_v hS hx h
  · have h := h.2 hc
    refine ⟨hS.o (s6_0 hS), ?_⟩
    rw [l6_0_88 hS]
    refine ⟨hS.o (s6_59 hS), ?_⟩
    obtain ⟨hi1, h⟩ := h
    refine ⟨by first | (rw [(n6_59 hS)]; exact hi1) | exact (congrArg (vp_in _) (n6_59 hS)).mpr hi1 | exact hi1, ?_⟩
    intro G2 eG2
    have hS2 : Sh E G2 A L P := Sh_sI eG2 hS (s6_59 hS) (okT_b rfl)
    have h := h (pl G2 A L P) (pl_sI eG2 hS (s6_59 hS))
    have hx2 : Xt (pl G A L P) A (pl G2 A L P) A := Xt_sI eG2 hx
    intro G3 eG3
    have hS3 : Sh E G3 A L P := Sh_sI eG3 hS2 (s6_0 hS2) (okT_0 rfl)
    have h := h (pl G3 A L P) (pl_sI eG3 hS2 (s6_0 hS2))
    have hx3 : Xt (pl G A L P) A (pl G3 A L P) A := Xt_sI eG3 hx2
    exact wp.mono (h G3 A ⟨L, P, rfl, hS3⟩) (fun r G' q => qx_trans hx3 q)
theorem w_X12_below_0 {E : EE} {d : Nat} {V : VH} {K : Int64 → VH → Prop}   (h : K (vJ V 6 0 3) V) : vMJ E d M_X12_below [sl 6 0] V K := by
  intro G A hR
  obtain ⟨L, P, rfl, hS⟩ := hR
  have hx := Xt.refl (V := pl G A L P) (A := A)
  show wpM E d M_X12_below [vr (A 6 0)] G _
  refine wpM_of mk_X12_below (Nat.le_of_ble_eq_true rfl) ?_
  refine v_X12_below_0 ?_
  refine ⟨hS.o (s6_0 hS), ?_⟩
  exact qx_j hS hx h
theorem w_X12_above_0 {E : EE} {d : Nat} {V : VH} {K : Int64 → VH → Prop}   (h : K (vJ V 6 0 2) V) : vMJ E d M_X12_above [sl 6 0] V K := by
  intro G A hR
  obtain ⟨L, P, rfl, hS⟩ := hR
  have hx := Xt.refl (V := pl G A L P) (A := A)
  show wpM E d M_X12_above [vr (A 6 0)] G _
  refine wpM_of mk_X12_above (Nat.le_of_ble_eq_true rfl) ?_
  refine v_X12_above_0 ?_
  refine ⟨hS.o (s6_0 hS), ?_⟩
  exact qx_j hS hx h
theorem w_X12_prove_0 {E : EE} {d : Nat} {V : VH} {K : Int32 → VH → Prop} {x1 : Int32}  (h0 : 0 < d) (h : vMI E (d - 1) M_X12_isProblem [sl 6 0, wi x1] V (fun r1 V1 => (¬ r1 = 0 → vMV E (d - 1) M_X12_know [sl 6 0, wi x1] V1 (fun V3 => vMI E (d - 1) M_X12_handOf [sl 6 0, wi x1] V3 (fun r5 V5 => vwp E d M_X12_prove 23 [some (sl 6 0), some (wi x1), some (wi r5), some (wi 0)] [] V5 (zi K)))) ∧ (r1 = 0 → K (-1) V1))) : vMI E d M_X12_prove [sl 6 0, wi x1] V K := by
  intro G A hR
  obtain ⟨L, P, rfl, hS⟩ := hR
  have hx := Xt.refl (V := pl G A L P) (A := A)
  show wpM E d M_X12_prove [vr (A 6 0), vi x1] G _
  refine wpM_of mk_X12_prove (Nat.le_of_ble_eq_true rfl) ?_
  refine v_X12_prove_0 h0 ?_
  refine ⟨hS.o (s6_0 hS), ?_⟩
  refine wpM.mono (h G A ⟨L, P, rfl, hS⟩) (fun rr1 G1 hr => ?_)
  obtain ⟨A1, W1, w1, ⟨L1, P1, rfl, hS1⟩, hy1, rfl, r1, rfl, h⟩ := hr
  refine ⟨r1, rfl, ?_⟩
  have hx1 := Xt.trans hx hy1
  have ee2 : A1 6 0 = A 6 0 := hy1.2 _ _ hS.1.2.1 (((n6_0 hS1)).trans ((n6_0 hS)).symm)
  try rw [← ee2]
  refine ⟨fun hc => ?_, fun hc => ?_⟩
  · have h := h.1 hc
    refine ⟨hS1.o (s6_0 hS1), ?_⟩
    refine wpM.mono (h G1 A1 ⟨L1, P1, rfl, hS1⟩) (fun rr3 G3 hr => ?_)
    obtain ⟨A3, W3, w3, ⟨L3, P3, rfl, hS3⟩, hy3, rfl, rfl, h⟩ := hr
    refine ⟨rfl, ?_⟩
    have hx3 := Xt.trans hx1 hy3
    have ee4 : A3 6 0 = A1 6 0 := hy3.2 _ _ hS1.1.2.1 (((n6_0 hS3)).trans ((n6_0 hS1)).symm)
    try rw [← ee4]
    refine ⟨hS3.o (s6_0 hS3), ?_⟩
    refine wpM.mono (h G3 A3 ⟨L3, P3, rfl, hS3⟩) (fun rr5 G5 hr => ?_)
    obtain ⟨A5, W5, w5, ⟨L5, P5, rfl, hS5⟩, hy5, rfl, r5, rfl, h⟩ := hr
    refine ⟨r5, rfl, ?_⟩
    have hx5 := Xt.trans hx3 hy5
    have ee6 : A5 6 0 = A3 6 0 := hy5.2 _ _ hS3.1.2.1 (((n6_0 hS5)).trans ((n6_0 hS3)).symm)
    try rw [← ee6]
    exact wp.mono (h G5 A5 ⟨L5, P5, rfl, hS5⟩) (fun r G' q => qx_trans hx5 q)
  · have h := h.2 hc
    exact qx_i hS1 hx1 h
theorem w_X12_prove_23 {E : EE} {d : Nat} {V : VH} {K : Int32 → VH → Prop} {x1 : Int32} {x2 : Int32} {x3 : Int32}  (h0 : 0 < d) (h : vp_in x1 5 ∧ (((vI V 6 22 (Int32.toNatClampNeg x1)) ≤ x3 → ∀ V2 : VH, V2 = wrI V 6 0 84 0 → vMV E (d - 1) M_X12_print [sl 6 0, wi x1, wi 0] V2 (fun V3 => ((vI V3 6 0 84) ≤ 20000 → vwp E d M_X12_prove 84 [some (sl 6 0), some (wi x1), some (wi x2), some (wi 0)] [] V3 (zi K)) ∧ (¬ ((vI V3 6 0 84) ≤ 20000) → K (-1) V3))) ∧ (¬ ((vI V 6 22 (Int32.toNatClampNeg x1)) ≤ x3) → vMI E (d - 1) M_X12_isGood [sl 6 0, wi x1, wi x3] V (fun r5 V5 => (r5 = 0 → vwp E d M_X12_prove 53 [some (sl 6 0), some (wi x1), some (wi x2), some (wi x3)] [] V5 (zi K)) ∧ (¬ (r5 = 0) → vMI E (d - 1) M_X12_isBetter [sl 6 0, wi x3, wi x2] V5 (fun r7 V7 => (r7 = 0 → vwp E d M_X12_prove 53 [some (sl 6 0), some (wi x1), some (wi x2), some (wi x3)] [] V7 (zi K)) ∧ (¬ (r7 = 0) → K (-1) V7))))))) : vwp E d M_X12_prove 23 [some (sl 6 0), some (wi x1), some (wi x2), some (wi x3)] [] V (zi K) := by
  intro G A hR
  obtain ⟨L, P, rfl, hS⟩ := hR
  have hx := Xt.refl (V := pl G A L P) (A := A)
  show wp E d M_X12_prove 23 [some (vr (A 6 0)), some (vi x1), some (vi x2), some (vi x3)] [] G _
  refine v_X12_prove_23 h0 ?_
  refine ⟨hS.o (s6_0 hS), ?_⟩
  rw [l6_0_25 hS]
  refine ⟨hS.o (s6_22 hS), ?_⟩
  obtain ⟨hi1, h⟩ := h
  refine ⟨by first | (rw [(n6_22 hS)]; exact hi1) | exact (congrArg (vp_in _) (n6_22 hS)).mpr hi1 | exact hi1, ?_⟩
  refine ⟨fun hc => ?_, fun hc => ?_⟩
  · have h := h.1 hc
    have hS2 : Sh E (sI G (A 6 0) 84 0) A L P := Sh_sI (rfl : sI G (A 6 0) 84 0 = sI G (A 6 0) 84 0) hS (s6_0 hS) (okT_0 rfl)
    have h := h (pl (sI G (A 6 0) 84 0) A L P) (pl_sI (rfl : sI G (A 6 0) 84 0 = sI G (A 6 0) 84 0) hS (s6_0 hS))
    have hx2 : Xt (pl G A L P) A (pl (sI G (A 6 0) 84 0) A L P) A := Xt_sI (rfl : sI G (A 6 0) 84 0 = sI G (A 6 0) 84 0) hx
    refine wpM.mono (h (sI G (A 6 0) 84 0) A ⟨L, P, rfl, hS2⟩) (fun rr3 G3 hr => ?_)
    obtain ⟨A3, W3, w3, ⟨L3, P3, rfl, hS3⟩, hy3, rfl, rfl, h⟩ := hr
    refine ⟨rfl, ?_⟩
    have hx3 := Xt.trans hx2 hy3
    have ee4 : A3 6 0 = A 6 0 := hy3.2 _ _ hS2.1.2.1 (((n6_0 hS3)).trans ((n6_0 hS2)).symm)
    try rw [← ee4]
    refine ⟨hS3.o (s6_0 hS3), ?_⟩
    refine ⟨fun hc => ?_, fun hc => ?_⟩
    · have h := h.1 hc
      exact wp.mono (h G3 A3 ⟨L3, P3, rfl, hS3⟩) (fun r G' q => qx_trans hx3 q)
    · have h := h.2 hc
      exact qx_i hS3 hx3 h
  · have h := h.2 hc
    refine wpM.mono (h G A ⟨L, P, rfl, hS⟩) (fun rr5 G5 hr => ?_)
    obtain ⟨A5, W5, w5, ⟨L5, P5, rfl, hS5⟩, hy5, rfl, r5, rfl, h⟩ := hr
    refine ⟨r5, rfl, ?_⟩
    have hx5 := Xt.trans hx hy5
    have ee6 : A5 6 0 = A 6 0 := hy5.2 _ _ hS.1.2.1 (((n6_0 hS5)).trans ((n6_0 hS)).symm)
    try rw [← ee6]
    refine ⟨fun hc => ?_, fun hc => ?_⟩
    · have h := h.1 hc
      exact wp.mono (h G5 A5 ⟨L5, P5, rfl, hS5⟩) (fun r G' q => qx_trans hx5 q)
    · have h := h.2 hc
      refine ⟨hS5.o (s6_0 hS5), ?_⟩
      refine wpM.mono (h G5 A5 ⟨L5, P5, rfl, hS5⟩) (fun rr7 G7 hr => ?_)
      obtain ⟨A7, W7, w7, ⟨L7, P7, rfl, hS7⟩, hy7, rfl, r7, rfl, h⟩ := hr
      refine ⟨r7, rfl, ?_⟩
      have hx7 := Xt.trans hx5 hy7
      have ee8 : A7 6 0 = A5 6 0 := hy7.2 _ _ hS5.1.2.1 (((n6_0 hS7)).trans ((n6_0 hS5)).symm)
      try rw [← ee8]
      refine ⟨fun hc => ?_, fun hc => ?_⟩
      · have h := h.1 hc
        exact wp.mono (h G7 A7 ⟨L7, P7, rfl, hS7⟩) (fun r G' q => qx_trans hx7 q)
      · have h := h.2 hc
        exact qx_i hS7 hx7 h
theorem w_X12_prove_53 {E : EE} {d : Nat} {V : VH} {K : Int32 → VH → Prop} {x1 : Int32} {x2 : Int32} {x3 : Int32}  (h : vwp E d M_X12_prove 23 [some (sl 6 0), some (wi x1), some (wi x2), some (wi (x3 + 1))] [] V (zi K)) : vwp E d M_X12_prove 53 [some (sl 6 0), some (wi x1), some (wi x2), some (wi x3)] [] V (zi K) := by
  intro G A hR
  obtain ⟨L, P, rfl, hS⟩ := hR
  have hx := Xt.refl (V := pl G A L P) (A := A)
  show wp E d M_X12_prove 53 [some (vr (A 6 0)), some (vi x1), some (vi x2), some (vi x3)] [] G _
  refine v_X12_prove_53 ?_
  exact wp.mono (h G A ⟨L, P, rfl, hS⟩) (fun r G' q => qx_trans hx q)
theorem w_X12_prove_84 {E : EE} {d : Nat} {V : VH} {K : Int32 → VH → Prop} {x1 : Int32} {x2 : Int32} {x3 : Int32}  (h : ((vI V 6 0 84) ≤ x3 → ∀ V1 : VH, V1 = wrI V 6 0 1 (vI V 6 0 84) → K (vI V1 6 0 1) V1) ∧ (¬ ((vI V 6 0 84) ≤ x3) → vp_in x3 20001 ∧ (vp_in x3 20000 ∧ (∀ V4 : VH, V4 = wrI V 6 1 (Int32.toNatClampNeg x3) (i2b (vI V 6 58 (Int32.toNatClampNeg x3))) → vwp E d M_X12_prove 84 [some (sl 6 0), some (wi x1), some (wi x2), some (wi (x3 + 1))] [] V4 (zi K))))) : vwp E d M_X12_prove 84 [some (sl 6 0), some (wi x1), some (wi x2), some (wi x3)] [] V (zi K) := by
  intro G A hR
  obtain ⟨L, P, rfl, hS⟩ := hR
  have hx := Xt.refl (V := pl G A L P) (A := A)
  show wp E d M_X12_prove 84 [some (vr (A 6 0)), some (vi x1), some (vi x2), some (vi x3)] [] G _
  refine v_X12_prove_84 ?_
  refine ⟨hS.o (s6_0 hS), ?_⟩
  refine ⟨fun hc => ?_, fun hc => ?_⟩
  · have h := h.1 hc
    have hS1 : Sh E (sI G (A 6 0) 1 (gI G (A 6 0) 84)) A L P := Sh_sI (rfl : sI G (A 6 0) 1 (gI G (A 6 0) 84) = sI G (A 6 0) 1 (gI G (A 6 0) 84)) hS (s6_0 hS) (okT_0 rfl)
    have h := h (pl (sI G (A 6 0) 1 (gI G (A 6 0) 84)) A L P) (pl_sI (rfl : sI G (A 6 0) 1 (gI G (A 6 0) 84) = sI G (A 6 0) 1 (gI G (A 6 0) 84)) hS (s6_0 hS))
    have hx1 : Xt (pl G A L P) A (pl (sI G (A 6 0) 1 (gI G (A 6 0) 84)) A L P) A := Xt_sI (rfl : sI G (A 6 0) 1 (gI G (A 6 0) 84) = sI G (A 6 0) 1 (gI G (A 6 0) 84)) hx
    exact qx_i hS1 hx1 h
  · have h := h.2 hc
    rw [l6_0_0 hS]
    rw [l6_0_87 hS]
    refine ⟨hS.o (s6_58 hS), ?_⟩
    obtain ⟨hi2, h⟩ := h
    refine ⟨by first | (rw [(n6_58 hS)]; exact hi2) | exact (congrArg (vp_in _) (n6_58 hS)).mpr hi2 | exact hi2, ?_⟩
    refine ⟨hS.o (s6_1 hS), ?_⟩
    obtain ⟨hi3, h⟩ := h
    refine ⟨by first | (rw [(n6_1 hS)]; exact hi3) | exact (congrArg (vp_in _) (n6_1 hS)).mpr hi3 | exact hi3, ?_⟩
    have hS4 : Sh E (sI G (A 6 1) (Int32.toNatClampNeg x3) (i2b (gI G (A 6 58) (Int32.toNatClampNeg x3)))) A L P := Sh_sI (rfl : sI G (A 6 1) (Int32.toNatClampNeg x3) (i2b (gI G (A 6 58) (Int32.toNatClampNeg x3))) = sI G (A 6 1) (Int32.toNatClampNeg x3) (i2b (gI G (A 6 58) (Int32.toNatClampNeg x3)))) hS (s6_1 hS) (okT_b rfl)
    have h := h (pl (sI G (A 6 1) (Int32.toNatClampNeg x3) (i2b (gI G (A 6 58) (Int32.toNatClampNeg x3)))) A L P) (pl_sI (rfl : sI G (A 6 1) (Int32.toNatClampNeg x3) (i2b (gI G (A 6 58) (Int32.toNatClampNeg x3))) = sI G (A 6 1) (Int32.toNatClampNeg x3) (i2b (gI G (A 6 58) (Int32.toNatClampNeg x3)))) hS (s6_1 hS))
    have hx4 : Xt (pl G A L P) A (pl (sI G (A 6 1) (Int32.toNatClampNeg x3) (i2b (gI G (A 6 58) (Int32.toNatClampNeg x3)))) A L P) A := Xt_sI (rfl : sI G (A 6 1) (Int32.toNatClampNeg x3) (i2b (gI G (A 6 58) (Int32.toNatClampNeg x3))) = sI G (A 6 1) (Int32.toNatClampNeg x3) (i2b (gI G (A 6 58) (Int32.toNatClampNeg x3)))) hx
    exact wp.mono (h (sI G (A 6 1) (Int32.toNatClampNeg x3) (i2b (gI G (A 6 58) (Int32.toNatClampNeg x3)))) A ⟨L, P, rfl, hS4⟩) (fun r G' q => qx_trans hx4 q)
theorem w_X12_know_0 {E : EE} {d : Nat} {V : VH} {K : VH → Prop} {x1 : Int32}  (h : (¬ (vI V 6 0 62) = x1 → vwp E d M_X12_know 21 [some (sl 6 0), some (wi x1)] [] V (zv K)) ∧ ((vI V 6 0 62) = x1 → vp_in x1 5 ∧ (((vI V 6 0 63) = (vI V 6 33 (Int32.toNatClampNeg x1)) → K V) ∧ (¬ ((vI V 6 0 63) = (vI V 6 33 (Int32.toNatClampNeg x1))) → vwp E d M_X12_know 21 [some (sl 6 0), some (wi x1)] [] V (zv K))))) : vMV E d M_X12_know [sl 6 0, wi x1] V K := by
  intro G A hR
  obtain ⟨L, P, rfl, hS⟩ := hR
  have hx := Xt.refl (V := pl G A L P) (A := A)
  show wpM E d M_X12_know [vr (A 6 0), vi x1] G _
  refine wpM_of mk_X12_know (Nat.le_of_ble_eq_true rfl) ?_
  refine v_X12_know_0 ?_
  refine ⟨hS.o (s6_0 hS), ?_⟩
  refine ⟨fun hc => ?_, fun hc => ?_⟩
  · have h := h.1 hc
    exact wp.mono (h G A ⟨L, P, rfl, hS⟩) (fun r G' q => qx_trans hx q)
  · have h := h.2 hc
    rw [l6_0_36 hS]
    refine ⟨hS.o (s6_33 hS), ?_⟩
    obtain ⟨hi1, h⟩ := h
    refine ⟨by first | (rw [(n6_33 hS)]; exact hi1) | exact (congrArg (vp_in _) (n6_33 hS)).mpr hi1 | exact hi1, ?_⟩
    refine ⟨fun hc => ?_, fun hc => ?_⟩
    · have h := h.1 hc
      exact qx_v hS hx h
    · have h := h.2 hc
      exact wp.mono (h G A ⟨L, P, rfl, hS⟩) (fun r G' q => qx_trans hx q)
theorem w_X12_know_21 {E : EE} {d : Nat} {V : VH} {K : VH → Prop} {x1 : Int32}  (h0 : 0 < d) (h : vMV E (d - 1) M_X12_weighAll [sl 6 0, wi x1, wi (-1)] V (fun V1 => K V1)) : vwp E d M_X12_know 21 [some (sl 6 0), some (wi x1)] [] V (zv K) := by
  intro G A hR
  obtain ⟨L, P, rfl, hS⟩ := hR
  have hx := Xt.refl (V := pl G A L P) (A := A)
  show wp E d M_X12_know 21 [some (vr (A 6 0)), some (vi x1)] [] G _
  refine v_X12_know_21 h0 ?_
  refine ⟨hS.o (s6_0 hS), ?_⟩
  refine wpM.mono (h G A ⟨L, P, rfl, hS⟩) (fun rr1 G1 hr => ?_)
  obtain ⟨A1, W1, w1, ⟨L1, P1, rfl, hS1⟩, hy1, rfl, rfl, h⟩ := hr
  refine ⟨rfl, ?_⟩
  have hx1 := Xt.trans hx hy1
  have ee2 : A1 6 0 = A 6 0 := hy1.2 _ _ hS.1.2.1 (((n6_0 hS1)).trans ((n6_0 hS)).symm)
  try rw [← ee2]
  exact qx_v hS1 hx1 h
theorem w_X12_weighAll_0 {E : EE} {d : Nat} {V : VH} {K : VH → Prop} {x1 : Int32} {x2 : Int32}  (h0 : 0 < d) (h : vMV E (d - 1) M_X12_takeFacts [sl 6 0, wi x1, wi x2] V (fun V1 => vwp E d M_X12_weighAll 8 [some (sl 6 0), some (wi x1), some (wi x2), some (wi 0)] [] V1 (zv K))) : vMV E d M_X12_weighAll [sl 6 0, wi x1, wi x2] V K := by
  intro G A hR
  obtain ⟨L, P, rfl, hS⟩ := hR
  have hx := Xt.refl (V := pl G A L P) (A := A)
  show wpM E d M_X12_weighAll [vr (A 6 0), vi x1, vi x2] G _
  refine wpM_of mk_X12_weighAll (Nat.le_of_ble_eq_true rfl) ?_
  refine v_X12_weighAll_0 h0 ?_
  refine ⟨hS.o (s6_0 hS), ?_⟩
  refine wpM.mono (h G A ⟨L, P, rfl, hS⟩) (fun rr1 G1 hr => ?_)
  obtain ⟨A1, W1, w1, ⟨L1, P1, rfl, hS1⟩, hy1, rfl, rfl, h⟩ := hr
  refine ⟨rfl, ?_⟩
  have hx1 := Xt.trans hx hy1
  have ee2 : A1 6 0 = A 6 0 := hy1.2 _ _ hS.1.2.1 (((n6_0 hS1)).trans ((n6_0 hS)).symm)
  try rw [← ee2]
  exact wp.mono (h G1 A1 ⟨L1, P1, rfl, hS1⟩) (fun r G' q => qx_trans hx1 q)
theorem w_X12_weighAll_8 {E : EE} {d : Nat} {V : VH} {K : VH → Prop} {x1 : Int32} {x2 : Int32} {x3 : Int32}  (h0 : 0 < d) (h : vp_in x1 5 ∧ (((vI V 6 22 (Int32.toNatClampNeg x1)) ≤ x3 → (x2 < 0 → vwp E d M_X12_weighAll 40 [some (sl 6 0), some (wi x1), some (wi x2), some (wi x3)] [wi x1, sl 6 0] V (zv K)) ∧ (¬ (x2 < 0) → vwp E d M_X12_weighAll 40 [some (sl 6 0), some (wi x1), some (wi x2), some (wi x3)] [wi (-1), sl 6 0] V (zv K))) ∧ (¬ ((vI V 6 22 (Int32.toNatClampNeg x1)) ≤ x3) → vMV E (d - 1) M_X12_weighPlan [sl 6 0, wi x1, wi x3] V (fun V2 => vwp E d M_X12_weighAll 8 [some (sl 6 0), some (wi x1), some (wi x2), some (wi (x3 + 1))] [] V2 (zv K))))) : vwp E d M_X12_weighAll 8 [some (sl 6 0), some (wi x1), some (wi x2), some (wi x3)] [] V (zv K) := by
  intro G A hR
  obtain ⟨L, P, rfl, hS⟩ := hR
  have hx := Xt.refl (V := pl G A L P) (A := A)
  show wp E d M_X12_weighAll 8 [some (vr (A 6 0)), some (vi x1), some (vi x2), some (vi x3)] [] G _
  refine v_X12_weighAll_8 h0 ?_
  refine ⟨hS.o (s6_0 hS), ?_⟩
  rw [l6_0_25 hS]
  refine ⟨hS.o (s6_22 hS), ?_⟩
  obtain ⟨hi1, h⟩ := h
  refine ⟨by first | (rw [(n6_22 hS)]; exact hi1) | exact (congrArg (vp_in _) (n6_22 hS)).mpr hi1 | exact hi1, ?_⟩
  refine ⟨fun hc => ?_, fun hc => ?_⟩
  · have h := h.1 hc
    refine ⟨fun hc => ?_, fun hc => ?_⟩
    · have h := h.1 hc
      exact wp.mono (h G A ⟨L, P, rfl, hS⟩) (fun r G' q => qx_trans hx q)
    · have h := h.2 hc
      exact wp.mono (h G A ⟨L, P, rfl, hS⟩) (fun r G' q => qx_trans hx q)
  · have h := h.2 hc
    refine wpM.mono (h G A ⟨L, P, rfl, hS⟩) (fun rr2 G2 hr => ?_)
    obtain ⟨A2, W2, w2, ⟨L2, P2, rfl, hS2⟩, hy2, rfl, rfl, h⟩ := hr
    refine ⟨rfl, ?_⟩
    have hx2 := Xt.trans hx hy2
    have ee3 : A2 6 0 = A 6 0 := hy2.2 _ _ hS.1.2.1 (((n6_0 hS2)).trans ((n6_0 hS)).symm)
    try rw [← ee3]
    exact wp.mono (h G2 A2 ⟨L2, P2, rfl, hS2⟩) (fun r G' q => qx_trans hx2 q)
theorem w_X12_weighAll_40 {E : EE} {d : Nat} {V : VH} {K : VH → Prop} {x1 : Int32} {x2 : Int32} {x3 : Int32} {t1 : Int32}  (h : ∀ V1 : VH, V1 = wrI V 6 0 62 t1 → vp_in x1 5 ∧ (∀ V3 : VH, V3 = wrI V1 6 0 63 (vI V1 6 33 (Int32.toNatClampNeg x1)) → K V3)) : vwp E d M_X12_weighAll 40 [some (sl 6 0), some (wi x1), some (wi x2), some (wi x3)] [wi t1, sl 6 0] V (zv K) := by
  intro G A hR
  obtain ⟨L, P, rfl, hS⟩ := hR
  have hx := Xt.refl (V := pl G A L P) (A := A)
  show wp E d M_X12_weighAll 40 [some (vr (A 6 0)), some (vi x1), some (vi x2), some (vi x3)] [vi t1, vr (A 6 0)] G _
  refine v_X12_weighAll_40 ?_
  refine ⟨hS.o (s6_0 hS), ?_⟩
  intro G1 eG1
  have hS1 : Sh E G1 A L P := Sh_sI eG1 hS (s6_0 hS) (okT_0 rfl)
  have h := h (pl G1 A L P) (pl_sI eG1 hS (s6_0 hS))
  have hx1 : Xt (pl G A L P) A (pl G1 A L P) A := Xt_sI eG1 hx
  refine ⟨hS1.o (s6_0 hS1), ?_⟩
  rw [l6_0_36 hS1]
  refine ⟨hS1.o (s6_33 hS1), ?_⟩
  obtain ⟨hi2, h⟩ := h
  refine ⟨by first | (rw [(n6_33 hS1)]; exact hi2) | exact (congrArg (vp_in _) (n6_33 hS1)).mpr hi2 | exact hi2, ?_⟩
  intro G3 eG3
  have hS3 : Sh E G3 A L P := Sh_sI eG3 hS1 (s6_0 hS1) (okT_0 rfl)
  have h := h (pl G3 A L P) (pl_sI eG3 hS1 (s6_0 hS1))
  have hx3 : Xt (pl G A L P) A (pl G3 A L P) A := Xt_sI eG3 hx1
  exact qx_v hS3 hx3 h
theorem w_X12_takeFacts_0 {E : EE} {d : Nat} {V : VH} {K : VH → Prop} {x1 : Int32} {x2 : Int32}  (h : vwp E d M_X12_takeFacts 2 [some (sl 6 0), some (wi x1), some (wi x2), some (wi 0), none] [] V (zv K)) : vMV E d M_X12_takeFacts [sl 6 0, wi x1, wi x2] V K := by
  intro G A hR
  obtain ⟨L, P, rfl, hS⟩ := hR
  have hx := Xt.refl (V := pl G A L P) (A := A)
  show wpM E d M_X12_takeFacts [vr (A 6 0), vi x1, vi x2] G _
  refine wpM_of mk_X12_takeFacts (Nat.le_of_ble_eq_true rfl) ?_
  refine v_X12_takeFacts_0 ?_
  exact wp.mono (h G A ⟨L, P, rfl, hS⟩) (fun r G' q => qx_trans hx q)
theorem w_X12_takeFacts_2 {E : EE} {d : Nat} {V : VH} {K : VH → Prop} {x1 : Int32} {x2 : Int32} {x3 : Int32}  (h : vp_in (4 * x1) 20 ∧ (((vI V 6 14 (Int32.toNatClampNeg (4 * x1))) ≤ x3 → K V) ∧ (¬ ((vI V 6 14 (Int32.toNatClampNeg (4 * x1))) ≤ x3) → (x2 < 0 → vwp E d M_X12_takeFacts 56 [some (sl 6 0), some (wi x1), some (wi x2), some (wi x3), some (wi ((16 * ((6 * x1) + x2)) + x3))] [wi x3, sl 6 36] V (zv K)) ∧ (¬ (x2 < 0) → vp_in ((16 * ((6 * x1) + x2)) + x3) 480 ∧ (((vI V 6 31 (Int32.toNatClampNeg ((16 * ((6 * x1) + x2)) + x3))) = 0 → vwp E d M_X12_takeFacts 56 [some (sl 6 0), some (wi x1), some (wi x2), some (wi x3), some (wi ((16 * ((6 * x1) + x2)) + x3))] [wi x3, sl 6 36] V (zv K)) ∧ (¬ ((vI V 6 31 (Int32.toNatClampNeg ((16 * ((6 * x1) + x2)) + x3))) = 0) → vp_in ((16 * ((6 * x1) + x2)) + x3) 480 ∧ (vwp E d M_X12_takeFacts 67 [some (sl 6 0), some (wi x1), some (wi x2), some (wi x3), some (wi ((16 * ((6 * x1) + x2)) + x3))] [wi (vI V 6 32 (Int32.toNatClampNeg ((16 * ((6 * x1) + x2)) + x3))), wi x3, sl 6 36] V (zv K)))))))) : vwp E d M_X12_takeFacts 2 [some (sl 6 0), some (wi x1), some (wi x2), some (wi x3), none] [] V (zv K) := by
  intro G A hR
  obtain ⟨L, P, rfl, hS⟩ := hR
  have hx := Xt.refl (V := pl G A L P) (A := A)
  show wp E d M_X12_takeFacts 2 [some (vr (A 6 0)), some (vi x1), some (vi x2), some (vi x3), none] [] G _
  refine v_X12_takeFacts_2 ?_
  refine ⟨hS.o (s6_0 hS), ?_⟩
  rw [l6_0_17 hS]
  refine ⟨hS.o (s6_14 hS), ?_⟩
  obtain ⟨hi1, h⟩ := h
  refine ⟨by first | (rw [(n6_14 hS)]; exact hi1) | exact (congrArg (vp_in _) (n6_14 hS)).mpr hi1 | exact hi1, ?_⟩
  refine ⟨fun hc => ?_, fun hc => ?_⟩
  · have h := h.1 hc
    exact qx_v hS hx h
  · have h := h.2 hc
    rw [l6_0_53 hS]
    refine ⟨fun hc => ?_, fun hc => ?_⟩
    · have h := h.1 hc
      exact wp.mono (h G A ⟨L, P, rfl, hS⟩) (fun r G' q => qx_trans hx q)
    · have h := h.2 hc
      rw [l6_0_34 hS]
      refine ⟨hS.o (s6_31 hS), ?_⟩
      obtain ⟨hi2, h⟩ := h
      refine ⟨by first | (rw [(n6_31 hS)]; exact hi2) | exact (congrArg (vp_in _) (n6_31 hS)).mpr hi2 | exact hi2, ?_⟩
      refine ⟨fun hc => ?_, fun hc => ?_⟩
      · have h := h.1 hc
        exact wp.mono (h G A ⟨L, P, rfl, hS⟩) (fun r G' q => qx_trans hx q)
      · have h := h.2 hc
        rw [l6_0_35 hS]
        refine ⟨hS.o (s6_32 hS), ?_⟩
        obtain ⟨hi3, h⟩ := h
        refine ⟨by first | (rw [(n6_32 hS)]; exact hi3) | exact (congrArg (vp_in _) (n6_32 hS)).mpr hi3 | exact hi3, ?_⟩
        exact wp.mono (h G A ⟨L, P, rfl, hS⟩) (fun r G' q => qx_trans hx q)
theorem w_X12_takeFacts_56 {E : EE} {d : Nat} {V : VH} {K : VH → Prop} {x1 : Int32} {x2 : Int32} {x3 : Int32} {x4 : Int32} {a90 f90 : Nat} {t1 : Int32} (hA90 : SL (vL V) a90 f90 14) (h : vp_in ((16 * x1) + x3) 80 ∧ (vwp E d M_X12_takeFacts 67 [some (sl 6 0), some (wi x1), some (wi x2), some (wi x3), some (wi x4)] [wi (vI V 6 15 (Int32.toNatClampNeg ((16 * x1) + x3))), wi t1, sl a90 f90] V (zv K))) : vwp E d M_X12_takeFacts 56 [some (sl 6 0), some (wi x1), some (wi x2), some (wi x3), some (wi x4)] [wi t1, sl a90 f90] V (zv K) := by
  intro G A hR
  obtain ⟨L, P, rfl, hS⟩ := hR
  have hx := Xt.refl (V := pl G A L P) (A := A)
  show wp E d M_X12_takeFacts 56 [some (vr (A 6 0)), some (vi x1), some (vi x2), some (vi x3), some (vi x4)] [vi t1, vr (A a90 f90)] G _
  refine v_X12_takeFacts_56 ?_
  refine ⟨hS.o (s6_0 hS), ?_⟩
  rw [l6_0_18 hS]
  refine ⟨hS.o (s6_15 hS), ?_⟩
  obtain ⟨hi1, h⟩ := h
  refine ⟨by first | (rw [(n6_15 hS)]; exact hi1) | exact (congrArg (vp_in _) (n6_15 hS)).mpr hi1 | exact hi1, ?_⟩
  exact wp.mono (h G A ⟨L, P, rfl, hS⟩) (fun r G' q => qx_trans hx q)
theorem w_X12_takeFacts_67 {E : EE} {d : Nat} {V : VH} {K : VH → Prop} {x1 : Int32} {x2 : Int32} {x3 : Int32} {x4 : Int32} {a90 f90 : Nat} {t1 : Int32} {t2 : Int32} (hA90 : SL (vL V) a90 f90 14) (h : vp_in t1 (vN V a90 f90) ∧ (∀ V2 : VH, V2 = wrI V a90 f90 (Int32.toNatClampNeg t1) t2 → vwp E d M_X12_takeFacts 2 [some (sl 6 0), some (wi x1), some (wi x2), some (wi (x3 + 1)), none] [] V2 (zv K))) : vwp E d M_X12_takeFacts 67 [some (sl 6 0), some (wi x1), some (wi x2), some (wi x3), some (wi x4)] [wi t2, wi t1, sl a90 f90] V (zv K) := by
  intro G A hR
  obtain ⟨L, P, rfl, hS⟩ := hR
  have hx := Xt.refl (V := pl G A L P) (A := A)
  show wp E d M_X12_takeFacts 67 [some (vr (A 6 0)), some (vi x1), some (vi x2), some (vi x3), some (vi x4)] [vi t2, vi t1, vr (A a90 f90)] G _
  refine v_X12_takeFacts_67 ?_
  refine ⟨hS.o hA90, ?_⟩
  obtain ⟨hi1, h⟩ := h
  refine ⟨hi1, ?_⟩
  have hS2 : Sh E (sI G (A a90 f90) (Int32.toNatClampNeg t1) t2) A L P := Sh_sI (rfl : sI G (A a90 f90) (Int32.toNatClampNeg t1) t2 = sI G (A a90 f90) (Int32.toNatClampNeg t1) t2) hS hA90 (okT_0 rfl)
  have h := h (pl (sI G (A a90 f90) (Int32.toNatClampNeg t1) t2) A L P) (pl_sI (rfl : sI G (A a90 f90) (Int32.toNatClampNeg t1) t2 = sI G (A a90 f90) (Int32.toNatClampNeg t1) t2) hS hA90)
  have hx2 : Xt (pl G A L P) A (pl (sI G (A a90 f90) (Int32.toNatClampNeg t1) t2) A L P) A := Xt_sI (rfl : sI G (A a90 f90) (Int32.toNatClampNeg t1) t2 = sI G (A a90 f90) (Int32.toNatClampNeg t1) t2) hx
  exact wp.mono (h (sI G (A a90 f90) (Int32.toNatClampNeg t1) t2) A ⟨L, P, rfl, hS2⟩) (fun r G' q => qx_trans hx2 q)
theorem w_X12_weighPlan_0 {E : EE} {d : Nat} {V : VH} {K : VH → Prop} {x1 : Int32} {x2 : Int32}  (h : vwp E d M_X12_weighPlan 2 [some (sl 6 0), some (wi x1), some (wi x2), some (wi 0)] [] V (zv K)) : vMV E d M_X12_weighPlan [sl 6 0, wi x1, wi x2] V K := by
  intro G A hR
  obtain ⟨L, P, rfl, hS⟩ := hR
  have hx := Xt.refl (V := pl G A L P) (A := A)
  show wpM E d M_X12_weighPlan [vr (A 6 0), vi x1, vi x2] G _
  refine wpM_of mk_X12_weighPlan (Nat.le_of_ble_eq_true rfl) ?_
  refine v_X12_weighPlan_0 ?_
  exact wp.mono (h G A ⟨L, P, rfl, hS⟩) (fun r G' q => qx_trans hx q)
theorem w_X12_weighPlan_2 {E : EE} {d : Nat} {V : VH} {K : VH → Prop} {x1 : Int32} {x2 : Int32} {x3 : Int32}  (h0 : 0 < d) (h : vMI E (d - 1) M_X12_vars [sl 6 0, wi x1] V (fun r1 V1 => (r1 ≤ x3 → vwp E d M_X12_weighPlan 47 [some (sl 6 0), some (wi x1), some (wi x2), some (wi 0)] [] V1 (zv K)) ∧ (¬ (r1 ≤ x3) → vMI E (d - 1) M_X12_place [sl 6 0, wi x1, wi x2, wi x3] V1 (fun r3 V3 => vp_in ((20 * ((12 * x1) + x3)) + r3) 1200 ∧ (vp_in x3 12 ∧ (∀ V9 : VH, V9 = wrI V3 6 35 (Int32.toNatClampNeg x3) (vI V3 6 18 (Int32.toNatClampNeg ((20 * ((12 * x1) + x3)) + r3))) → vwp E d M_X12_weighPlan 2 [some (sl 6 0), some (wi x1), some (wi x2), some (wi (x3 + 1))] [] V9 (zv K))))))) : vwp E d M_X12_weighPlan 2 [some (sl 6 0), some (wi x1), some (wi x2), some (wi x3)] [] V (zv K) := by
  intro G A hR
  obtain ⟨L, P, rfl, hS⟩ := hR
  have hx := Xt.refl (V := pl G A L P) (A := A)
  show wp E d M_X12_weighPlan 2 [some (vr (A 6 0)), some (vi x1), some (vi x2), some (vi x3)] [] G _
  refine v_X12_weighPlan_2 h0 ?_
  refine ⟨hS.o (s6_0 hS), ?_⟩
  refine wpM.mono (h G A ⟨L, P, rfl, hS⟩) (fun rr1 G1 hr => ?_)
  obtain ⟨A1, W1, w1, ⟨L1, P1, rfl, hS1⟩, hy1, rfl, r1, rfl, h⟩ := hr
  refine ⟨r1, rfl, ?_⟩
  have hx1 := Xt.trans hx hy1
  have ee2 : A1 6 0 = A 6 0 := hy1.2 _ _ hS.1.2.1 (((n6_0 hS1)).trans ((n6_0 hS)).symm)
  try rw [← ee2]
  refine ⟨fun hc => ?_, fun hc => ?_⟩
  · have h := h.1 hc
    exact wp.mono (h G1 A1 ⟨L1, P1, rfl, hS1⟩) (fun r G' q => qx_trans hx1 q)
  · have h := h.2 hc
    refine ⟨hS1.o (s6_0 hS1), ?_⟩
    rw [l6_0_52 hS1]
    rw [l6_0_21 hS1]
    refine wpM.mono (h G1 A1 ⟨L1, P1, rfl, hS1⟩) (fun rr3 G3 hr => ?_)
    obtain ⟨A3, W3, w3, ⟨L3, P3, rfl, hS3⟩, hy3, rfl, r3, rfl, h⟩ := hr
    refine ⟨r3, rfl, ?_⟩
    have hx3 := Xt.trans hx1 hy3
    have ee4 : A3 6 0 = A1 6 0 := hy3.2 _ _ hS1.1.2.1 (((n6_0 hS3)).trans ((n6_0 hS1)).symm)
    try rw [← ee4]
    have ee5 : A3 6 18 = A1 6 18 := hy3.2 _ _ hS1.1.2.1 (((n6_18 hS3)).trans ((n6_18 hS1)).symm)
    try rw [← ee5]
    have ee6 : A3 6 35 = A1 6 35 := hy3.2 _ _ hS1.1.2.1 (((n6_35 hS3)).trans ((n6_35 hS1)).symm)
    try rw [← ee6]
    refine ⟨hS3.o (s6_18 hS3), ?_⟩
    obtain ⟨hi7, h⟩ := h
    refine ⟨by first | (rw [(n6_18 hS3)]; exact hi7) | exact (congrArg (vp_in _) (n6_18 hS3)).mpr hi7 | exact hi7, ?_⟩
    refine ⟨hS3.o (s6_35 hS3), ?_⟩
    obtain ⟨hi8, h⟩ := h
    refine ⟨by first | (rw [(n6_35 hS3)]; exact hi8) | exact (congrArg (vp_in _) (n6_35 hS3)).mpr hi8 | exact hi8, ?_⟩
    have hS9 : Sh E (sI G3 (A3 6 35) (Int32.toNatClampNeg x3) (gI G3 (A3 6 18) (Int32.toNatClampNeg ((20 * ((12 * x1) + x3)) + r3)))) A3 L3 P3 := Sh_sI (rfl : sI G3 (A3 6 35) (Int32.toNatClampNeg x3) (gI G3 (A3 6 18) (Int32.toNatClampNeg ((20 * ((12 * x1) + x3)) + r3))) = sI G3 (A3 6 35) (Int32.toNatClampNeg x3) (gI G3 (A3 6 18) (Int32.toNatClampNeg ((20 * ((12 * x1) + x3)) + r3)))) hS3 (s6_35 hS3) (okT_0 rfl)
    have h := h (pl (sI G3 (A3 6 35) (Int32.toNatClampNeg x3) (gI G3 (A3 6 18) (Int32.toNatClampNeg ((20 * ((12 * x1) + x3)) + r3)))) A3 L3 P3) (pl_sI (rfl : sI G3 (A3 6 35) (Int32.toNatClampNeg x3) (gI G3 (A3 6 18) (Int32.toNatClampNeg ((20 * ((12 * x1) + x3)) + r3))) = sI G3 (A3 6 35) (Int32.toNatClampNeg x3) (gI G3 (A3 6 18) (Int32.toNatClampNeg ((20 * ((12 * x1) + x3)) + r3)))) hS3 (s6_35 hS3))
    have hx9 : Xt (pl G A L P) A (pl (sI G3 (A3 6 35) (Int32.toNatClampNeg x3) (gI G3 (A3 6 18) (Int32.toNatClampNeg ((20 * ((12 * x1) + x3)) + r3)))) A3 L3 P3) A3 := Xt_sI (rfl : sI G3 (A3 6 35) (Int32.toNatClampNeg x3) (gI G3 (A3 6 18) (Int32.toNatClampNeg ((20 * ((12 * x1) + x3)) + r3))) = sI G3 (A3 6 35) (Int32.toNatClampNeg x3) (gI G3 (A3 6 18) (Int32.toNatClampNeg ((20 * ((12 * x1) + x3)) + r3)))) hx3
    exact wp.mono (h (sI G3 (A3 6 35) (Int32.toNatClampNeg x3) (gI G3 (A3 6 18) (Int32.toNatClampNeg ((20 * ((12 * x1) + x3)) + r3)))) A3 ⟨L3, P3, rfl, hS9⟩) (fun r G' q => qx_trans hx9 q)
theorem w_X12_weighPlan_47 {E : EE} {d : Nat} {V : VH} {K : VH → Prop} {x1 : Int32} {x2 : Int32} {x3 : Int32}  (h : (3 ≤ x3 → vwp E d M_X12_weighPlan 73 [some (sl 6 0), some (wi x1), some (wi x2), some (wi 0)] [] V (zv K)) ∧ (¬ (3 ≤ x3) → vp_in ((20000 * x3) + x2) 60000 ∧ (∀ V2 : VH, V2 = wrJ V 6 45 (Int32.toNatClampNeg ((20000 * x3) + x2)) 0 → vwp E d M_X12_weighPlan 47 [some (sl 6 0), some (wi x1), some (wi x2), some (wi (x3 + 1))] [] V2 (zv K)))) : vwp E d M_X12_weighPlan 47 [some (sl 6 0), some (wi x1), some (wi x2), some (wi x3)] [] V (zv K) := by
  intro G A hR
  obtain ⟨L, P, rfl, hS⟩ := hR
  have hx := Xt.refl (V := pl G A L P) (A := A)
  show wp E d M_X12_weighPlan 47 [some (vr (A 6 0)), some (vi x1), some (vi x2), some (vi x3)] [] G _
  refine v_X12_weighPlan_47 ?_
  refine ⟨fun hc => ?_, fun hc => ?_⟩
  · have h := h.1 hc
    exact wp.mono (h G A ⟨L, P, rfl, hS⟩) (fun r G' q => qx_trans hx q)
  · have h := h.2 hc
    refine ⟨hS.o (s6_0 hS), ?_⟩
    rw [l6_0_66 hS]
    refine ⟨hS.o (s6_45 hS), ?_⟩
    obtain ⟨hi1, h⟩ := h
    refine ⟨by first | (rw [(n6_45 hS)]; exact hi1) | exact (congrArg (vp_in _) (n6_45 hS)).mpr hi1 | exact hi1, ?_⟩
    have hS2 : Sh E (sJ G (A 6 45) (Int32.toNatClampNeg ((20000 * x3) + x2)) 0) A L P := Sh_sJ (rfl : sJ G (A 6 45) (Int32.toNatClampNeg ((20000 * x3) + x2)) 0 = sJ G (A 6 45) (Int32.toNatClampNeg ((20000 * x3) + x2)) 0) hS
    have h := h (pl (sJ G (A 6 45) (Int32.toNatClampNeg ((20000 * x3) + x2)) 0) A L P) (pl_sJ (rfl : sJ G (A 6 45) (Int32.toNatClampNeg ((20000 * x3) + x2)) 0 = sJ G (A 6 45) (Int32.toNatClampNeg ((20000 * x3) + x2)) 0) hS (s6_45 hS))
    have hx2 : Xt (pl G A L P) A (pl (sJ G (A 6 45) (Int32.toNatClampNeg ((20000 * x3) + x2)) 0) A L P) A := Xt_sJ (rfl : sJ G (A 6 45) (Int32.toNatClampNeg ((20000 * x3) + x2)) 0 = sJ G (A 6 45) (Int32.toNatClampNeg ((20000 * x3) + x2)) 0) hx
    exact wp.mono (h (sJ G (A 6 45) (Int32.toNatClampNeg ((20000 * x3) + x2)) 0) A ⟨L, P, rfl, hS2⟩) (fun r G' q => qx_trans hx2 q)
theorem w_X12_weighPlan_73 {E : EE} {d : Nat} {V : VH} {K : VH → Prop} {x1 : Int32} {x2 : Int32} {x3 : Int32}  (h0 : 0 < d) (h : vMI E (d - 1) M_X12_rulesOf [sl 6 0, wi x1] V (fun r1 V1 => (r1 ≤ x3 → vwp E d M_X12_weighPlan 173 [some (sl 6 0), some (wi x1), some (wi x2), some (wi 0)] [] V1 (zv K)) ∧ (¬ (r1 ≤ x3) → vp_in ((24 * x1) + x3) 120 ∧ (∀ V4 : VH, V4 = wrI V1 6 0 54 (vI V1 6 26 (Int32.toNatClampNeg ((24 * x1) + x3))) → vMJ E (d - 1) M_X12_testValue [sl 6 0] V4 (fun r5 V5 => vp_in ((20000 * x3) + x2) 480000 ∧ (∀ V9 : VH, V9 = wrI V5 6 43 (Int32.toNatClampNeg ((20000 * x3) + x2)) (Int64.toInt32 r5) → vp_in ((24 * x1) + x3) 120 ∧ (vp_in ((20000 * (vI V9 6 24 (Int32.toNatClampNeg ((24 * x1) + x3)))) + x2) 60000 ∧ (vp_in ((24 * x1) + x3) 120 ∧ (vp_in ((20000 * x3) + x2) 480000 ∧ (vp_in ((20000 * (vI V9 6 24 (Int32.toNatClampNeg ((24 * x1) + x3)))) + x2) 60000 ∧ (∀ V15 : VH, V15 = wrJ V9 6 45 (Int32.toNatClampNeg ((20000 * (vI V9 6 24 (Int32.toNatClampNeg ((24 * x1) + x3)))) + x2)) ((vJ V9 6 45 (Int32.toNatClampNeg ((20000 * (vI V9 6 24 (Int32.toNatClampNeg ((24 * x1) + x3)))) + x2))) + ((Int32.toInt64 (vI V9 6 25 (Int32.toNatClampNeg ((24 * x1) + x3)))) * (Int32.toInt64 (vI V9 6 43 (Int32.toNatClampNeg ((20000 * x3) + x2)))))) → vwp E d M_X12_weighPlan 73 [some (sl 6 0), some (wi x1), some (wi x2), some (wi (x3 + 1))] [] V15 (zv K)))))))))))) : vwp E d M_X12_weighPlan 73 [some (sl 6 0), some (wi x1), some (wi x2), some (wi x3)] [] V (zv K) := by
  intro G A hR
  obtain ⟨L, P, rfl, hS⟩ := hR
  have hx := Xt.refl (V := pl G A L P) (A := A)
  show wp E d M_X12_weighPlan 73 [some (vr (A 6 0)), some (vi x1), some (vi x2), some (vi x3)] [] G _
  refine v_X12_weighPlan_73 h0 ?_
  refine ⟨hS.o (s6_0 hS), ?_⟩
  refine wpM.mono (h G A ⟨L, P, rfl, hS⟩) (fun rr1 G1 hr => ?_)
  obtain ⟨A1, W1, w1, ⟨L1, P1, rfl, hS1⟩, hy1, rfl, r1, rfl, h⟩ := hr
  refine ⟨r1, rfl, ?_⟩
  have hx1 := Xt.trans hx hy1
  have ee2 : A1 6 0 = A 6 0 := hy1.2 _ _ hS.1.2.1 (((n6_0 hS1)).trans ((n6_0 hS)).symm)
  try rw [← ee2]
  refine ⟨fun hc => ?_, fun hc => ?_⟩
  · have h := h.1 hc
    exact wp.mono (h G1 A1 ⟨L1, P1, rfl, hS1⟩) (fun r G' q => qx_trans hx1 q)
  · have h := h.2 hc
    refine ⟨hS1.o (s6_0 hS1), ?_⟩
    rw [l6_0_29 hS1]
    refine ⟨hS1.o (s6_26 hS1), ?_⟩
    obtain ⟨hi3, h⟩ := h
    refine ⟨by first | (rw [(n6_26 hS1)]; exact hi3) | exact (congrArg (vp_in _) (n6_26 hS1)).mpr hi3 | exact hi3, ?_⟩
    intro G4 eG4
    have hS4 : Sh E G4 A1 L1 P1 := Sh_sI eG4 hS1 (s6_0 hS1) (okT_0 rfl)
    have h := h (pl G4 A1 L1 P1) (pl_sI eG4 hS1 (s6_0 hS1))
    have hx4 : Xt (pl G A L P) A (pl G4 A1 L1 P1) A1 := Xt_sI eG4 hx1
    rw [l6_0_64 hS4]
    refine wpM.mono (h G4 A1 ⟨L1, P1, rfl, hS4⟩) (fun rr5 G5 hr => ?_)
    obtain ⟨A5, W5, w5, ⟨L5, P5, rfl, hS5⟩, hy5, rfl, r5, rfl, h⟩ := hr
    refine ⟨r5, rfl, ?_⟩
    have hx5 := Xt.trans hx4 hy5
    have ee6 : A5 6 0 = A1 6 0 := hy5.2 _ _ hS4.1.2.1 (((n6_0 hS5)).trans ((n6_0 hS4)).symm)
    try rw [← ee6]
    have ee7 : A5 6 43 = A1 6 43 := hy5.2 _ _ hS4.1.2.1 (((n6_43 hS5)).trans ((n6_43 hS4)).symm)
    try rw [← ee7]
    refine ⟨hS5.o (s6_43 hS5), ?_⟩
    obtain ⟨hi8, h⟩ := h
    refine ⟨by first | (rw [(n6_43 hS5)]; exact hi8) | exact (congrArg (vp_in _) (n6_43 hS5)).mpr hi8 | exact hi8, ?_⟩
    intro G9 eG9
    have hS9 : Sh E G9 A5 L5 P5 := Sh_sI eG9 hS5 (s6_43 hS5) (okT_0 rfl)
    have h := h (pl G9 A5 L5 P5) (pl_sI eG9 hS5 (s6_43 hS5))
    have hx9 : Xt (pl G A L P) A (pl G9 A5 L5 P5) A5 := Xt_sI eG9 hx5
    refine ⟨hS9.o (s6_0 hS9), ?_⟩
    rw [l6_0_66 hS9]
    rw [l6_0_27 hS9]
    refine ⟨hS9.o (s6_24 hS9), ?_⟩
    obtain ⟨hi10, h⟩ := h
    refine ⟨by first | (rw [(n6_24 hS9)]; exact hi10) | exact (congrArg (vp_in _) (n6_24 hS9)).mpr hi10 | exact hi10, ?_⟩
    refine ⟨hS9.o (s6_45 hS9), ?_⟩
    obtain ⟨hi11, h⟩ := h
    refine ⟨by first | (rw [(n6_45 hS9)]; exact hi11) | exact (congrArg (vp_in _) (n6_45 hS9)).mpr hi11 | exact hi11, ?_⟩
    rw [l6_0_28 hS9]
    refine ⟨hS9.o (s6_25 hS9), ?_⟩
    obtain ⟨hi12, h⟩ := h
    refine ⟨by first | (rw [(n6_25 hS9)]; exact hi12) | exact (congrArg (vp_in _) (n6_25 hS9)).mpr hi12 | exact hi12, ?_⟩
    rw [l6_0_64 hS9]
    refine ⟨hS9.o (s6_43 hS9), ?_⟩
    obtain ⟨hi13, h⟩ := h
    refine ⟨by first | (rw [(n6_43 hS9)]; exact hi13) | exact (congrArg (vp_in _) (n6_43 hS9)).mpr hi13 | exact hi13, ?_⟩
    obtain ⟨hi14, h⟩ := h
    refine ⟨by first | (rw [(n6_45 hS9)]; exact hi14) | exact (congrArg (vp_in _) (n6_45 hS9)).mpr hi14 | exact hi14, ?_⟩
    intro G15 eG15
    have hS15 : Sh E G15 A5 L5 P5 := Sh_sJ eG15 hS9
    have h := h (pl G15 A5 L5 P5) (pl_sJ eG15 hS9 (s6_45 hS9))
    have hx15 : Xt (pl G A L P) A (pl G15 A5 L5 P5) A5 := Xt_sJ eG15 hx9
    exact wp.mono (h G15 A5 ⟨L5, P5, rfl, hS15⟩) (fun r G' q => qx_trans hx15 q)
theorem w_X12_weighPlan_173 {E : EE} {d : Nat} {V : VH} {K : VH → Prop} {x1 : Int32} {x2 : Int32} {x3 : Int32}  (h0 : 0 < d) (h : vMI E (d - 1) M_X12_aimsOf [sl 6 0, wi x1] V (fun r1 V1 => (r1 ≤ x3 → K V1) ∧ (¬ (r1 ≤ x3) → vp_in ((6 * x1) + x3) 30 ∧ (∀ V4 : VH, V4 = wrI V1 6 0 54 (vI V1 6 28 (Int32.toNatClampNeg ((6 * x1) + x3))) → vMJ E (d - 1) M_X12_sumValue [sl 6 0] V4 (fun r5 V5 => vp_in ((20000 * x3) + x2) 120000 ∧ (∀ V9 : VH, V9 = wrI V5 6 44 (Int32.toNatClampNeg ((20000 * x3) + x2)) (Int64.toInt32 r5) → vp_in ((6 * x1) + x3) 30 ∧ (vp_in ((20000 * (vI V9 6 27 (Int32.toNatClampNeg ((6 * x1) + x3)))) + x2) 60000 ∧ (vp_in ((20000 * x3) + x2) 120000 ∧ (vp_in ((20000 * (vI V9 6 27 (Int32.toNatClampNeg ((6 * x1) + x3)))) + x2) 60000 ∧ (∀ V14 : VH, V14 = wrJ V9 6 45 (Int32.toNatClampNeg ((20000 * (vI V9 6 27 (Int32.toNatClampNeg ((6 * x1) + x3)))) + x2)) ((vJ V9 6 45 (Int32.toNatClampNeg ((20000 * (vI V9 6 27 (Int32.toNatClampNeg ((6 * x1) + x3)))) + x2))) + (Int32.toInt64 (vI V9 6 44 (Int32.toNatClampNeg ((20000 * x3) + x2))))) → vwp E d M_X12_weighPlan 173 [some (sl 6 0), some (wi x1), some (wi x2), some (wi (x3 + 1))] [] V14 (zv K))))))))))) : vwp E d M_X12_weighPlan 173 [some (sl 6 0), some (wi x1), some (wi x2), some (wi x3)] [] V (zv K) := by
  intro G A hR
  obtain ⟨L, P, rfl, hS⟩ := hR
  have hx := Xt.refl (V := pl G A L P) (A := A)
  show wp E d M_X12_weighPlan 173 [some (vr (A 6 0)), some (vi x1), some (vi x2), some (vi x3)] [] G _
  refine v_X12_weighPlan_173 h0 ?_
  refine ⟨hS.o (s6_0 hS), ?_⟩
  refine wpM.mono (h G A ⟨L, P, rfl, hS⟩) (fun rr1 G1 hr => ?_)
  obtain ⟨A1, W1, w1, ⟨L1, P1, rfl, hS1⟩, hy1, rfl, r1, rfl, h⟩ := hr
  refine ⟨r1, rfl, ?_⟩
  have hx1 := Xt.trans hx hy1
  have ee2 : A1 6 0 = A 6 0 := hy1.2 _ _ hS.1.2.1 (((n6_0 hS1)).trans ((n6_0 hS)).symm)
  try rw [← ee2]
  refine ⟨fun hc => ?_, fun hc => ?_⟩
  · have h := h.1 hc
    exact qx_v hS1 hx1 h
  · have h := h.2 hc
    refine ⟨hS1.o (s6_0 hS1), ?_⟩
    rw [l6_0_31 hS1]
    refine ⟨hS1.o (s6_28 hS1), ?_⟩
    obtain ⟨hi3, h⟩ := h
    refine ⟨by first | (rw [(n6_28 hS1)]; exact hi3) | exact (congrArg (vp_in _) (n6_28 hS1)).mpr hi3 | exact hi3, ?_⟩
    intro G4 eG4
    have hS4 : Sh E G4 A1 L1 P1 := Sh_sI eG4 hS1 (s6_0 hS1) (okT_0 rfl)
    have h := h (pl G4 A1 L1 P1) (pl_sI eG4 hS1 (s6_0 hS1))
    have hx4 : Xt (pl G A L P) A (pl G4 A1 L1 P1) A1 := Xt_sI eG4 hx1
    rw [l6_0_65 hS4]
    refine wpM.mono (h G4 A1 ⟨L1, P1, rfl, hS4⟩) (fun rr5 G5 hr => ?_)
    obtain ⟨A5, W5, w5, ⟨L5, P5, rfl, hS5⟩, hy5, rfl, r5, rfl, h⟩ := hr
    refine ⟨r5, rfl, ?_⟩
    have hx5 := Xt.trans hx4 hy5
    have ee6 : A5 6 0 = A1 6 0 := hy5.2 _ _ hS4.1.2.1 (((n6_0 hS5)).trans ((n6_0 hS4)).symm)
    try rw [← ee6]
    have ee7 : A5 6 44 = A1 6 44 := hy5.2 _ _ hS4.1.2.1 (((n6_44 hS5)).trans ((n6_44 hS4)).symm)
    try rw [← ee7]
    refine ⟨hS5.o (s6_44 hS5), ?_⟩
    obtain ⟨hi8, h⟩ := h
    refine ⟨by first | (rw [(n6_44 hS5)]; exact hi8) | exact (congrArg (vp_in _) (n6_44 hS5)).mpr hi8 | exact hi8, ?_⟩
    intro G9 eG9
    have hS9 : Sh E G9 A5 L5 P5 := Sh_sI eG9 hS5 (s6_44 hS5) (okT_0 rfl)
    have h := h (pl G9 A5 L5 P5) (pl_sI eG9 hS5 (s6_44 hS5))
    have hx9 : Xt (pl G A L P) A (pl G9 A5 L5 P5) A5 := Xt_sI eG9 hx5
    refine ⟨hS9.o (s6_0 hS9), ?_⟩
    rw [l6_0_66 hS9]
    rw [l6_0_30 hS9]
    refine ⟨hS9.o (s6_27 hS9), ?_⟩
    obtain ⟨hi10, h⟩ := h
    refine ⟨by first | (rw [(n6_27 hS9)]; exact hi10) | exact (congrArg (vp_in _) (n6_27 hS9)).mpr hi10 | exact hi10, ?_⟩
    refine ⟨hS9.o (s6_45 hS9), ?_⟩
    obtain ⟨hi11, h⟩ := h
    refine ⟨by first | (rw [(n6_45 hS9)]; exact hi11) | exact (congrArg (vp_in _) (n6_45 hS9)).mpr hi11 | exact hi11, ?_⟩
    rw [l6_0_65 hS9]
    refine ⟨hS9.o (s6_44 hS9), ?_⟩
    obtain ⟨hi12, h⟩ := h
    refine ⟨by first | (rw [(n6_44 hS9)]; exact hi12) | exact (congrArg (vp_in _) (n6_44 hS9)).mpr hi12 | exact hi12, ?_⟩
    obtain ⟨hi13, h⟩ := h
    refine ⟨by first | (rw [(n6_45 hS9)]; exact hi13) | exact (congrArg (vp_in _) (n6_45 hS9)).mpr hi13 | exact hi13, ?_⟩
    intro G14 eG14
    have hS14 : Sh E G14 A5 L5 P5 := Sh_sJ eG14 hS9
    have h := h (pl G14 A5 L5 P5) (pl_sJ eG14 hS9 (s6_45 hS9))
    have hx14 : Xt (pl G A L P) A (pl G14 A5 L5 P5) A5 := Xt_sJ eG14 hx9
    exact wp.mono (h G14 A5 ⟨L5, P5, rfl, hS14⟩) (fun r G' q => qx_trans hx14 q)
theorem w_X12_place_0 {E : EE} {d : Nat} {V : VH} {K : Int32 → VH → Prop} {x1 : Int32} {x2 : Int32} {x3 : Int32}  (h : vp_in ((12 * x1) + x3) 60 ∧ (¬ (vI V 6 17 (Int32.toNatClampNeg ((12 * x1) + x3))) = 0 ∧ (vp_in ((12 * x1) + x3) 60 ∧ (¬ (vI V 6 16 (Int32.toNatClampNeg ((12 * x1) + x3))) = 0 ∧ (K ((x2 / (vI V 6 17 (Int32.toNatClampNeg ((12 * x1) + x3)))) - (x2 / (vI V 6 17 (Int32.toNatClampNeg ((12 * x1) + x3)))) / (vI V 6 16 (Int32.toNatClampNeg ((12 * x1) + x3))) * (vI V 6 16 (Int32.toNatClampNeg ((12 * x1) + x3)))) V))))) : vMI E d M_X12_place [sl 6 0, wi x1, wi x2, wi x3] V K := by
  intro G A hR
  obtain ⟨L, P, rfl, hS⟩ := hR
  have hx := Xt.refl (V := pl G A L P) (A := A)
  show wpM E d M_X12_place [vr (A 6 0), vi x1, vi x2, vi x3] G _
  refine wpM_of mk_X12_place (Nat.le_of_ble_eq_true rfl) ?_
  refine v_X12_place_0 ?_
  refine ⟨hS.o (s6_0 hS), ?_⟩
  rw [l6_0_20 hS]
  refine ⟨hS.o (s6_17 hS), ?_⟩
  obtain ⟨hi1, h⟩ := h
  refine ⟨by first | (rw [(n6_17 hS)]; exact hi1) | exact (congrArg (vp_in _) (n6_17 hS)).mpr hi1 | exact hi1, ?_⟩
  obtain ⟨hz2, h⟩ := h
  refine ⟨hz2, ?_⟩
  rw [l6_0_19 hS]
  refine ⟨hS.o (s6_16 hS), ?_⟩
  obtain ⟨hi3, h⟩ := h
  refine ⟨by first | (rw [(n6_16 hS)]; exact hi3) | exact (congrArg (vp_in _) (n6_16 hS)).mpr hi3 | exact hi3, ?_⟩
  obtain ⟨hz4, h⟩ := h
  refine ⟨hz4, ?_⟩
  exact qx_i hS hx h
theorem w_X12_rulesOf_0 {E : EE} {d : Nat} {V : VH} {K : Int32 → VH → Prop} {x1 : Int32}  (h : vp_in ((4 * x1) + 2) 20 ∧ (K (vI V 6 14 (Int32.toNatClampNeg ((4 * x1) + 2))) V)) : vMI E d M_X12_rulesOf [sl 6 0, wi x1] V K := by
  intro G A hR
  obtain ⟨L, P, rfl, hS⟩ := hR
  have hx := Xt.refl (V := pl G A L P) (A := A)
  show wpM E d M_X12_rulesOf [vr (A 6 0), vi x1] G _
  refine wpM_of mk_X12_rulesOf (Nat.le_of_ble_eq_true rfl) ?_
  refine v_X12_rulesOf_0 ?_
  refine ⟨hS.o (s6_0 hS), ?_⟩
  rw [l6_0_17 hS]
  refine ⟨hS.o (s6_14 hS), ?_⟩
  obtain ⟨hi1, h⟩ := h
  refine ⟨by first | (rw [(n6_14 hS)]; exact hi1) | exact (congrArg (vp_in _) (n6_14 hS)).mpr hi1 | exact hi1, ?_⟩
  exact qx_i hS hx h
theorem w_X12_testValue_0 {E : EE} {d : Nat} {V : VH} {K : Int64 → VH → Prop}   (h0 : 0 < d) (h : vMJ E (d - 1) M_X12_orValue [sl 6 0] V (fun r1 V1 => vp_in (vI V1 6 0 54) 100000 ∧ ((¬ (vI V1 6 5 (Int32.toNatClampNeg (vI V1 6 0 54))) = 203 → K r1 V1) ∧ ((vI V1 6 5 (Int32.toNatClampNeg (vI V1 6 0 54))) = 203 → ∀ V4 : VH, V4 = wrI V1 6 0 54 ((vI V1 6 0 54) + 1) → vMJ E (d - 1) M_X12_testValue [sl 6 0] V4 (fun r5 V5 => (¬ r1 = 0 → vwp E d M_X12_testValue 46 [some (sl 6 0), some (wj r1), none, some (wj r5), none] [wj 0] V5 (zj K)) ∧ (r1 = 0 → vwp E d M_X12_testValue 46 [some (sl 6 0), some (wj r1), none, some (wj r5), none] [wj r5] V5 (zj K))))))) : vMJ E d M_X12_testValue [sl 6 0] V K := by
  intro G A hR
  obtain ⟨L, P, rfl, hS⟩ := hR
  have hx := Xt.refl (V := pl G A L P) (A := A)
  show wpM E d M_X12_testValue [vr (A 6 0)] G _
  refine wpM_of mk_X12_testValue (Nat.le_of_ble_eq_true rfl) ?_
  refine v_X12_testValue_0 h0 ?_
  refine ⟨hS.o (s6_0 hS), ?_⟩
  refine wpM.mono (h G A ⟨L, P, rfl, hS⟩) (fun rr1 G1 hr => ?_)
  obtain ⟨A1, W1, w1, ⟨L1, P1, rfl, hS1⟩, hy1, rfl, r1, rfl, h⟩ := hr
  refine ⟨r1, rfl, ?_⟩
  have hx1 := Xt.trans hx hy1
  have ee2 : A1 6 0 = A 6 0 := hy1.2 _ _ hS.1.2.1 (((n6_0 hS1)).trans ((n6_0 hS)).symm)
  try rw [← ee2]
  refine ⟨hS1.o (s6_0 hS1), ?_⟩
  rw [l6_0_8 hS1]
  refine ⟨hS1.o (s6_5 hS1), ?_⟩
  obtain ⟨hi3, h⟩ := h
  refine ⟨by first | (rw [(n6_5 hS1)]; exact hi3) | exact (congrArg (vp_in _) (n6_5 hS1)).mpr hi3 | exact hi3, ?_⟩
  refine ⟨fun hc => ?_, fun hc => ?_⟩
  · have h := h.1 hc
    exact qx_j hS1 hx1 h
  · have h := h.2 hc
    have hS4 : Sh E (sI G1 (A1 6 0) 54 ((gI G1 (A1 6 0) 54) + 1)) A1 L1 P1 := Sh_sI (rfl : sI G1 (A1 6 0) 54 ((gI G1 (A1 6 0) 54) + 1) = sI G1 (A1 6 0) 54 ((gI G1 (A1 6 0) 54) + 1)) hS1 (s6_0 hS1) (okT_0 rfl)
    have h := h (pl (sI G1 (A1 6 0) 54 ((gI G1 (A1 6 0) 54) + 1)) A1 L1 P1) (pl_sI (rfl : sI G1 (A1 6 0) 54 ((gI G1 (A1 6 0) 54) + 1) = sI G1 (A1 6 0) 54 ((gI G1 (A1 6 0) 54) + 1)) hS1 (s6_0 hS1))
    have hx4 : Xt (pl G A L P) A (pl (sI G1 (A1 6 0) 54 ((gI G1 (A1 6 0) 54) + 1)) A1 L1 P1) A1 := Xt_sI (rfl : sI G1 (A1 6 0) 54 ((gI G1 (A1 6 0) 54) + 1) = sI G1 (A1 6 0) 54 ((gI G1 (A1 6 0) 54) + 1)) hx1
    refine wpM.mono (h (sI G1 (A1 6 0) 54 ((gI G1 (A1 6 0) 54) + 1)) A1 ⟨L1, P1, rfl, hS4⟩) (fun rr5 G5 hr => ?_)
    obtain ⟨A5, W5, w5, ⟨L5, P5, rfl, hS5⟩, hy5, rfl, r5, rfl, h⟩ := hr
    refine ⟨r5, rfl, ?_⟩
    have hx5 := Xt.trans hx4 hy5
    have ee6 : A5 6 0 = A1 6 0 := hy5.2 _ _ hS4.1.2.1 (((n6_0 hS5)).trans ((n6_0 hS4)).symm)
    try rw [← ee6]
    refine ⟨fun hc => ?_, fun hc => ?_⟩
    · have h := h.1 hc
      exact wp.mono (h G5 A5 ⟨L5, P5, rfl, hS5⟩) (fun r G' q => qx_trans hx5 q)
    · have h := h.2 hc
      exact wp.mono (h G5 A5 ⟨L5, P5, rfl, hS5⟩) (fun r G' q => qx_trans hx5 q)
theorem w_X12_testValue_46 {E : EE} {d : Nat} {V : VH} {K : Int64 → VH → Prop} {x1 : Int64} {x3 : Int64} {t0 : Int64}  (h : K t0 V) : vwp E d M_X12_testValue 46 [some (sl 6 0), some (wj x1), none, some (wj x3), none] [wj t0] V (zj K) := by
  intro G A hR
  obtain ⟨L, P, rfl, hS⟩ := hR
  have hx := Xt.refl (V := pl G A L P) (A := A)
  show wp E d M_X12_testValue 46 [some (vr (A 6 0)), some (vj x1), none, some (vj x3), none] [vj t0] G _
  refine v_X12_testValue_46 ?_
  exact qx_j hS hx h
theorem w_X12_orValue_0 {E : EE} {d : Nat} {V : VH} {K : Int64 → VH → Prop}   (h0 : 0 < d) (h : vMJ E (d - 1) M_X12_andValue [sl 6 0] V (fun r1 V1 => vwp E d M_X12_orValue 5 [some (sl 6 0), some (wj r1), none, none, none] [] V1 (zj K))) : vMJ E d M_X12_orValue [sl 6 0] V K := by
  intro G A hR
  obtain ⟨L, P, rfl, hS⟩ := hR
  have hx := Xt.refl (V := pl G A L P) (A := A)
  show wpM E d M_X12_orValue [vr (A 6 0)] G _
  refine wpM_of mk_X12_orValue (Nat.le_of_ble_eq_true rfl) ?_
  refine v_X12_orValue_0 h0 ?_
  refine ⟨hS.o (s6_0 hS), ?_⟩
  refine wpM.mono (h G A ⟨L, P, rfl, hS⟩) (fun rr1 G1 hr => ?_)
  obtain ⟨A1, W1, w1, ⟨L1, P1, rfl, hS1⟩, hy1, rfl, r1, rfl, h⟩ := hr
  refine ⟨r1, rfl, ?_⟩
  have hx1 := Xt.trans hx hy1
  have ee2 : A1 6 0 = A 6 0 := hy1.2 _ _ hS.1.2.1 (((n6_0 hS1)).trans ((n6_0 hS)).symm)
  try rw [← ee2]
  exact wp.mono (h G1 A1 ⟨L1, P1, rfl, hS1⟩) (fun r G' q => qx_trans hx1 q)
theorem w_X12_orValue_5 {E : EE} {d : Nat} {V : VH} {K : Int64 → VH → Prop} {x1 : Int64}  (h0 : 0 < d) (h : vp_in (vI V 6 0 54) 100000 ∧ ((¬ (vI V 6 5 (Int32.toNatClampNeg (vI V 6 0 54))) = 124 → K x1 V) ∧ ((vI V 6 5 (Int32.toNatClampNeg (vI V 6 0 54))) = 124 → ∀ V2 : VH, V2 = wrI V 6 0 54 ((vI V 6 0 54) + 1) → vMJ E (d - 1) M_X12_andValue [sl 6 0] V2 (fun r3 V3 => (x1 ≤ r3 → vwp E d M_X12_orValue 45 [some (sl 6 0), some (wj x1), none, some (wj r3), none] [wj x1] V3 (zj K)) ∧ (¬ (x1 ≤ r3) → vwp E d M_X12_orValue 45 [some (sl 6 0), some (wj x1), none, some (wj r3), none] [wj r3] V3 (zj K)))))) : vwp E d M_X12_orValue 5 [some (sl 6 0), some (wj x1), none, none, none] [] V (zj K) := by
  intro G A hR
  obtain ⟨L, P, rfl, hS⟩ := hR
  have hx := Xt.refl (V := pl G A L P) (A := A)
  show wp E d M_X12_orValue 5 [some (vr (A 6 0)), some (vj x1), none, none, none] [] G _
  refine v_X12_orValue_5 h0 ?_
  refine ⟨hS.o (s6_0 hS), ?_⟩
  rw [l6_0_8 hS]
  refine ⟨hS.o (s6_5 hS), ?_⟩
  obtain ⟨hi1, h⟩ := h
  refine ⟨by first | (rw [(n6_5 hS)]; exact hi1) | exact (congrArg (vp_in _) (n6_5 hS)).mpr hi1 | exact hi1, ?_⟩
  refine ⟨fun hc => ?_, fun hc => ?_⟩
  · have h := h.1 hc
    exact qx_j hS hx h
  · have h := h.2 hc
    have hS2 : Sh E (sI G (A 6 0) 54 ((gI G (A 6 0) 54) + 1)) A L P := Sh_sI (rfl : sI G (A 6 0) 54 ((gI G (A 6 0) 54) + 1) = sI G (A 6 0) 54 ((gI G (A 6 0) 54) + 1)) hS (s6_0 hS) (okT_0 rfl)
    have h := h (pl (sI G (A 6 0) 54 ((gI G (A 6 0) 54) + 1)) A L P) (pl_sI (rfl : sI G (A 6 0) 54 ((gI G (A 6 0) 54) + 1) = sI G (A 6 0) 54 ((gI G (A 6 0) 54) + 1)) hS (s6_0 hS))
    have hx2 : Xt (pl G A L P) A (pl (sI G (A 6 0) 54 ((gI G (A 6 0) 54) + 1)) A L P) A := Xt_sI (rfl : sI G (A 6 0) 54 ((gI G (A 6 0) 54) + 1) = sI G (A 6 0) 54 ((gI G (A 6 0) 54) + 1)) hx
    refine wpM.mono (h (sI G (A 6 0) 54 ((gI G (A 6 0) 54) + 1)) A ⟨L, P, rfl, hS2⟩) (fun rr3 G3 hr => ?_)
    obtain ⟨A3, W3, w3, ⟨L3, P3, rfl, hS3⟩, hy3, rfl, r3, rfl, h⟩ := hr
    refine ⟨r3, rfl, ?_⟩
    have hx3 := Xt.trans hx2 hy3
    have ee4 : A3 6 0 = A 6 0 := hy3.2 _ _ hS2.1.2.1 (((n6_0 hS3)).trans ((n6_0 hS2)).symm)
    try rw [← ee4]
    refine ⟨fun hc => ?_, fun hc => ?_⟩
    · have h := h.1 hc
      exact wp.mono (h G3 A3 ⟨L3, P3, rfl, hS3⟩) (fun r G' q => qx_trans hx3 q)
    · have h := h.2 hc
      exact wp.mono (h G3 A3 ⟨L3, P3, rfl, hS3⟩) (fun r G' q => qx_trans hx3 q)
theorem w_X12_orValue_45 {E : EE} {d : Nat} {V : VH} {K : Int64 → VH → Prop} {x1 : Int64} {x3 : Int64} {t0 : Int64}  (h : vwp E d M_X12_orValue 5 [some (sl 6 0), some (wj t0), none, none, none] [] V (zj K)) : vwp E d M_X12_orValue 45 [some (sl 6 0), some (wj x1), none, some (wj x3), none] [wj t0] V (zj K) := by
  intro G A hR
  obtain ⟨L, P, rfl, hS⟩ := hR
  have hx := Xt.refl (V := pl G A L P) (A := A)
  show wp E d M_X12_orValue 45 [some (vr (A 6 0)), some (vj x1), none, some (vj x3), none] [vj t0] G _
  refine v_X12_orValue_45 ?_
  exact wp.mono (h G A ⟨L, P, rfl, hS⟩) (fun r G' q => qx_trans hx q)
theorem w_X12_andValue_0 {E : EE} {d : Nat} {V : VH} {K : Int64 → VH → Prop}   (h0 : 0 < d) (h : vMJ E (d - 1) M_X12_unitValue [sl 6 0] V (fun r1 V1 => vwp E d M_X12_andValue 5 [some (sl 6 0), some (wj r1), none, none, none] [] V1 (zj K))) : vMJ E d M_X12_andValue [sl 6 0] V K := by
  intro G A hR
  obtain ⟨L, P, rfl, hS⟩ := hR
  have hx := Xt.refl (V := pl G A L P) (A := A)
  show wpM E d M_X12_andValue [vr (A 6 0)] G _
  refine wpM_of mk_X12_andValue (Nat.le_of_ble_eq_true rfl) ?_
  refine v_X12_andValue_0 h0 ?_
  refine ⟨hS.o (s6_0 hS), ?_⟩
  refine wpM.mono (h G A ⟨L, P, rfl, hS⟩) (fun rr1 G1 hr => ?_)
  obtain ⟨A1, W1, w1, ⟨L1, P1, rfl, hS1⟩, hy1, rfl, r1, rfl, h⟩ := hr
  refine ⟨r1, rfl, ?_⟩
  have hx1 := Xt.trans hx hy1
  have ee2 : A1 6 0 = A 6 0 := hy1.2 _ _ hS.1.2.1 (((n6_0 hS1)).trans ((n6_0 hS)).symm)
  try rw [← ee2]
  exact wp.mono (h G1 A1 ⟨L1, P1, rfl, hS1⟩) (fun r G' q => qx_trans hx1 q)
theorem w_X12_andValue_5 {E : EE} {d : Nat} {V : VH} {K : Int64 → VH → Prop} {x1 : Int64}  (h0 : 0 < d) (h : vp_in (vI V 6 0 54) 100000 ∧ ((¬ (vI V 6 5 (Int32.toNatClampNeg (vI V 6 0 54))) = 38 → K x1 V) ∧ ((vI V 6 5 (Int32.toNatClampNeg (vI V 6 0 54))) = 38 → ∀ V2 : VH, V2 = wrI V 6 0 54 ((vI V 6 0 54) + 1) → vMJ E (d - 1) M_X12_unitValue [sl 6 0] V2 (fun r3 V3 => ((x1 + r3) ≤ 1000000 → vwp E d M_X12_andValue 53 [some (sl 6 0), some (wj x1), none, some (wj r3), none] [wj (x1 + r3)] V3 (zj K)) ∧ (¬ ((x1 + r3) ≤ 1000000) → vwp E d M_X12_andValue 53 [some (sl 6 0), some (wj x1), none, some (wj r3), none] [wj 1000000] V3 (zj K)))))) : vwp E d M_X12_andValue 5 [some (sl 6 0), some (wj x1), none, none, none] [] V (zj K) := by
  intro G A hR
  obtain ⟨L, P, rfl, hS⟩ := hR
  have hx := Xt.refl (V := pl G A L P) (A := A)
  show wp E d M_X12_andValue 5 [some (vr (A 6 0)), some (vj x1), none, none, none] [] G _
  refine v_X12_andValue_5 h0 ?_
  refine ⟨hS.o (s6_0 hS), ?_⟩
  rw [l6_0_8 hS]
  refine ⟨hS.o (s6_5 hS), ?_⟩
  obtain ⟨hi1, h⟩ := h
  refine ⟨by first | (rw [(n6_5 hS)]; exact hi1) | exact (congrArg (vp_in _) (n6_5 hS)).mpr hi1 | exact hi1, ?_⟩
  refine ⟨fun hc => ?_, fun hc => ?_⟩
  · have h := h.1 hc
    exact qx_j hS hx h
  · have h := h.2 hc
    have hS2 : Sh E (sI G (A 6 0) 54 ((gI G (A 6 0) 54) + 1)) A L P := Sh_sI (rfl : sI G (A 6 0) 54 ((gI G (A 6 0) 54) + 1) = sI G (A 6 0) 54 ((gI G (A 6 0) 54) + 1)) hS (s6_0 hS) (okT_0 rfl)
    have h := h (pl (sI G (A 6 0) 54 ((gI G (A 6 0) 54) + 1)) A L P) (pl_sI (rfl : sI G (A 6 0) 54 ((gI G (A 6 0) 54) + 1) = sI G (A 6 0) 54 ((gI G (A 6 0) 54) + 1)) hS (s6_0 hS))
    have hx2 : Xt (pl G A L P) A (pl (sI G (A 6 0) 54 ((gI G (A 6 0) 54) + 1)) A L P) A := Xt_sI (rfl : sI G (A 6 0) 54 ((gI G (A 6 0) 54) + 1) = sI G (A 6 0) 54 ((gI G (A 6 0) 54) + 1)) hx
    refine wpM.mono (h (sI G (A 6 0) 54 ((gI G (A 6 0) 54) + 1)) A ⟨L, P, rfl, hS2⟩) (fun rr3 G3 hr => ?_)
    obtain ⟨A3, W3, w3, ⟨L3, P3, rfl, hS3⟩, hy3, rfl, r3, rfl, h⟩ := hr
    refine ⟨r3, rfl, ?_⟩
    have hx3 := Xt.trans hx2 hy3
    have ee4 : A3 6 0 = A 6 0 := hy3.2 _ _ hS2.1.2.1 (((n6_0 hS3)).trans ((n6_0 hS2)).symm)
    try rw [← ee4]
    refine ⟨fun hc => ?_, fun hc => ?_⟩
    · have h := h.1 hc
      exact wp.mono (h G3 A3 ⟨L3, P3, rfl, hS3⟩) (fun r G' q => qx_trans hx3 q)
    · have h := h.2 hc
      exact wp.mono (h G3 A3 ⟨L3, P3, rfl, hS3⟩) (fun r G' q => qx_trans hx3 q)
theorem w_X12_andValue_53 {E : EE} {d : Nat} {V : VH} {K : Int64 → VH → Prop} {x1 : Int64} {x3 : Int64} {t0 : Int64}  (h : vwp E d M_X12_andValue 5 [some (sl 6 0), some (wj t0), none, none, none] [] V (zj K)) : vwp E d M_X12_andValue 53 [some (sl 6 0), some (wj x1), none, some (wj x3), none] [wj t0] V (zj K) := by
  intro G A hR
  obtain ⟨L, P, rfl, hS⟩ := hR
  have hx := Xt.refl (V := pl G A L P) (A := A)
  show wp E d M_X12_andValue 53 [some (vr (A 6 0)), some (vj x1), none, some (vj x3), none] [vj t0] G _
  refine v_X12_andValue_53 ?_
  exact wp.mono (h G A ⟨L, P, rfl, hS⟩) (fun r G' q => qx_trans hx q)
theorem w_X12_unitValue_0 {E : EE} {d : Nat} {V : VH} {K : Int64 → VH → Prop}   (h0 : 0 < d) (h : vp_in (vI V 6 0 54) 100000 ∧ ((¬ (vI V 6 5 (Int32.toNatClampNeg (vI V 6 0 54))) = 126 → (¬ (vI V 6 5 (Int32.toNatClampNeg (vI V 6 0 54))) = 123 → ((vI V 6 5 (Int32.toNatClampNeg (vI V 6 0 54))) < 306 → vwp E d M_X12_unitValue 199 [some (sl 6 0), some (wi (vI V 6 5 (Int32.toNatClampNeg (vI V 6 0 54)))), none, none, none, none, none] [] V (zj K)) ∧ (¬ ((vI V 6 5 (Int32.toNatClampNeg (vI V 6 0 54))) < 306) → (312 < (vI V 6 5 (Int32.toNatClampNeg (vI V 6 0 54))) → vwp E d M_X12_unitValue 199 [some (sl 6 0), some (wi (vI V 6 5 (Int32.toNatClampNeg (vI V 6 0 54)))), none, none, none, none, none] [] V (zj K)) ∧ (¬ (312 < (vI V 6 5 (Int32.toNatClampNeg (vI V 6 0 54)))) → ∀ V2 : VH, V2 = wrI V 6 0 54 ((vI V 6 0 54) + 2) → (¬ (vI V 6 5 (Int32.toNatClampNeg (vI V 6 0 54))) = 306 → (¬ (vI V 6 5 (Int32.toNatClampNeg (vI V 6 0 54))) = 307 → (¬ (vI V 6 5 (Int32.toNatClampNeg (vI V 6 0 54))) = 308 → (¬ (vI V 6 5 (Int32.toNatClampNeg (vI V 6 0 54))) = 309 → (¬ (vI V 6 5 (Int32.toNatClampNeg (vI V 6 0 54))) = 310 → (¬ (vI V 6 5 (Int32.toNatClampNeg (vI V 6 0 54))) = 311 → vMJ E (d - 1) M_X12_apartValue [sl 6 0] V2 (fun r3 V3 => vwp E d M_X12_unitValue 186 [some (sl 6 0), some (wi (vI V 6 5 (Int32.toNatClampNeg (vI V 6 0 54)))), none, none, none, none, none] [wj r3] V3 (zj K))) ∧ ((vI V 6 5 (Int32.toNatClampNeg (vI V 6 0 54))) = 311 → vMJ E (d - 1) M_X12_busyValue [sl 6 0] V2 (fun r5 V5 => vwp E d M_X12_unitValue 186 [some (sl 6 0), some (wi (vI V 6 5 (Int32.toNatClampNeg (vI V 6 0 54)))), none, none, none, none, none] [wj r5] V5 (zj K)))) ∧ ((vI V 6 5 (Int32.toNatClampNeg (vI V 6 0 54))) = 310 → vMJ E (d - 1) M_X12_autoValue [sl 6 0] V2 (fun r7 V7 => vwp E d M_X12_unitValue 186 [some (sl 6 0), some (wi (vI V 6 5 (Int32.toNatClampNeg (vI V 6 0 54)))), none, none, none, none, none] [wj r7] V7 (zj K)))) ∧ ((vI V 6 5 (Int32.toNatClampNeg (vI V 6 0 54))) = 309 → vMJ E (d - 1) M_X12_ringValue [sl 6 0] V2 (fun r9 V9 => vwp E d M_X12_unitValue 186 [some (sl 6 0), some (wi (vI V 6 5 (Int32.toNatClampNeg (vI V 6 0 54)))), none, none, none, none, none] [wj r9] V9 (zj K)))) ∧ ((vI V 6 5 (Int32.toNatClampNeg (vI V 6 0 54))) = 308 → vMJ E (d - 1) M_X12_lexValue [sl 6 0] V2 (fun r11 V11 => vwp E d M_X12_unitValue 186 [some (sl 6 0), some (wi (vI V 6 5 (Int32.toNatClampNeg (vI V 6 0 54)))), none, none, none, none, none] [wj r11] V11 (zj K)))) ∧ ((vI V 6 5 (Int32.toNatClampNeg (vI V 6 0 54))) = 307 → vMJ E (d - 1) M_X12_rowValue [sl 6 0] V2 (fun r13 V13 => vwp E d M_X12_unitValue 186 [some (sl 6 0), some (wi (vI V 6 5 (Int32.toNatClampNeg (vI V 6 0 54)))), none, none, none, none, none] [wj r13] V13 (zj K)))) ∧ ((vI V 6 5 (Int32.toNatClampNeg (vI V 6 0 54))) = 306 → vMJ E (d - 1) M_X12_allValue [sl 6 0] V2 (fun r15 V15 => vwp E d M_X12_unitValue 186 [some (sl 6 0), some (wi (vI V 6 5 (Int32.toNatClampNeg (vI V 6 0 54)))), none, none, none, none, none] [wj r15] V15 (zj K)))))) ∧ ((vI V 6 5 (Int32.toNatClampNeg (vI V 6 0 54))) = 123 → ∀ V17 : VH, V17 = wrI V 6 0 54 ((vI V 6 0 54) + 1) → vMJ E (d - 1) M_X12_testValue [sl 6 0] V17 (fun r18 V18 => ∀ V20 : VH, V20 = wrI V18 6 0 54 ((vI V18 6 0 54) + 1) → K r18 V20))) ∧ ((vI V 6 5 (Int32.toNatClampNeg (vI V 6 0 54))) = 126 → ∀ V21 : VH, V21 = wrI V 6 0 54 ((vI V 6 0 54) + 1) → vMJ E (d - 1) M_X12_unitValue [sl 6 0] V21 (fun r22 V22 => (¬ r22 = 0 → K 0 V22) ∧ (r22 = 0 → K 1 V22))))) : vMJ E d M_X12_unitValue [sl 6 0] V K := by
  intro G A hR
  obtain ⟨L, P, rfl, hS⟩ := hR
  have hx := Xt.refl (V := pl G A L P) (A := A)
  show wpM E d M_X12_unitValue [vr (A 6 0)] G _
  refine wpM_of mk_X12_unitValue (Nat.le_of_ble_eq_true rfl) ?_
  refine v_X12_unitValue_0 h0 ?_
  refine ⟨hS.o (s6_0 hS), ?_⟩
  rw [l6_0_8 hS]
  refine ⟨hS.o (s6_5 hS), ?_⟩
  obtain ⟨hi1, h⟩ := h
  refine ⟨by first | (rw [(n6_5 hS)]; exact hi1) | exact (congrArg (vp_in _) (n6_5 hS)).mpr hi1 | exact hi1, ?_⟩
  refine ⟨fun hc => ?_, fun hc => ?_⟩
  · have h := h.1 hc
    refine ⟨fun hc => ?_, fun hc => ?_⟩
    · have h := h.1 hc
      refine ⟨fun hc => ?_, fun hc => ?_⟩
      · have h := h.1 hc
        exact wp.mono (h G A ⟨L, P, rfl, hS⟩) (fun r G' q => qx_trans hx q)
      · have h := h.2 hc
        refine ⟨fun hc => ?_, fun hc => ?_⟩
        · have h := h.1 hc
          exact wp.mono (h G A ⟨L, P, rfl, hS⟩) (fun r G' q => qx_trans hx q)
        · have h := h.2 hc
          intro G2 eG2
          have hS2 : Sh E G2 A L P := Sh_sI eG2 hS (s6_0 hS) (okT_0 rfl)
          have h := h (pl G2 A L P) (pl_sI eG2 hS (s6_0 hS))
          have hx2 : Xt (pl G A L P) A (pl G2 A L P) A := Xt_sI eG2 hx
          refine ⟨fun hc => ?_, fun hc => ?_⟩
          · have h := h.1 hc
            refine ⟨fun hc => ?_, fun hc => ?_⟩
            · have h := h.1 hc
              refine ⟨fun hc => ?_, fun hc => ?_⟩
              · have h := h.1 hc
                refine ⟨fun hc => ?_, fun hc => ?_⟩
                · have h := h.1 hc
                  refine ⟨fun hc => ?_, fun hc => ?_⟩
                  · have h := h.1 hc
                    refine ⟨fun hc => ?_, fun hc => ?_⟩
                    · have h := h.1 hc
                      refine wpM.mono (h G2 A ⟨L, P, rfl, hS2⟩) (fun rr3 G3 hr => ?_)
                      obtain ⟨A3, W3, w3, ⟨L3, P3, rfl, hS3⟩, hy3, rfl, r3, rfl, h⟩ := hr
                      refine ⟨r3, rfl, ?_⟩
                      have hx3 := Xt.trans hx2 hy3
                      have ee4 : A3 6 0 = A 6 0 := hy3.2 _ _ hS2.1.2.1 (((n6_0 hS3)).trans ((n6_0 hS2)).symm)
                      try rw [← ee4]
                      try rw [show gI G (A3 6 0) = gI G (A 6 0) from by rw [ee4]]
                      exact wp.mono (h G3 A3 ⟨L3, P3, rfl, hS3⟩) (fun r G' q => qx_trans hx3 q)
                    · have h := h.2 hc
                      refine wpM.mono (h G2 A ⟨L, P, rfl, hS2⟩) (fun rr5 G5 hr => ?_)
                      obtain ⟨A5, W5, w5, ⟨L5, P5, rfl, hS5⟩, hy5, rfl, r5, rfl, h⟩ := hr
                      refine ⟨r5, rfl, ?_⟩
                      have hx5 := Xt.trans hx2 hy5
                      have ee6 : A5 6 0 = A 6 0 := hy5.2 _ _ hS2.1.2.1 (((n6_0 hS5)).trans ((n6_0 hS2)).symm)
                      try rw [← ee6]
                      try rw [show gI G (A5 6 0) = gI G (A 6 0) from by rw [ee6]]
                      exact wp.mono (h G5 A5 ⟨L5, P5, rfl, hS5⟩) (fun r G' q => qx_trans hx5 q)
                  · have h := h.2 hc
                    refine wpM.mono (h G2 A ⟨L, P, rfl, hS2⟩) (fun rr7 G7 hr => ?_)
                    obtain ⟨A7, W7, w7, ⟨L7, P7, rfl, hS7⟩, hy7, rfl, r7, rfl, h⟩ := hr
                    refine ⟨r7, rfl, ?_⟩
                    have hx7 := Xt.trans hx2 hy7
                    have ee8 : A7 6 0 = A 6 0 := hy7.2 _ _ hS2.1.2.1 (((n6_0 hS7)).trans ((n6_0 hS2)).symm)
                    try rw [← ee8]
                    try rw [show gI G (A7 6 0) = gI G (A 6 0) from by rw [ee8]]
                    exact wp.mono (h G7 A7 ⟨L7, P7, rfl, hS7⟩) (fun r G' q => qx_trans hx7 q)
                · have h := h.2 hc
                  refine wpM.mono (h G2 A ⟨L, P, rfl, hS2⟩) (fun rr9 G9 hr => ?_)
                  obtain ⟨A9, W9, w9, ⟨L9, P9, rfl, hS9⟩, hy9, rfl, r9, rfl, h⟩ := hr
                  refine ⟨r9, rfl, ?_⟩
                  have hx9 := Xt.trans hx2 hy9
                  have ee10 : A9 6 0 = A 6 0 := hy9.2 _ _ hS2.1.2.1 (((n6_0 hS9)).trans ((n6_0 hS2)).symm)
                  try rw [← ee10]
                  try rw [show gI G (A9 6 0) = gI G (A 6 0) from by rw [ee10]]
                  exact wp.mono (h G9 A9 ⟨L9, P9, rfl, hS9⟩) (fun r G' q => qx_trans hx9 q)
              · have h := h.2 hc
                refine wpM.mono (h G2 A ⟨L, P, rfl, hS2⟩) (fun rr11 G11 hr => ?_)
                obtain ⟨A11, W11, w11, ⟨L11, P11, rfl, hS11⟩, hy11, rfl, r11, rfl, h⟩ := hr
                refine ⟨r11, rfl, ?_⟩
                have hx11 := Xt.trans hx2 hy11
                have ee12 : A11 6 0 = A 6 0 := hy11.2 _ _ hS2.1.2.1 (((n6_0 hS11)).trans ((n6_0 hS2)).symm)
                try rw [← ee12]
                try rw [show gI G (A11 6 0) = gI G (A 6 0) from by rw [ee12]]
                exact wp.mono (h G11 A11 ⟨L11, P11, rfl, hS11⟩) (fun r G' q => qx_trans hx11 q)
            · have h := h.2 hc
              refine wpM.mono (h G2 A ⟨L, P, rfl, hS2⟩) (fun rr13 G13 hr => ?_)
              obtain ⟨A13, W13, w13, ⟨L13, P13, rfl, hS13⟩, hy13, rfl, r13, rfl, h⟩ := hr
              refine ⟨r13, rfl, ?_⟩
              have hx13 := Xt.trans hx2 hy13
              have ee14 : A13 6 0 = A 6 0 := hy13.2 _ _ hS2.1.2.1 (((n6_0 hS13)).trans ((n6_0 hS2)).symm)
              try rw [← ee14]
              try rw [show gI G (A13 6 0) = gI G (A 6 0) from by rw [ee14]]
              exact wp.mono (h G13 A13 ⟨L13, P13, rfl, hS13⟩) (fun r G' q => qx_trans hx13 q)
          · have h := h.2 hc
            refine wpM.mono (h G2 A ⟨L, P, rfl, hS2⟩) (fun rr15 G15 hr => ?_)
            obtain ⟨A15, W15, w15, ⟨L15, P15, rfl, hS15⟩, hy15, rfl, r15, rfl, h⟩ := hr
            refine ⟨r15, rfl, ?_⟩
            have hx15 := Xt.trans hx2 hy15
            have ee16 : A15 6 0 = A 6 0 := hy15.2 _ _ hS2.1.2.1 (((n6_0 hS15)).trans ((n6_0 hS2)).symm)
            try rw [← ee16]
            try rw [show gI G (A15 6 0) = gI G (A 6 0) from by rw [ee16]]
            exact wp.mono (h G15 A15 ⟨L15, P15, rfl, hS15⟩) (fun r G' q => qx_trans hx15 q)
    · have h := h.2 hc
      intro G17 eG17
      have hS17 : Sh E G17 A L P := Sh_sI eG17 hS (s6_0 hS) (okT_0 rfl)
      have h := h (pl G17 A L P) (pl_sI eG17 hS (s6_0 hS))
      have hx17 : Xt (pl G A L P) A (pl G17 A L P) A := Xt_sI eG17 hx
      refine wpM.mono (h G17 A ⟨L, P, rfl, hS17⟩) (fun rr18 G18 hr => ?_)
      obtain ⟨A18, W18, w18, ⟨L18, P18, rfl, hS18⟩, hy18, rfl, r18, rfl, h⟩ := hr
      refine ⟨r18, rfl, ?_⟩
      have hx18 := Xt.trans hx17 hy18
      have ee19 : A18 6 0 = A 6 0 := hy18.2 _ _ hS17.1.2.1 (((n6_0 hS18)).trans ((n6_0 hS17)).symm)
      try rw [← ee19]
      try rw [show gI G (A18 6 0) = gI G (A 6 0) from by rw [ee19]]
      refine ⟨hS18.o (s6_0 hS18), ?_⟩
      intro G20 eG20
      have hS20 : Sh E G20 A18 L18 P18 := Sh_sI eG20 hS18 (s6_0 hS18) (okT_0 rfl)
      have h := h (pl G20 A18 L18 P18) (pl_sI eG20 hS18 (s6_0 hS18))
      have hx20 : Xt (pl G A L P) A (pl G20 A18 L18 P18) A18 := Xt_sI eG20 hx18
      exact qx_j hS20 hx20 h
  · have h := h.2 hc
    intro G21 eG21
    have hS21 : Sh E G21 A L P := Sh_sI eG21 hS (s6_0 hS) (okT_0 rfl)
    have h := h (pl G21 A L P) (pl_sI eG21 hS (s6_0 hS))
    have hx21 : Xt (pl G A L P) A (pl G21 A L P) A := Xt_sI eG21 hx
    refine wpM.mono (h G21 A ⟨L, P, rfl, hS21⟩) (fun rr22 G22 hr => ?_)
    obtain ⟨A22, W22, w22, ⟨L22, P22, rfl, hS22⟩, hy22, rfl, r22, rfl, h⟩ := hr
    refine ⟨r22, rfl, ?_⟩
    have hx22 := Xt.trans hx21 hy22
    have ee23 : A22 6 0 = A 6 0 := hy22.2 _ _ hS21.1.2.1 (((n6_0 hS22)).trans ((n6_0 hS21)).symm)
    try rw [← ee23]
    try rw [show gI G (A22 6 0) = gI G (A 6 0) from by rw [ee23]]
    refine ⟨fun hc => ?_, fun hc => ?_⟩
    · have h := h.1 hc
      exact qx_j hS22 hx22 h
    · have h := h.2 hc
      exact qx_j hS22 hx22 h
theorem w_X12_unitValue_186 {E : EE} {d : Nat} {V : VH} {K : Int64 → VH → Prop} {x1 : Int32} {t0 : Int64}  (h : ∀ V1 : VH, V1 = wrI V 6 0 54 ((vI V 6 0 54) + 1) → K t0 V1) : vwp E d M_X12_unitValue 186 [some (sl 6 0), some (wi x1), none, none, none, none, none] [wj t0] V (zj K) := by
  intro G A hR
  obtain ⟨L, P, rfl, hS⟩ := hR
  have hx := Xt.refl (V := pl G A L P) (A := A)
  show wp E d M_X12_unitValue 186 [some (vr (A 6 0)), some (vi x1), none, none, none, none, none] [vj t0] G _
  refine v_X12_unitValue_186 ?_
  refine ⟨hS.o (s6_0 hS), ?_⟩
  have hS1 : Sh E (sI G (A 6 0) 54 ((gI G (A 6 0) 54) + 1)) A L P := Sh_sI (rfl : sI G (A 6 0) 54 ((gI G (A 6 0) 54) + 1) = sI G (A 6 0) 54 ((gI G (A 6 0) 54) + 1)) hS (s6_0 hS) (okT_0 rfl)
  have h := h (pl (sI G (A 6 0) 54 ((gI G (A 6 0) 54) + 1)) A L P) (pl_sI (rfl : sI G (A 6 0) 54 ((gI G (A 6 0) 54) + 1) = sI G (A 6 0) 54 ((gI G (A 6 0) 54) + 1)) hS (s6_0 hS))
  have hx1 : Xt (pl G A L P) A (pl (sI G (A 6 0) 54 ((gI G (A 6 0) 54) + 1)) A L P) A := Xt_sI (rfl : sI G (A 6 0) 54 ((gI G (A 6 0) 54) + 1) = sI G (A 6 0) 54 ((gI G (A 6 0) 54) + 1)) hx
  exact qx_j hS1 hx1 h
theorem w_X12_unitValue_199 {E : EE} {d : Nat} {V : VH} {K : Int64 → VH → Prop} {x1 : Int32}  (h0 : 0 < d) (h : vMJ E (d - 1) M_X12_sumValue [sl 6 0] V (fun r1 V1 => vp_in (vI V1 6 0 54) 100000 ∧ (∀ V4 : VH, V4 = wrI V1 6 0 54 ((vI V1 6 0 54) + 1) → vMJ E (d - 1) M_X12_sumValue [sl 6 0] V4 (fun r5 V5 => ((vI V1 6 5 (Int32.toNatClampNeg (vI V1 6 0 54))) = 35 → (¬ r1 = r5 → K 0 V5) ∧ (r1 = r5 → K 1 V5)) ∧ (((vI V1 6 5 (Int32.toNatClampNeg (vI V1 6 0 54))) = 60 → (r1 < r5 → K 0 V5) ∧ (¬ (r1 < r5) → K ((r1 - r5) + 1) V5)) ∧ (((vI V1 6 5 (Int32.toNatClampNeg (vI V1 6 0 54))) = 61 → (r5 ≤ r1 → K (r1 - r5) V5) ∧ (¬ (r5 ≤ r1) → K (r5 - r1) V5)) ∧ (((vI V1 6 5 (Int32.toNatClampNeg (vI V1 6 0 54))) = 200 → (r1 ≤ r5 → K 0 V5) ∧ (¬ (r1 ≤ r5) → K (r1 - r5) V5)) ∧ (((vI V1 6 5 (Int32.toNatClampNeg (vI V1 6 0 54))) = 201 → (r5 ≤ r1 → K 0 V5) ∧ (¬ (r5 ≤ r1) → K (r5 - r1) V5)) ∧ ((¬ (vI V1 6 5 (Int32.toNatClampNeg (vI V1 6 0 54))) = 35 → ¬ (vI V1 6 5 (Int32.toNatClampNeg (vI V1 6 0 54))) = 60 → ¬ (vI V1 6 5 (Int32.toNatClampNeg (vI V1 6 0 54))) = 61 → ¬ (vI V1 6 5 (Int32.toNatClampNeg (vI V1 6 0 54))) = 200 → ¬ (vI V1 6 5 (Int32.toNatClampNeg (vI V1 6 0 54))) = 201 → (r5 < r1 → K 0 V5) ∧ (¬ (r5 < r1) → K ((r5 - r1) + 1) V5))))))))))) : vwp E d M_X12_unitValue 199 [some (sl 6 0), some (wi x1), none, none, none, none, none] [] V (zj K) := by
  intro G A hR
  obtain ⟨L, P, rfl, hS⟩ := hR
  have hx := Xt.refl (V := pl G A L P) (A := A)
  show wp E d M_X12_unitValue 199 [some (vr (A 6 0)), some (vi x1), none, none, none, none, none] [] G _
  refine v_X12_unitValue_199 h0 ?_
  refine ⟨hS.o (s6_0 hS), ?_⟩
  refine wpM.mono (h G A ⟨L, P, rfl, hS⟩) (fun rr1 G1 hr => ?_)
  obtain ⟨A1, W1, w1, ⟨L1, P1, rfl, hS1⟩, hy1, rfl, r1, rfl, h⟩ := hr
  refine ⟨r1, rfl, ?_⟩
  have hx1 := Xt.trans hx hy1
  have ee2 : A1 6 0 = A 6 0 := hy1.2 _ _ hS.1.2.1 (((n6_0 hS1)).trans ((n6_0 hS)).symm)
  try rw [← ee2]
  refine ⟨hS1.o (s6_0 hS1), ?_⟩
  rw [l6_0_8 hS1]
  refine ⟨hS1.o (s6_5 hS1), ?_⟩
  obtain ⟨hi3, h⟩ := h
  refine ⟨by first | (rw [(n6_5 hS1)]; exact hi3) | exact (congrArg (vp_in _) (n6_5 hS1)).mpr hi3 | exact hi3, ?_⟩
  have hS4 : Sh E (sI G1 (A1 6 0) 54 ((gI G1 (A1 6 0) 54) + 1)) A1 L1 P1 := Sh_sI (rfl : sI G1 (A1 6 0) 54 ((gI G1 (A1 6 0) 54) + 1) = sI G1 (A1 6 0) 54 ((gI G1 (A1 6 0) 54) + 1)) hS1 (s6_0 hS1) (okT_0 rfl)
  have h := h (pl (sI G1 (A1 6 0) 54 ((gI G1 (A1 6 0) 54) + 1)) A1 L1 P1) (pl_sI (rfl : sI G1 (A1 6 0) 54 ((gI G1 (A1 6 0) 54) + 1) = sI G1 (A1 6 0) 54 ((gI G1 (A1 6 0) 54) + 1)) hS1 (s6_0 hS1))
  have hx4 : Xt (pl G A L P) A (pl (sI G1 (A1 6 0) 54 ((gI G1 (A1 6 0) 54) + 1)) A1 L1 P1) A1 := Xt_sI (rfl : sI G1 (A1 6 0) 54 ((gI G1 (A1 6 0) 54) + 1) = sI G1 (A1 6 0) 54 ((gI G1 (A1 6 0) 54) + 1)) hx1
  refine wpM.mono (h (sI G1 (A1 6 0) 54 ((gI G1 (A1 6 0) 54) + 1)) A1 ⟨L1, P1, rfl, hS4⟩) (fun rr5 G5 hr => ?_)
  obtain ⟨A5, W5, w5, ⟨L5, P5, rfl, hS5⟩, hy5, rfl, r5, rfl, h⟩ := hr
  refine ⟨r5, rfl, ?_⟩
  have hx5 := Xt.trans hx4 hy5
  have ee6 : A5 6 0 = A1 6 0 := hy5.2 _ _ hS4.1.2.1 (((n6_0 hS5)).trans ((n6_0 hS4)).symm)
  try rw [← ee6]
  try rw [show gI G1 (A5 6 0) = gI G1 (A1 6 0) from by rw [ee6]]
  refine ⟨fun hc => ?_, ?_⟩
  · have h := h.1 hc
    refine ⟨fun hc => ?_, fun hc => ?_⟩
    · have h := h.1 hc
      exact qx_j hS5 hx5 h
    · have h := h.2 hc
      exact qx_j hS5 hx5 h
  have h := h.2
  refine ⟨fun hc => ?_, ?_⟩
  · have h := h.1 hc
    refine ⟨fun hc => ?_, fun hc => ?_⟩
    · have h := h.1 hc
      exact qx_j hS5 hx5 h
    · have h := h.2 hc
      exact qx_j hS5 hx5 h
  have h := h.2
  refine ⟨fun hc => ?_, ?_⟩
  · have h := h.1 hc
    refine ⟨fun hc => ?_, fun hc => ?_⟩
    · have h := h.1 hc
      exact qx_j hS5 hx5 h
    · have h := h.2 hc
      exact qx_j hS5 hx5 h
  have h := h.2
  refine ⟨fun hc => ?_, ?_⟩
  · have h := h.1 hc
    refine ⟨fun hc => ?_, fun hc => ?_⟩
    · have h := h.1 hc
      exact qx_j hS5 hx5 h
    · have h := h.2 hc
      exact qx_j hS5 hx5 h
  have h := h.2
  refine ⟨fun hc => ?_, ?_⟩
  · have h := h.1 hc
    refine ⟨fun hc => ?_, fun hc => ?_⟩
    · have h := h.1 hc
      exact qx_j hS5 hx5 h
    · have h := h.2 hc
      exact qx_j hS5 hx5 h
  have h := h.2
  intro q0 q1 q2 q3 q4
  have h := h q0 q1 q2 q3 q4
  refine ⟨fun hc => ?_, fun hc => ?_⟩
  · have h := h.1 hc
    exact qx_j hS5 hx5 h
  · have h := h.2 hc
    exact qx_j hS5 hx5 h
theorem w_X12_allValue_0 {E : EE} {d : Nat} {V : VH} {K : Int64 → VH → Prop}   (h0 : 0 < d) (h : vMV E (d - 1) M_X12_rowOfNames [sl 6 0] V (fun V1 => vMI E (d - 1) M_X12_different [sl 6 0] V1 (fun r3 V3 => K (Int32.toInt64 ((vI V1 6 0 57) - r3)) V3))) : vMJ E d M_X12_allValue [sl 6 0] V K := by
  intro G A hR
  obtain ⟨L, P, rfl, hS⟩ := hR
  have hx := Xt.refl (V := pl G A L P) (A := A)
  show wpM E d M_X12_allValue [vr (A 6 0)] G _
  refine wpM_of mk_X12_allValue (Nat.le_of_ble_eq_true rfl) ?_
  refine v_X12_allValue_0 h0 ?_
  refine ⟨hS.o (s6_0 hS), ?_⟩
  refine wpM.mono (h G A ⟨L, P, rfl, hS⟩) (fun rr1 G1 hr => ?_)
  obtain ⟨A1, W1, w1, ⟨L1, P1, rfl, hS1⟩, hy1, rfl, rfl, h⟩ := hr
  refine ⟨rfl, ?_⟩
  have hx1 := Xt.trans hx hy1
  have ee2 : A1 6 0 = A 6 0 := hy1.2 _ _ hS.1.2.1 (((n6_0 hS1)).trans ((n6_0 hS)).symm)
  try rw [← ee2]
  refine ⟨hS1.o (s6_0 hS1), ?_⟩
  refine wpM.mono (h G1 A1 ⟨L1, P1, rfl, hS1⟩) (fun rr3 G3 hr => ?_)
  obtain ⟨A3, W3, w3, ⟨L3, P3, rfl, hS3⟩, hy3, rfl, r3, rfl, h⟩ := hr
  refine ⟨r3, rfl, ?_⟩
  have hx3 := Xt.trans hx1 hy3
  have ee4 : A3 6 0 = A1 6 0 := hy3.2 _ _ hS1.1.2.1 (((n6_0 hS3)).trans ((n6_0 hS1)).symm)
  try rw [← ee4]
  try rw [show gI G1 (A3 6 0) = gI G1 (A1 6 0) from by rw [ee4]]
  exact qx_j hS3 hx3 h
theorem w_X12_rowOfNames_0 {E : EE} {d : Nat} {V : VH} {K : VH → Prop}   (h0 : 0 < d) (h : ∀ V1 : VH, V1 = wrI V 6 0 57 0 → vMJ E (d - 1) M_X12_nameValue [sl 6 0] V1 (fun r2 V2 => vp_in (vI V1 6 0 57) 12 ∧ (∀ V6 : VH, V6 = wrJ V2 6 37 (Int32.toNatClampNeg (vI V1 6 0 57)) r2 → ∀ V7 : VH, V7 = wrI V6 6 0 57 ((vI V6 6 0 57) + 1) → vwp E d M_X12_rowOfNames 28 [some (sl 6 0)] [] V7 (zv K)))) : vMV E d M_X12_rowOfNames [sl 6 0] V K := by
  intro G A hR
  obtain ⟨L, P, rfl, hS⟩ := hR
  have hx := Xt.refl (V := pl G A L P) (A := A)
  show wpM E d M_X12_rowOfNames [vr (A 6 0)] G _
  refine wpM_of mk_X12_rowOfNames (Nat.le_of_ble_eq_true rfl) ?_
  refine v_X12_rowOfNames_0 h0 ?_
  refine ⟨hS.o (s6_0 hS), ?_⟩
  intro G1 eG1
  have hS1 : Sh E G1 A L P := Sh_sI eG1 hS (s6_0 hS) (okT_0 rfl)
  have h := h (pl G1 A L P) (pl_sI eG1 hS (s6_0 hS))
  have hx1 : Xt (pl G A L P) A (pl G1 A L P) A := Xt_sI eG1 hx
  rw [l6_0_55 hS1]
  refine wpM.mono (h G1 A ⟨L, P, rfl, hS1⟩) (fun rr2 G2 hr => ?_)
  obtain ⟨A2, W2, w2, ⟨L2, P2, rfl, hS2⟩, hy2, rfl, r2, rfl, h⟩ := hr
  refine ⟨r2, rfl, ?_⟩
  have hx2 := Xt.trans hx1 hy2
  have ee3 : A2 6 0 = A 6 0 := hy2.2 _ _ hS1.1.2.1 (((n6_0 hS2)).trans ((n6_0 hS1)).symm)
  try rw [← ee3]
  have ee4 : A2 6 37 = A 6 37 := hy2.2 _ _ hS1.1.2.1 (((n6_37 hS2)).trans ((n6_37 hS1)).symm)
  try rw [← ee4]
  try rw [show gI G1 (A2 6 0) = gI G1 (A 6 0) from by rw [ee3]]
  refine ⟨hS2.o (s6_37 hS2), ?_⟩
  obtain ⟨hi5, h⟩ := h
  refine ⟨by first | (rw [(n6_37 hS2)]; exact hi5) | exact (congrArg (vp_in _) (n6_37 hS2)).mpr hi5 | exact hi5, ?_⟩
  intro G6 eG6
  have hS6 : Sh E G6 A2 L2 P2 := Sh_sJ eG6 hS2
  have h := h (pl G6 A2 L2 P2) (pl_sJ eG6 hS2 (s6_37 hS2))
  have hx6 : Xt (pl G A L P) A (pl G6 A2 L2 P2) A2 := Xt_sJ eG6 hx2
  refine ⟨hS6.o (s6_0 hS6), ?_⟩
  intro G7 eG7
  have hS7 : Sh E G7 A2 L2 P2 := Sh_sI eG7 hS6 (s6_0 hS6) (okT_0 rfl)
  have h := h (pl G7 A2 L2 P2) (pl_sI eG7 hS6 (s6_0 hS6))
  have hx7 : Xt (pl G A L P) A (pl G7 A2 L2 P2) A2 := Xt_sI eG7 hx6
  exact wp.mono (h G7 A2 ⟨L2, P2, rfl, hS7⟩) (fun r G' q => qx_trans hx7 q)
theorem w_X12_rowOfNames_28 {E : EE} {d : Nat} {V : VH} {K : VH → Prop}   (h0 : 0 < d) (h : vp_in (vI V 6 0 54) 100000 ∧ ((¬ (vI V 6 5 (Int32.toNatClampNeg (vI V 6 0 54))) = 44 → K V) ∧ ((vI V 6 5 (Int32.toNatClampNeg (vI V 6 0 54))) = 44 → ∀ V2 : VH, V2 = wrI V 6 0 54 ((vI V 6 0 54) + 1) → vMJ E (d - 1) M_X12_nameValue [sl 6 0] V2 (fun r3 V3 => vp_in (vI V2 6 0 57) 12 ∧ (∀ V7 : VH, V7 = wrJ V3 6 37 (Int32.toNatClampNeg (vI V2 6 0 57)) r3 → ∀ V8 : VH, V8 = wrI V7 6 0 57 ((vI V7 6 0 57) + 1) → vwp E d M_X12_rowOfNames 28 [some (sl 6 0)] [] V8 (zv K)))))) : vwp E d M_X12_rowOfNames 28 [some (sl 6 0)] [] V (zv K) := by
  intro G A hR
  obtain ⟨L, P, rfl, hS⟩ := hR
  have hx := Xt.refl (V := pl G A L P) (A := A)
  show wp E d M_X12_rowOfNames 28 [some (vr (A 6 0))] [] G _
  refine v_X12_rowOfNames_28 h0 ?_
  refine ⟨hS.o (s6_0 hS), ?_⟩
  rw [l6_0_8 hS]
  refine ⟨hS.o (s6_5 hS), ?_⟩
  obtain ⟨hi1, h⟩ := h
  refine ⟨by first | (rw [(n6_5 hS)]; exact hi1) | exact (congrArg (vp_in _) (n6_5 hS)).mpr hi1 | exact hi1, ?_⟩
  refine ⟨fun hc => ?_, fun hc => ?_⟩
  · have h := h.1 hc
    exact qx_v hS hx h
  · have h := h.2 hc
    intro G2 eG2
    have hS2 : Sh E G2 A L P := Sh_sI eG2 hS (s6_0 hS) (okT_0 rfl)
    have h := h (pl G2 A L P) (pl_sI eG2 hS (s6_0 hS))
    have hx2 : Xt (pl G A L P) A (pl G2 A L P) A := Xt_sI eG2 hx
    rw [l6_0_55 hS2]
    refine wpM.mono (h G2 A ⟨L, P, rfl, hS2⟩) (fun rr3 G3 hr => ?_)
    obtain ⟨A3, W3, w3, ⟨L3, P3, rfl, hS3⟩, hy3, rfl, r3, rfl, h⟩ := hr
    refine ⟨r3, rfl, ?_⟩
    have hx3 := Xt.trans hx2 hy3
    have ee4 : A3 6 0 = A 6 0 := hy3.2 _ _ hS2.1.2.1 (((n6_0 hS3)).trans ((n6_0 hS2)).symm)
    try rw [← ee4]
    have ee5 : A3 6 37 = A 6 37 := hy3.2 _ _ hS2.1.2.1 (((n6_37 hS3)).trans ((n6_37 hS2)).symm)
    try rw [← ee5]
    try rw [show gI G2 (A3 6 0) = gI G2 (A 6 0) from by rw [ee4]]
    refine ⟨hS3.o (s6_37 hS3), ?_⟩
    obtain ⟨hi6, h⟩ := h
    refine ⟨by first | (rw [(n6_37 hS3)]; exact hi6) | exact (congrArg (vp_in _) (n6_37 hS3)).mpr hi6 | exact hi6, ?_⟩
    intro G7 eG7
    have hS7 : Sh E G7 A3 L3 P3 := Sh_sJ eG7 hS3
    have h := h (pl G7 A3 L3 P3) (pl_sJ eG7 hS3 (s6_37 hS3))
    have hx7 : Xt (pl G A L P) A (pl G7 A3 L3 P3) A3 := Xt_sJ eG7 hx3
    refine ⟨hS7.o (s6_0 hS7), ?_⟩
    intro G8 eG8
    have hS8 : Sh E G8 A3 L3 P3 := Sh_sI eG8 hS7 (s6_0 hS7) (okT_0 rfl)
    have h := h (pl G8 A3 L3 P3) (pl_sI eG8 hS7 (s6_0 hS7))
    have hx8 : Xt (pl G A L P) A (pl G8 A3 L3 P3) A3 := Xt_sI eG8 hx7
    exact wp.mono (h G8 A3 ⟨L3, P3, rfl, hS8⟩) (fun r G' q => qx_trans hx8 q)
theorem w_X12_nameValue_0 {E : EE} {d : Nat} {V : VH} {K : Int64 → VH → Prop}   (h : vp_in (vI V 6 0 54) 100000 ∧ (∀ V2 : VH, V2 = wrI V 6 0 54 ((vI V 6 0 54) + 1) → ((vI V 6 6 (Int32.toNatClampNeg (vI V 6 0 54))) < 100 → vp_in (vI V 6 6 (Int32.toNatClampNeg (vI V 6 0 54))) 16 ∧ (K (Int32.toInt64 (vI V2 6 36 (Int32.toNatClampNeg (vI V 6 6 (Int32.toNatClampNeg (vI V 6 0 54)))))) V2)) ∧ (¬ ((vI V 6 6 (Int32.toNatClampNeg (vI V 6 0 54))) < 100) → vp_in ((vI V 6 6 (Int32.toNatClampNeg (vI V 6 0 54))) - 100) 12 ∧ (K (Int32.toInt64 (vI V2 6 35 (Int32.toNatClampNeg ((vI V 6 6 (Int32.toNatClampNeg (vI V 6 0 54))) - 100)))) V2)))) : vMJ E d M_X12_nameValue [sl 6 0] V K := by
  intro G A hR
  obtain ⟨L, P, rfl, hS⟩ := hR
  have hx := Xt.refl (V := pl G A L P) (A := A)
  show wpM E d M_X12_nameValue [vr (A 6 0)] G _
  refine wpM_of mk_X12_nameValue (Nat.le_of_ble_eq_true rfl) ?_
  refine v_X12_nameValue_0 ?_
  refine ⟨hS.o (s6_0 hS), ?_⟩
  rw [l6_0_9 hS]
  refine ⟨hS.o (s6_6 hS), ?_⟩
  obtain ⟨hi1, h⟩ := h
  refine ⟨by first | (rw [(n6_6 hS)]; exact hi1) | exact (congrArg (vp_in _) (n6_6 hS)).mpr hi1 | exact hi1, ?_⟩
  have hS2 : Sh E (sI G (A 6 0) 54 ((gI G (A 6 0) 54) + 1)) A L P := Sh_sI (rfl : sI G (A 6 0) 54 ((gI G (A 6 0) 54) + 1) = sI G (A 6 0) 54 ((gI G (A 6 0) 54) + 1)) hS (s6_0 hS) (okT_0 rfl)
  have h := h (pl (sI G (A 6 0) 54 ((gI G (A 6 0) 54) + 1)) A L P) (pl_sI (rfl : sI G (A 6 0) 54 ((gI G (A 6 0) 54) + 1) = sI G (A 6 0) 54 ((gI G (A 6 0) 54) + 1)) hS (s6_0 hS))
  have hx2 : Xt (pl G A L P) A (pl (sI G (A 6 0) 54 ((gI G (A 6 0) 54) + 1)) A L P) A := Xt_sI (rfl : sI G (A 6 0) 54 ((gI G (A 6 0) 54) + 1) = sI G (A 6 0) 54 ((gI G (A 6 0) 54) + 1)) hx
  refine ⟨fun hc => ?_, fun hc => ?_⟩
  · have h := h.1 hc
    rw [l6_0_53 hS]
    refine ⟨hS2.o (s6_36 hS2), ?_⟩
    obtain ⟨hi3, h⟩ := h
    refine ⟨by first | (rw [(n6_36 hS2)]; exact hi3) | exact (congrArg (vp_in _) (n6_36 hS2)).mpr hi3 | exact hi3, ?_⟩
    exact qx_j hS2 hx2 h
  · have h := h.2 hc
    rw [l6_0_52 hS]
    refine ⟨hS2.o (s6_35 hS2), ?_⟩
    obtain ⟨hi4, h⟩ := h
    refine ⟨by first | (rw [(n6_35 hS2)]; exact hi4) | exact (congrArg (vp_in _) (n6_35 hS2)).mpr hi4 | exact hi4, ?_⟩
    exact qx_j hS2 hx2 h
theorem w_X12_different_0 {E : EE} {d : Nat} {V : VH} {K : Int32 → VH → Prop}   (h : vwp E d M_X12_different 4 [some (sl 6 0), some (wi 0), some (wi 0), none, none] [] V (zi K)) : vMI E d M_X12_different [sl 6 0] V K := by
  intro G A hR
  obtain ⟨L, P, rfl, hS⟩ := hR
  have hx := Xt.refl (V := pl G A L P) (A := A)
  show wpM E d M_X12_different [vr (A 6 0)] G _
  refine wpM_of mk_X12_different (Nat.le_of_ble_eq_true rfl) ?_
  refine v_X12_different_0 ?_
  exact wp.mono (h G A ⟨L, P, rfl, hS⟩) (fun r G' q => qx_trans hx q)
theorem w_X12_different_4 {E : EE} {d : Nat} {V : VH} {K : Int32 → VH → Prop} {x1 : Int32} {x2 : Int32}  (h : ((vI V 6 0 57) ≤ x2 → K x1 V) ∧ (¬ ((vI V 6 0 57) ≤ x2) → vwp E d M_X12_different 17 [some (sl 6 0), some (wi x1), some (wi x2), some (wi 1), some (wi 0)] [] V (zi K))) : vwp E d M_X12_different 4 [some (sl 6 0), some (wi x1), some (wi x2), none, none] [] V (zi K) := by
  intro G A hR
  obtain ⟨L, P, rfl, hS⟩ := hR
  have hx := Xt.refl (V := pl G A L P) (A := A)
  show wp E d M_X12_different 4 [some (vr (A 6 0)), some (vi x1), some (vi x2), none, none] [] G _
  refine v_X12_different_4 ?_
  refine ⟨hS.o (s6_0 hS), ?_⟩
  refine ⟨fun hc => ?_, fun hc => ?_⟩
  · have h := h.1 hc
    exact qx_i hS hx h
  · have h := h.2 hc
    exact wp.mono (h G A ⟨L, P, rfl, hS⟩) (fun r G' q => qx_trans hx q)
theorem w_X12_different_17 {E : EE} {d : Nat} {V : VH} {K : Int32 → VH → Prop} {x1 : Int32} {x2 : Int32} {x3 : Int32} {x4 : Int32}  (h : (x2 ≤ x4 → (x3 = 0 → vwp E d M_X12_different 66 [some (sl 6 0), some (wi x1), some (wi x2), some (wi x3), some (wi x4)] [wi 0, wi x1] V (zi K)) ∧ (¬ (x3 = 0) → vwp E d M_X12_different 66 [some (sl 6 0), some (wi x1), some (wi x2), some (wi x3), some (wi x4)] [wi 1, wi x1] V (zi K))) ∧ (¬ (x2 ≤ x4) → (x3 = 0 → vwp E d M_X12_different 48 [some (sl 6 0), some (wi x1), some (wi x2), some (wi x3), some (wi x4)] [] V (zi K)) ∧ (¬ (x3 = 0) → vp_in x4 12 ∧ (vp_in x2 12 ∧ (((vJ V 6 37 (Int32.toNatClampNeg x4)) = (vJ V 6 37 (Int32.toNatClampNeg x2)) → vwp E d M_X12_different 48 [some (sl 6 0), some (wi x1), some (wi x2), some (wi x3), some (wi x4)] [] V (zi K)) ∧ (¬ ((vJ V 6 37 (Int32.toNatClampNeg x4)) = (vJ V 6 37 (Int32.toNatClampNeg x2))) → vwp E d M_X12_different 49 [some (sl 6 0), some (wi x1), some (wi x2), some (wi x3), some (wi x4)] [wi 1] V (zi K))))))) : vwp E d M_X12_different 17 [some (sl 6 0), some (wi x1), some (wi x2), some (wi x3), some (wi x4)] [] V (zi K) := by
  intro G A hR
  obtain ⟨L, P, rfl, hS⟩ := hR
  have hx := Xt.refl (V := pl G A L P) (A := A)
  show wp E d M_X12_different 17 [some (vr (A 6 0)), some (vi x1), some (vi x2), some (vi x3), some (vi x4)] [] G _
  refine v_X12_different_17 ?_
  refine ⟨fun hc => ?_, fun hc => ?_⟩
  · have h := h.1 hc
    refine ⟨fun hc => ?_, fun hc => ?_⟩
    · have h := h.1 hc
      exact wp.mono (h G A ⟨L, P, rfl, hS⟩) (fun r G' q => qx_trans hx q)
    · have h := h.2 hc
      exact wp.mono (h G A ⟨L, P, rfl, hS⟩) (fun r G' q => qx_trans hx q)
  · have h := h.2 hc
    refine ⟨fun hc => ?_, fun hc => ?_⟩
    · have h := h.1 hc
      exact wp.mono (h G A ⟨L, P, rfl, hS⟩) (fun r G' q => qx_trans hx q)
    · have h := h.2 hc
      refine ⟨hS.o (s6_0 hS), ?_⟩
      rw [l6_0_55 hS]
      refine ⟨hS.o (s6_37 hS), ?_⟩
      obtain ⟨hi1, h⟩ := h
      refine ⟨by first | (rw [(n6_37 hS)]; exact hi1) | exact (congrArg (vp_in _) (n6_37 hS)).mpr hi1 | exact hi1, ?_⟩
      obtain ⟨hi2, h⟩ := h
      refine ⟨by first | (rw [(n6_37 hS)]; exact hi2) | exact (congrArg (vp_in _) (n6_37 hS)).mpr hi2 | exact hi2, ?_⟩
      refine ⟨fun hc => ?_, fun hc => ?_⟩
      · have h := h.1 hc
        exact wp.mono (h G A ⟨L, P, rfl, hS⟩) (fun r G' q => qx_trans hx q)
      · have h := h.2 hc
        exact wp.mono (h G A ⟨L, P, rfl, hS⟩) (fun r G' q => qx_trans hx q)
theorem w_X12_different_48 {E : EE} {d : Nat} {V : VH} {K : Int32 → VH → Prop} {x1 : Int32} {x2 : Int32} {x3 : Int32} {x4 : Int32}  (h : vwp E d M_X12_different 49 [some (sl 6 0), some (wi x1), some (wi x2), some (wi x3), some (wi x4)] [wi 0] V (zi K)) : vwp E d M_X12_different 48 [some (sl 6 0), some (wi x1), some (wi x2), some (wi x3), some (wi x4)] [] V (zi K) := by
  intro G A hR
  obtain ⟨L, P, rfl, hS⟩ := hR
  have hx := Xt.refl (V := pl G A L P) (A := A)
  show wp E d M_X12_different 48 [some (vr (A 6 0)), some (vi x1), some (vi x2), some (vi x3), some (vi x4)] [] G _
  refine v_X12_different_48 ?_
  exact wp.mono (h G A ⟨L, P, rfl, hS⟩) (fun r G' q => qx_trans hx q)
theorem w_X12_different_49 {E : EE} {d : Nat} {V : VH} {K : Int32 → VH → Prop} {x1 : Int32} {x2 : Int32} {x3 : Int32} {x4 : Int32} {t0 : Int32}  (h : vwp E d M_X12_different 17 [some (sl 6 0), some (wi x1), some (wi x2), some (wi t0), some (wi (x4 + 1))] [] V (zi K)) : vwp E d M_X12_different 49 [some (sl 6 0), some (wi x1), some (wi x2), some (wi x3), some (wi x4)] [wi t0] V (zi K) := by
  intro G A hR
  obtain ⟨L, P, rfl, hS⟩ := hR
  have hx := Xt.refl (V := pl G A L P) (A := A)
  show wp E d M_X12_different 49 [some (vr (A 6 0)), some (vi x1), some (vi x2), some (vi x3), some (vi x4)] [vi t0] G _
  refine v_X12_different_49 ?_
  exact wp.mono (h G A ⟨L, P, rfl, hS⟩) (fun r G' q => qx_trans hx q)
theorem w_X12_different_66 {E : EE} {d : Nat} {V : VH} {K : Int32 → VH → Prop} {x1 : Int32} {x2 : Int32} {x3 : Int32} {x4 : Int32} {t0 : Int32} {t1 : Int32}  (h : vwp E d M_X12_different 4 [some (sl 6 0), some (wi (t0 + t1)), some (wi (x2 + 1)), none, none] [] V (zi K)) : vwp E d M_X12_different 66 [some (sl 6 0), some (wi x1), some (wi x2), some (wi x3), some (wi x4)] [wi t1, wi t0] V (zi K) := by
  intro G A hR
  obtain ⟨L, P, rfl, hS⟩ := hR
  have hx := Xt.refl (V := pl G A L P) (A := A)
  show wp E d M_X12_different 66 [some (vr (A 6 0)), some (vi x1), some (vi x2), some (vi x3), some (vi x4)] [vi t1, vi t0] G _
  refine v_X12_different_66 ?_
  exact wp.mono (h G A ⟨L, P, rfl, hS⟩) (fun r G' q => qx_trans hx q)
theorem w_X12_rowValue_0 {E : EE} {d : Nat} {V : VH} {K : Int64 → VH → Prop}   (h0 : 0 < d) (h : vMV E (d - 1) M_X12_rowOfNames [sl 6 0] V (fun V1 => vwp E d M_X12_rowValue 10 [some (sl 6 0), some (wj (Int32.toInt64 (vI V1 6 0 57))), none, none, none, none] [] V1 (zj K))) : vMJ E d M_X12_rowValue [sl 6 0] V K := by
  intro G A hR
  obtain ⟨L, P, rfl, hS⟩ := hR
  have hx := Xt.refl (V := pl G A L P) (A := A)
  show wpM E d M_X12_rowValue [vr (A 6 0)] G _
  refine wpM_of mk_X12_rowValue (Nat.le_of_ble_eq_true rfl) ?_
  refine v_X12_rowValue_0 h0 ?_
  refine ⟨hS.o (s6_0 hS), ?_⟩
  refine wpM.mono (h G A ⟨L, P, rfl, hS⟩) (fun rr1 G1 hr => ?_)
  obtain ⟨A1, W1, w1, ⟨L1, P1, rfl, hS1⟩, hy1, rfl, rfl, h⟩ := hr
  refine ⟨rfl, ?_⟩
  have hx1 := Xt.trans hx hy1
  have ee2 : A1 6 0 = A 6 0 := hy1.2 _ _ hS.1.2.1 (((n6_0 hS1)).trans ((n6_0 hS)).symm)
  try rw [← ee2]
  refine ⟨hS1.o (s6_0 hS1), ?_⟩
  exact wp.mono (h G1 A1 ⟨L1, P1, rfl, hS1⟩) (fun r G' q => qx_trans hx1 q)
theorem w_X12_rowValue_10 {E : EE} {d : Nat} {V : VH} {K : Int64 → VH → Prop} {x1 : Int64}  (h : vp_in (vI V 6 0 54) 100000 ∧ (((vI V 6 5 (Int32.toNatClampNeg (vI V 6 0 54))) = 41 → K x1 V) ∧ (¬ ((vI V 6 5 (Int32.toNatClampNeg (vI V 6 0 54))) = 41) → ∀ V2 : VH, V2 = wrI V 6 0 54 ((vI V 6 0 54) + 2) → vwp E d M_X12_rowValue 39 [some (sl 6 0), some (wj x1), none, some (wj 0), none, some (wi 0)] [] V2 (zj K)))) : vwp E d M_X12_rowValue 10 [some (sl 6 0), some (wj x1), none, none, none, none] [] V (zj K) := by
  intro G A hR
  obtain ⟨L, P, rfl, hS⟩ := hR
  have hx := Xt.refl (V := pl G A L P) (A := A)
  show wp E d M_X12_rowValue 10 [some (vr (A 6 0)), some (vj x1), none, none, none, none] [] G _
  refine v_X12_rowValue_10 ?_
  refine ⟨hS.o (s6_0 hS), ?_⟩
  rw [l6_0_8 hS]
  refine ⟨hS.o (s6_5 hS), ?_⟩
  obtain ⟨hi1, h⟩ := h
  refine ⟨by first | (rw [(n6_5 hS)]; exact hi1) | exact (congrArg (vp_in _) (n6_5 hS)).mpr hi1 | exact hi1, ?_⟩
  refine ⟨fun hc => ?_, fun hc => ?_⟩
  · have h := h.1 hc
    exact qx_j hS hx h
  · have h := h.2 hc
    have hS2 : Sh E (sI G (A 6 0) 54 ((gI G (A 6 0) 54) + 2)) A L P := Sh_sI (rfl : sI G (A 6 0) 54 ((gI G (A 6 0) 54) + 2) = sI G (A 6 0) 54 ((gI G (A 6 0) 54) + 2)) hS (s6_0 hS) (okT_0 rfl)
    have h := h (pl (sI G (A 6 0) 54 ((gI G (A 6 0) 54) + 2)) A L P) (pl_sI (rfl : sI G (A 6 0) 54 ((gI G (A 6 0) 54) + 2) = sI G (A 6 0) 54 ((gI G (A 6 0) 54) + 2)) hS (s6_0 hS))
    have hx2 : Xt (pl G A L P) A (pl (sI G (A 6 0) 54 ((gI G (A 6 0) 54) + 2)) A L P) A := Xt_sI (rfl : sI G (A 6 0) 54 ((gI G (A 6 0) 54) + 2) = sI G (A 6 0) 54 ((gI G (A 6 0) 54) + 2)) hx
    exact wp.mono (h (sI G (A 6 0) 54 ((gI G (A 6 0) 54) + 2)) A ⟨L, P, rfl, hS2⟩) (fun r G' q => qx_trans hx2 q)
theorem w_X12_rowValue_39 {E : EE} {d : Nat} {V : VH} {K : Int64 → VH → Prop} {x1 : Int64} {x3 : Int64} {x5 : Int32}  (h : ((vI V 6 0 57) ≤ x5 → ∀ V1 : VH, V1 = wrI V 6 0 54 ((vI V 6 0 54) + 1) → (x1 ≤ x3 → vwp E d M_X12_rowValue 117 [some (sl 6 0), some (wj x1), none, some (wj x3), none, some (wi x5)] [wj x1] V1 (zj K)) ∧ (¬ (x1 ≤ x3) → vwp E d M_X12_rowValue 117 [some (sl 6 0), some (wj x1), none, some (wj x3), none, some (wi x5)] [wj x3] V1 (zj K))) ∧ (¬ ((vI V 6 0 57) ≤ x5) → (x5 ≤ 0 → vwp E d M_X12_rowValue 63 [some (sl 6 0), some (wj x1), none, some (wj x3), none, some (wi x5)] [wi 0, wi (vI V 6 0 54), sl 6 0] V (zj K)) ∧ (¬ (x5 ≤ 0) → vwp E d M_X12_rowValue 63 [some (sl 6 0), some (wj x1), none, some (wj x3), none, some (wi x5)] [wi 1, wi (vI V 6 0 54), sl 6 0] V (zj K)))) : vwp E d M_X12_rowValue 39 [some (sl 6 0), some (wj x1), none, some (wj x3), none, some (wi x5)] [] V (zj K) := by
  intro G A hR
  obtain ⟨L, P, rfl, hS⟩ := hR
  have hx := Xt.refl (V := pl G A L P) (A := A)
  show wp E d M_X12_rowValue 39 [some (vr (A 6 0)), some (vj x1), none, some (vj x3), none, some (vi x5)] [] G _
  refine v_X12_rowValue_39 ?_
  refine ⟨hS.o (s6_0 hS), ?_⟩
  refine ⟨fun hc => ?_, fun hc => ?_⟩
  · have h := h.1 hc
    have hS1 : Sh E (sI G (A 6 0) 54 ((gI G (A 6 0) 54) + 1)) A L P := Sh_sI (rfl : sI G (A 6 0) 54 ((gI G (A 6 0) 54) + 1) = sI G (A 6 0) 54 ((gI G (A 6 0) 54) + 1)) hS (s6_0 hS) (okT_0 rfl)
    have h := h (pl (sI G (A 6 0) 54 ((gI G (A 6 0) 54) + 1)) A L P) (pl_sI (rfl : sI G (A 6 0) 54 ((gI G (A 6 0) 54) + 1) = sI G (A 6 0) 54 ((gI G (A 6 0) 54) + 1)) hS (s6_0 hS))
    have hx1 : Xt (pl G A L P) A (pl (sI G (A 6 0) 54 ((gI G (A 6 0) 54) + 1)) A L P) A := Xt_sI (rfl : sI G (A 6 0) 54 ((gI G (A 6 0) 54) + 1) = sI G (A 6 0) 54 ((gI G (A 6 0) 54) + 1)) hx
    refine ⟨fun hc => ?_, fun hc => ?_⟩
    · have h := h.1 hc
      exact wp.mono (h (sI G (A 6 0) 54 ((gI G (A 6 0) 54) + 1)) A ⟨L, P, rfl, hS1⟩) (fun r G' q => qx_trans hx1 q)
    · have h := h.2 hc
      exact wp.mono (h (sI G (A 6 0) 54 ((gI G (A 6 0) 54) + 1)) A ⟨L, P, rfl, hS1⟩) (fun r G' q => qx_trans hx1 q)
  · have h := h.2 hc
    refine ⟨fun hc => ?_, fun hc => ?_⟩
    · have h := h.1 hc
      exact wp.mono (h G A ⟨L, P, rfl, hS⟩) (fun r G' q => qx_trans hx q)
    · have h := h.2 hc
      exact wp.mono (h G A ⟨L, P, rfl, hS⟩) (fun r G' q => qx_trans hx q)
theorem w_X12_rowValue_63 {E : EE} {d : Nat} {V : VH} {K : Int64 → VH → Prop} {x1 : Int64} {x3 : Int64} {x5 : Int32} {t1 : Int32} {t2 : Int32}  (h0 : 0 < d) (h : ∀ V1 : VH, V1 = wrI V 6 0 54 (t1 + t2) → vMJ E (d - 1) M_X12_intValue [sl 6 0] V1 (fun r2 V2 => vp_in x5 12 ∧ ((¬ r2 = (vJ V2 6 37 (Int32.toNatClampNeg x5)) → vwp E d M_X12_rowValue 88 [some (sl 6 0), some (wj x1), none, some (wj x3), none, some (wi x5)] [wj 1, wj x3] V2 (zj K)) ∧ (r2 = (vJ V2 6 37 (Int32.toNatClampNeg x5)) → vwp E d M_X12_rowValue 88 [some (sl 6 0), some (wj x1), none, some (wj x3), none, some (wi x5)] [wj 0, wj x3] V2 (zj K))))) : vwp E d M_X12_rowValue 63 [some (sl 6 0), some (wj x1), none, some (wj x3), none, some (wi x5)] [wi t2, wi t1, sl 6 0] V (zj K) := by
  intro G A hR
  obtain ⟨L, P, rfl, hS⟩ := hR
  have hx := Xt.refl (V := pl G A L P) (A := A)
  show wp E d M_X12_rowValue 63 [some (vr (A 6 0)), some (vj x1), none, some (vj x3), none, some (vi x5)] [vi t2, vi t1, vr (A 6 0)] G _
  refine v_X12_rowValue_63 h0 ?_
  refine ⟨hS.o (s6_0 hS), ?_⟩
  have hS1 : Sh E (sI G (A 6 0) 54 (t1 + t2)) A L P := Sh_sI (rfl : sI G (A 6 0) 54 (t1 + t2) = sI G (A 6 0) 54 (t1 + t2)) hS (s6_0 hS) (okT_0 rfl)
  have h := h (pl (sI G (A 6 0) 54 (t1 + t2)) A L P) (pl_sI (rfl : sI G (A 6 0) 54 (t1 + t2) = sI G (A 6 0) 54 (t1 + t2)) hS (s6_0 hS))
  have hx1 : Xt (pl G A L P) A (pl (sI G (A 6 0) 54 (t1 + t2)) A L P) A := Xt_sI (rfl : sI G (A 6 0) 54 (t1 + t2) = sI G (A 6 0) 54 (t1 + t2)) hx
  refine ⟨hS1.o (s6_0 hS1), ?_⟩
  refine wpM.mono (h (sI G (A 6 0) 54 (t1 + t2)) A ⟨L, P, rfl, hS1⟩) (fun rr2 G2 hr => ?_)
  obtain ⟨A2, W2, w2, ⟨L2, P2, rfl, hS2⟩, hy2, rfl, r2, rfl, h⟩ := hr
  refine ⟨r2, rfl, ?_⟩
  have hx2 := Xt.trans hx1 hy2
  have ee3 : A2 6 0 = A 6 0 := hy2.2 _ _ hS1.1.2.1 (((n6_0 hS2)).trans ((n6_0 hS1)).symm)
  try rw [← ee3]
  refine ⟨hS2.o (s6_0 hS2), ?_⟩
  rw [l6_0_55 hS2]
  refine ⟨hS2.o (s6_37 hS2), ?_⟩
  obtain ⟨hi4, h⟩ := h
  refine ⟨by first | (rw [(n6_37 hS2)]; exact hi4) | exact (congrArg (vp_in _) (n6_37 hS2)).mpr hi4 | exact hi4, ?_⟩
  refine ⟨fun hc => ?_, fun hc => ?_⟩
  · have h := h.1 hc
    exact wp.mono (h G2 A2 ⟨L2, P2, rfl, hS2⟩) (fun r G' q => qx_trans hx2 q)
  · have h := h.2 hc
    exact wp.mono (h G2 A2 ⟨L2, P2, rfl, hS2⟩) (fun r G' q => qx_trans hx2 q)
theorem w_X12_rowValue_88 {E : EE} {d : Nat} {V : VH} {K : Int64 → VH → Prop} {x1 : Int64} {x3 : Int64} {x5 : Int32} {t0 : Int64} {t1 : Int64}  (h : vwp E d M_X12_rowValue 39 [some (sl 6 0), some (wj x1), none, some (wj (t0 + t1)), none, some (wi (x5 + 1))] [] V (zj K)) : vwp E d M_X12_rowValue 88 [some (sl 6 0), some (wj x1), none, some (wj x3), none, some (wi x5)] [wj t1, wj t0] V (zj K) := by
  intro G A hR
  obtain ⟨L, P, rfl, hS⟩ := hR
  have hx := Xt.refl (V := pl G A L P) (A := A)
  show wp E d M_X12_rowValue 88 [some (vr (A 6 0)), some (vj x1), none, some (vj x3), none, some (vi x5)] [vj t1, vj t0] G _
  refine v_X12_rowValue_88 ?_
  exact wp.mono (h G A ⟨L, P, rfl, hS⟩) (fun r G' q => qx_trans hx q)
theorem w_X12_rowValue_117 {E : EE} {d : Nat} {V : VH} {K : Int64 → VH → Prop} {x1 : Int64} {x3 : Int64} {x5 : Int32} {t0 : Int64}  (h : vwp E d M_X12_rowValue 10 [some (sl 6 0), some (wj t0), none, none, none, none] [] V (zj K)) : vwp E d M_X12_rowValue 117 [some (sl 6 0), some (wj x1), none, some (wj x3), none, some (wi x5)] [wj t0] V (zj K) := by
  intro G A hR
  obtain ⟨L, P, rfl, hS⟩ := hR
  have hx := Xt.refl (V := pl G A L P) (A := A)
  show wp E d M_X12_rowValue 117 [some (vr (A 6 0)), some (vj x1), none, some (vj x3), none, some (vi x5)] [vj t0] G _
  refine v_X12_rowValue_117 ?_
  exact wp.mono (h G A ⟨L, P, rfl, hS⟩) (fun r G' q => qx_trans hx q)
theorem w_X12_intValue_0 {E : EE} {d : Nat} {V : VH} {K : Int64 → VH → Prop}   (h : vp_in (vI V 6 0 54) 100000 ∧ ((¬ (vI V 6 5 (Int32.toNatClampNeg (vI V 6 0 54))) = 45 → vwp E d M_X12_intValue 19 [some (sl 6 0), none, none] [wi 0] V (zj K)) ∧ ((vI V 6 5 (Int32.toNatClampNeg (vI V 6 0 54))) = 45 → vwp E d M_X12_intValue 19 [some (sl 6 0), none, none] [wi 1] V (zj K)))) : vMJ E d M_X12_intValue [sl 6 0] V K := by
  intro G A hR
  obtain ⟨L, P, rfl, hS⟩ := hR
  have hx := Xt.refl (V := pl G A L P) (A := A)
  show wpM E d M_X12_intValue [vr (A 6 0)] G _
  refine wpM_of mk_X12_intValue (Nat.le_of_ble_eq_true rfl) ?_
  refine v_X12_intValue_0 ?_
  refine ⟨hS.o (s6_0 hS), ?_⟩
  rw [l6_0_8 hS]
  refine ⟨hS.o (s6_5 hS), ?_⟩
  obtain ⟨hi1, h⟩ := h
  refine ⟨by first | (rw [(n6_5 hS)]; exact hi1) | exact (congrArg (vp_in _) (n6_5 hS)).mpr hi1 | exact hi1, ?_⟩
  refine ⟨fun hc => ?_, fun hc => ?_⟩
  · have h := h.1 hc
    exact wp.mono (h G A ⟨L, P, rfl, hS⟩) (fun r G' q => qx_trans hx q)
  · have h := h.2 hc
    exact wp.mono (h G A ⟨L, P, rfl, hS⟩) (fun r G' q => qx_trans hx q)
theorem w_X12_intValue_19 {E : EE} {d : Nat} {V : VH} {K : Int64 → VH → Prop} {t0 : Int32}  (h : (t0 = 0 → vwp E d M_X12_intValue 34 [some (sl 6 0), some (wi t0), none] [wi 0, wi (vI V 6 0 54), sl 6 0] V (zj K)) ∧ (¬ (t0 = 0) → vwp E d M_X12_intValue 34 [some (sl 6 0), some (wi t0), none] [wi 1, wi (vI V 6 0 54), sl 6 0] V (zj K))) : vwp E d M_X12_intValue 19 [some (sl 6 0), none, none] [wi t0] V (zj K) := by
  intro G A hR
  obtain ⟨L, P, rfl, hS⟩ := hR
  have hx := Xt.refl (V := pl G A L P) (A := A)
  show wp E d M_X12_intValue 19 [some (vr (A 6 0)), none, none] [vi t0] G _
  refine v_X12_intValue_19 ?_
  refine ⟨hS.o (s6_0 hS), ?_⟩
  refine ⟨fun hc => ?_, fun hc => ?_⟩
  · have h := h.1 hc
    exact wp.mono (h G A ⟨L, P, rfl, hS⟩) (fun r G' q => qx_trans hx q)
  · have h := h.2 hc
    exact wp.mono (h G A ⟨L, P, rfl, hS⟩) (fun r G' q => qx_trans hx q)
theorem w_X12_intValue_34 {E : EE} {d : Nat} {V : VH} {K : Int64 → VH → Prop} {x1 : Int32} {t1 : Int32} {t2 : Int32}  (h : ∀ V1 : VH, V1 = wrI V 6 0 54 (t1 + t2) → vp_in (vI V1 6 0 54) 100000 ∧ (∀ V3 : VH, V3 = wrI V1 6 0 54 ((vI V1 6 0 54) + 1) → (x1 = 0 → K (Int32.toInt64 (vI V1 6 6 (Int32.toNatClampNeg (vI V1 6 0 54)))) V3) ∧ (¬ (x1 = 0) → K (Int32.toInt64 (-(vI V1 6 6 (Int32.toNatClampNeg (vI V1 6 0 54))))) V3))) : vwp E d M_X12_intValue 34 [some (sl 6 0), some (wi x1), none] [wi t2, wi t1, sl 6 0] V (zj K) := by
  intro G A hR
  obtain ⟨L, P, rfl, hS⟩ := hR
  have hx := Xt.refl (V := pl G A L P) (A := A)
  show wp E d M_X12_intValue 34 [some (vr (A 6 0)), some (vi x1), none] [vi t2, vi t1, vr (A 6 0)] G _
  refine v_X12_intValue_34 ?_
  refine ⟨hS.o (s6_0 hS), ?_⟩
  intro G1 eG1
  have hS1 : Sh E G1 A L P := Sh_sI eG1 hS (s6_0 hS) (okT_0 rfl)
  have h := h (pl G1 A L P) (pl_sI eG1 hS (s6_0 hS))
  have hx1 : Xt (pl G A L P) A (pl G1 A L P) A := Xt_sI eG1 hx
  refine ⟨hS1.o (s6_0 hS1), ?_⟩
  rw [l6_0_9 hS1]
  refine ⟨hS1.o (s6_6 hS1), ?_⟩
  obtain ⟨hi2, h⟩ := h
  refine ⟨by first | (rw [(n6_6 hS1)]; exact hi2) | exact (congrArg (vp_in _) (n6_6 hS1)).mpr hi2 | exact hi2, ?_⟩
  intro G3 eG3
  have hS3 : Sh E G3 A L P := Sh_sI eG3 hS1 (s6_0 hS1) (okT_0 rfl)
  have h := h (pl G3 A L P) (pl_sI eG3 hS1 (s6_0 hS1))
  have hx3 : Xt (pl G A L P) A (pl G3 A L P) A := Xt_sI eG3 hx1
  refine ⟨fun hc => ?_, fun hc => ?_⟩
  · have h := h.1 hc
    exact qx_j hS3 hx3 h
  · have h := h.2 hc
    exact qx_j hS3 hx3 h
theorem w_X12_lexValue_0 {E : EE} {d : Nat} {V : VH} {K : Int64 → VH → Prop}   (h0 : 0 < d) (h : vMV E (d - 1) M_X12_rowOfNames [sl 6 0] V (fun V1 => vwp E d M_X12_lexValue 6 [some (sl 6 0), some (wi 0)] [] V1 (zj K))) : vMJ E d M_X12_lexValue [sl 6 0] V K := by
  intro G A hR
  obtain ⟨L, P, rfl, hS⟩ := hR
  have hx := Xt.refl (V := pl G A L P) (A := A)
  show wpM E d M_X12_lexValue [vr (A 6 0)] G _
  refine wpM_of mk_X12_lexValue (Nat.le_of_ble_eq_true rfl) ?_
  refine v_X12_lexValue_0 h0 ?_
  refine ⟨hS.o (s6_0 hS), ?_⟩
  refine wpM.mono (h G A ⟨L, P, rfl, hS⟩) (fun rr1 G1 hr => ?_)
  obtain ⟨A1, W1, w1, ⟨L1, P1, rfl, hS1⟩, hy1, rfl, rfl, h⟩ := hr
  refine ⟨rfl, ?_⟩
  have hx1 := Xt.trans hx hy1
  have ee2 : A1 6 0 = A 6 0 := hy1.2 _ _ hS.1.2.1 (((n6_0 hS1)).trans ((n6_0 hS)).symm)
  try rw [← ee2]
  exact wp.mono (h G1 A1 ⟨L1, P1, rfl, hS1⟩) (fun r G' q => qx_trans hx1 q)
theorem w_X12_lexValue_6 {E : EE} {d : Nat} {V : VH} {K : Int64 → VH → Prop} {x1 : Int32}  (h0 : 0 < d) (h : ((vI V 6 0 57) ≤ x1 → ∀ V1 : VH, V1 = wrI V 6 0 54 ((vI V 6 0 54) + 1) → vMV E (d - 1) M_X12_rowOfNames [sl 6 0] V1 (fun V2 => vwp E d M_X12_lexValue 48 [some (sl 6 0), some (wi 0)] [] V2 (zj K))) ∧ (¬ ((vI V 6 0 57) ≤ x1) → vp_in x1 12 ∧ (vp_in x1 12 ∧ (∀ V6 : VH, V6 = wrJ V 6 38 (Int32.toNatClampNeg x1) (vJ V 6 37 (Int32.toNatClampNeg x1)) → vwp E d M_X12_lexValue 6 [some (sl 6 0), some (wi (x1 + 1))] [] V6 (zj K))))) : vwp E d M_X12_lexValue 6 [some (sl 6 0), some (wi x1)] [] V (zj K) := by
  intro G A hR
  obtain ⟨L, P, rfl, hS⟩ := hR
  have hx := Xt.refl (V := pl G A L P) (A := A)
  show wp E d M_X12_lexValue 6 [some (vr (A 6 0)), some (vi x1)] [] G _
  refine v_X12_lexValue_6 h0 ?_
  refine ⟨hS.o (s6_0 hS), ?_⟩
  refine ⟨fun hc => ?_, fun hc => ?_⟩
  · have h := h.1 hc
    have hS1 : Sh E (sI G (A 6 0) 54 ((gI G (A 6 0) 54) + 1)) A L P := Sh_sI (rfl : sI G (A 6 0) 54 ((gI G (A 6 0) 54) + 1) = sI G (A 6 0) 54 ((gI G (A 6 0) 54) + 1)) hS (s6_0 hS) (okT_0 rfl)
    have h := h (pl (sI G (A 6 0) 54 ((gI G (A 6 0) 54) + 1)) A L P) (pl_sI (rfl : sI G (A 6 0) 54 ((gI G (A 6 0) 54) + 1) = sI G (A 6 0) 54 ((gI G (A 6 0) 54) + 1)) hS (s6_0 hS))
    have hx1 : Xt (pl G A L P) A (pl (sI G (A 6 0) 54 ((gI G (A 6 0) 54) + 1)) A L P) A := Xt_sI (rfl : sI G (A 6 0) 54 ((gI G (A 6 0) 54) + 1) = sI G (A 6 0) 54 ((gI G (A 6 0) 54) + 1)) hx
    refine wpM.mono (h (sI G (A 6 0) 54 ((gI G (A 6 0) 54) + 1)) A ⟨L, P, rfl, hS1⟩) (fun rr2 G2 hr => ?_)
    obtain ⟨A2, W2, w2, ⟨L2, P2, rfl, hS2⟩, hy2, rfl, rfl, h⟩ := hr
    refine ⟨rfl, ?_⟩
    have hx2 := Xt.trans hx1 hy2
    have ee3 : A2 6 0 = A 6 0 := hy2.2 _ _ hS1.1.2.1 (((n6_0 hS2)).trans ((n6_0 hS1)).symm)
    try rw [← ee3]
    exact wp.mono (h G2 A2 ⟨L2, P2, rfl, hS2⟩) (fun r G' q => qx_trans hx2 q)
  · have h := h.2 hc
    rw [l6_0_56 hS]
    rw [l6_0_55 hS]
    refine ⟨hS.o (s6_37 hS), ?_⟩
    obtain ⟨hi4, h⟩ := h
    refine ⟨by first | (rw [(n6_37 hS)]; exact hi4) | exact (congrArg (vp_in _) (n6_37 hS)).mpr hi4 | exact hi4, ?_⟩
    refine ⟨hS.o (s6_38 hS), ?_⟩
    obtain ⟨hi5, h⟩ := h
    refine ⟨by first | (rw [(n6_38 hS)]; exact hi5) | exact (congrArg (vp_in _) (n6_38 hS)).mpr hi5 | exact hi5, ?_⟩
    have hS6 : Sh E (sJ G (A 6 38) (Int32.toNatClampNeg x1) (gJ G (A 6 37) (Int32.toNatClampNeg x1))) A L P := Sh_sJ (rfl : sJ G (A 6 38) (Int32.toNatClampNeg x1) (gJ G (A 6 37) (Int32.toNatClampNeg x1)) = sJ G (A 6 38) (Int32.toNatClampNeg x1) (gJ G (A 6 37) (Int32.toNatClampNeg x1))) hS
    have h := h (pl (sJ G (A 6 38) (Int32.toNatClampNeg x1) (gJ G (A 6 37) (Int32.toNatClampNeg x1))) A L P) (pl_sJ (rfl : sJ G (A 6 38) (Int32.toNatClampNeg x1) (gJ G (A 6 37) (Int32.toNatClampNeg x1)) = sJ G (A 6 38) (Int32.toNatClampNeg x1) (gJ G (A 6 37) (Int32.toNatClampNeg x1))) hS (s6_38 hS))
    have hx6 : Xt (pl G A L P) A (pl (sJ G (A 6 38) (Int32.toNatClampNeg x1) (gJ G (A 6 37) (Int32.toNatClampNeg x1))) A L P) A := Xt_sJ (rfl : sJ G (A 6 38) (Int32.toNatClampNeg x1) (gJ G (A 6 37) (Int32.toNatClampNeg x1)) = sJ G (A 6 38) (Int32.toNatClampNeg x1) (gJ G (A 6 37) (Int32.toNatClampNeg x1))) hx
    exact wp.mono (h (sJ G (A 6 38) (Int32.toNatClampNeg x1) (gJ G (A 6 37) (Int32.toNatClampNeg x1))) A ⟨L, P, rfl, hS6⟩) (fun r G' q => qx_trans hx6 q)
theorem w_X12_lexValue_48 {E : EE} {d : Nat} {V : VH} {K : Int64 → VH → Prop} {x1 : Int32}  (h : ((vI V 6 0 57) ≤ x1 → vwp E d M_X12_lexValue 78 [some (sl 6 0), some (wi x1)] [] V (zj K)) ∧ (¬ ((vI V 6 0 57) ≤ x1) → vp_in x1 12 ∧ (vp_in x1 12 ∧ ((¬ (vJ V 6 38 (Int32.toNatClampNeg x1)) = (vJ V 6 37 (Int32.toNatClampNeg x1)) → vwp E d M_X12_lexValue 78 [some (sl 6 0), some (wi x1)] [] V (zj K)) ∧ ((vJ V 6 38 (Int32.toNatClampNeg x1)) = (vJ V 6 37 (Int32.toNatClampNeg x1)) → vwp E d M_X12_lexValue 48 [some (sl 6 0), some (wi (x1 + 1))] [] V (zj K)))))) : vwp E d M_X12_lexValue 48 [some (sl 6 0), some (wi x1)] [] V (zj K) := by
  intro G A hR
  obtain ⟨L, P, rfl, hS⟩ := hR
  have hx := Xt.refl (V := pl G A L P) (A := A)
  show wp E d M_X12_lexValue 48 [some (vr (A 6 0)), some (vi x1)] [] G _
  refine v_X12_lexValue_48 ?_
  refine ⟨hS.o (s6_0 hS), ?_⟩
  refine ⟨fun hc => ?_, fun hc => ?_⟩
  · have h := h.1 hc
    exact wp.mono (h G A ⟨L, P, rfl, hS⟩) (fun r G' q => qx_trans hx q)
  · have h := h.2 hc
    rw [l6_0_56 hS]
    refine ⟨hS.o (s6_38 hS), ?_⟩
    obtain ⟨hi1, h⟩ := h
    refine ⟨by first | (rw [(n6_38 hS)]; exact hi1) | exact (congrArg (vp_in _) (n6_38 hS)).mpr hi1 | exact hi1, ?_⟩
    rw [l6_0_55 hS]
    refine ⟨hS.o (s6_37 hS), ?_⟩
    obtain ⟨hi2, h⟩ := h
    refine ⟨by first | (rw [(n6_37 hS)]; exact hi2) | exact (congrArg (vp_in _) (n6_37 hS)).mpr hi2 | exact hi2, ?_⟩
    refine ⟨fun hc => ?_, fun hc => ?_⟩
    · have h := h.1 hc
      exact wp.mono (h G A ⟨L, P, rfl, hS⟩) (fun r G' q => qx_trans hx q)
    · have h := h.2 hc
      exact wp.mono (h G A ⟨L, P, rfl, hS⟩) (fun r G' q => qx_trans hx q)
theorem w_X12_lexValue_78 {E : EE} {d : Nat} {V : VH} {K : Int64 → VH → Prop} {x1 : Int32}  (h : ((vI V 6 0 57) ≤ x1 → K 0 V) ∧ (¬ ((vI V 6 0 57) ≤ x1) → vp_in x1 12 ∧ (vp_in x1 12 ∧ (((vJ V 6 38 (Int32.toNatClampNeg x1)) ≤ (vJ V 6 37 (Int32.toNatClampNeg x1)) → K 0 V) ∧ (¬ ((vJ V 6 38 (Int32.toNatClampNeg x1)) ≤ (vJ V 6 37 (Int32.toNatClampNeg x1))) → K 1 V))))) : vwp E d M_X12_lexValue 78 [some (sl 6 0), some (wi x1)] [] V (zj K) := by
  intro G A hR
  obtain ⟨L, P, rfl, hS⟩ := hR
  have hx := Xt.refl (V := pl G A L P) (A := A)
  show wp E d M_X12_lexValue 78 [some (vr (A 6 0)), some (vi x1)] [] G _
  refine v_X12_lexValue_78 ?_
  refine ⟨hS.o (s6_0 hS), ?_⟩
  refine ⟨fun hc => ?_, fun hc => ?_⟩
  · have h := h.1 hc
    exact qx_j hS hx h
  · have h := h.2 hc
    rw [l6_0_56 hS]
    refine ⟨hS.o (s6_38 hS), ?_⟩
    obtain ⟨hi1, h⟩ := h
    refine ⟨by first | (rw [(n6_38 hS)]; exact hi1) | exact (congrArg (vp_in _) (n6_38 hS)).mpr hi1 | exact hi1, ?_⟩
    rw [l6_0_55 hS]
    refine ⟨hS.o (s6_37 hS), ?_⟩
    obtain ⟨hi2, h⟩ := h
    refine ⟨by first | (rw [(n6_37 hS)]; exact hi2) | exact (congrArg (vp_in _) (n6_37 hS)).mpr hi2 | exact hi2, ?_⟩
    refine ⟨fun hc => ?_, fun hc => ?_⟩
    · have h := h.1 hc
      exact qx_j hS hx h
    · have h := h.2 hc
      exact qx_j hS hx h
theorem w_X12_ringValue_0 {E : EE} {d : Nat} {V : VH} {K : Int64 → VH → Prop}   (h0 : 0 < d) (h : vMV E (d - 1) M_X12_rowOfNames [sl 6 0] V (fun V1 => vwp E d M_X12_ringValue 10 [some (sl 6 0), some (wi 0), some (wi (-1)), some (wi 0), none] [] V1 (zj K))) : vMJ E d M_X12_ringValue [sl 6 0] V K := by
  intro G A hR
  obtain ⟨L, P, rfl, hS⟩ := hR
  have hx := Xt.refl (V := pl G A L P) (A := A)
  show wpM E d M_X12_ringValue [vr (A 6 0)] G _
  refine wpM_of mk_X12_ringValue (Nat.le_of_ble_eq_true rfl) ?_
  refine v_X12_ringValue_0 h0 ?_
  refine ⟨hS.o (s6_0 hS), ?_⟩
  refine wpM.mono (h G A ⟨L, P, rfl, hS⟩) (fun rr1 G1 hr => ?_)
  obtain ⟨A1, W1, w1, ⟨L1, P1, rfl, hS1⟩, hy1, rfl, rfl, h⟩ := hr
  refine ⟨rfl, ?_⟩
  have hx1 := Xt.trans hx hy1
  have ee2 : A1 6 0 = A 6 0 := hy1.2 _ _ hS.1.2.1 (((n6_0 hS1)).trans ((n6_0 hS)).symm)
  try rw [← ee2]
  exact wp.mono (h G1 A1 ⟨L1, P1, rfl, hS1⟩) (fun r G' q => qx_trans hx1 q)
theorem w_X12_ringValue_10 {E : EE} {d : Nat} {V : VH} {K : Int64 → VH → Prop} {x1 : Int32} {x2 : Int32} {x3 : Int32}  (h0 : 0 < d) (h : ((vI V 6 0 57) ≤ x3 → vMI E (d - 1) M_X12_different [sl 6 0] V (fun r1 V1 => ((vI V1 6 0 57) ≤ r1 → vwp E d M_X12_ringValue 87 [some (sl 6 0), some (wi x1), some (wi x2), some (wi 0), some (wi x2)] [] V1 (zj K)) ∧ (¬ ((vI V1 6 0 57) ≤ r1) → K 1 V1))) ∧ (¬ ((vI V 6 0 57) ≤ x3) → vp_in x3 12 ∧ (((vJ V 6 37 (Int32.toNatClampNeg x3)) < 0 → K 1 V) ∧ (¬ ((vJ V 6 37 (Int32.toNatClampNeg x3)) < 0) → vp_in x3 12 ∧ (((vJ V 6 37 (Int32.toNatClampNeg x3)) < (Int32.toInt64 (vI V 6 0 57)) → vp_in x3 12 ∧ (((vJ V 6 37 (Int32.toNatClampNeg x3)) = (Int32.toInt64 x3) → vwp E d M_X12_ringValue 63 [some (sl 6 0), some (wi x1), some (wi x2), some (wi x3), none] [] V (zj K)) ∧ (¬ ((vJ V 6 37 (Int32.toNatClampNeg x3)) = (Int32.toInt64 x3)) → vwp E d M_X12_ringValue 63 [some (sl 6 0), some (wi (x1 + 1)), some (wi x3), some (wi x3), none] [] V (zj K)))) ∧ (¬ ((vJ V 6 37 (Int32.toNatClampNeg x3)) < (Int32.toInt64 (vI V 6 0 57))) → K 1 V)))))) : vwp E d M_X12_ringValue 10 [some (sl 6 0), some (wi x1), some (wi x2), some (wi x3), none] [] V (zj K) := by
  intro G A hR
  obtain ⟨L, P, rfl, hS⟩ := hR
  have hx := Xt.refl (V := pl G A L P) (A := A)
  show wp E d M_X12_ringValue 10 [some (vr (A 6 0)), some (vi x1), some (vi x2), some (vi x3), none] [] G _
  refine v_X12_ringValue_10 h0 ?_
  refine ⟨hS.o (s6_0 hS), ?_⟩
  refine ⟨fun hc => ?_, fun hc => ?_⟩
  · have h := h.1 hc
    refine wpM.mono (h G A ⟨L, P, rfl, hS⟩) (fun rr1 G1 hr => ?_)
    obtain ⟨A1, W1, w1, ⟨L1, P1, rfl, hS1⟩, hy1, rfl, r1, rfl, h⟩ := hr
    refine ⟨r1, rfl, ?_⟩
    have hx1 := Xt.trans hx hy1
    have ee2 : A1 6 0 = A 6 0 := hy1.2 _ _ hS.1.2.1 (((n6_0 hS1)).trans ((n6_0 hS)).symm)
    try rw [← ee2]
    refine ⟨hS1.o (s6_0 hS1), ?_⟩
    refine ⟨fun hc => ?_, fun hc => ?_⟩
    · have h := h.1 hc
      exact wp.mono (h G1 A1 ⟨L1, P1, rfl, hS1⟩) (fun r G' q => qx_trans hx1 q)
    · have h := h.2 hc
      exact qx_j hS1 hx1 h
  · have h := h.2 hc
    rw [l6_0_55 hS]
    refine ⟨hS.o (s6_37 hS), ?_⟩
    obtain ⟨hi3, h⟩ := h
    refine ⟨by first | (rw [(n6_37 hS)]; exact hi3) | exact (congrArg (vp_in _) (n6_37 hS)).mpr hi3 | exact hi3, ?_⟩
    refine ⟨fun hc => ?_, fun hc => ?_⟩
    · have h := h.1 hc
      exact qx_j hS hx h
    · have h := h.2 hc
      obtain ⟨hi4, h⟩ := h
      refine ⟨by first | (rw [(n6_37 hS)]; exact hi4) | exact (congrArg (vp_in _) (n6_37 hS)).mpr hi4 | exact hi4, ?_⟩
      refine ⟨fun hc => ?_, fun hc => ?_⟩
      · have h := h.1 hc
        obtain ⟨hi5, h⟩ := h
        refine ⟨by first | (rw [(n6_37 hS)]; exact hi5) | exact (congrArg (vp_in _) (n6_37 hS)).mpr hi5 | exact hi5, ?_⟩
        refine ⟨fun hc => ?_, fun hc => ?_⟩
        · have h := h.1 hc
          exact wp.mono (h G A ⟨L, P, rfl, hS⟩) (fun r G' q => qx_trans hx q)
        · have h := h.2 hc
          exact wp.mono (h G A ⟨L, P, rfl, hS⟩) (fun r G' q => qx_trans hx q)
      · have h := h.2 hc
        exact qx_j hS hx h
theorem w_X12_ringValue_63 {E : EE} {d : Nat} {V : VH} {K : Int64 → VH → Prop} {x1 : Int32} {x2 : Int32} {x3 : Int32}  (h : vwp E d M_X12_ringValue 10 [some (sl 6 0), some (wi x1), some (wi x2), some (wi (x3 + 1)), none] [] V (zj K)) : vwp E d M_X12_ringValue 63 [some (sl 6 0), some (wi x1), some (wi x2), some (wi x3), none] [] V (zj K) := by
  intro G A hR
  obtain ⟨L, P, rfl, hS⟩ := hR
  have hx := Xt.refl (V := pl G A L P) (A := A)
  show wp E d M_X12_ringValue 63 [some (vr (A 6 0)), some (vi x1), some (vi x2), some (vi x3), none] [] G _
  refine v_X12_ringValue_63 ?_
  exact wp.mono (h G A ⟨L, P, rfl, hS⟩) (fun r G' q => qx_trans hx q)
theorem w_X12_ringValue_87 {E : EE} {d : Nat} {V : VH} {K : Int64 → VH → Prop} {x1 : Int32} {x2 : Int32} {x3 : Int32} {x4 : Int32}  (h : (x2 < 0 → vwp E d M_X12_ringValue 117 [some (sl 6 0), some (wi x1), some (wi x2), some (wi x3), some (wi x4)] [] V (zj K)) ∧ (¬ (x2 < 0) → (x3 = 0 → vwp E d M_X12_ringValue 101 [some (sl 6 0), some (wi x1), some (wi x2), some (wi x3), some (wi x4)] [] V (zj K)) ∧ (¬ (x3 = 0) → (x4 = x2 → vwp E d M_X12_ringValue 117 [some (sl 6 0), some (wi x1), some (wi x2), some (wi x3), some (wi x4)] [] V (zj K)) ∧ (¬ (x4 = x2) → vwp E d M_X12_ringValue 101 [some (sl 6 0), some (wi x1), some (wi x2), some (wi x3), some (wi x4)] [] V (zj K))))) : vwp E d M_X12_ringValue 87 [some (sl 6 0), some (wi x1), some (wi x2), some (wi x3), some (wi x4)] [] V (zj K) := by
  intro G A hR
  obtain ⟨L, P, rfl, hS⟩ := hR
  have hx := Xt.refl (V := pl G A L P) (A := A)
  show wp E d M_X12_ringValue 87 [some (vr (A 6 0)), some (vi x1), some (vi x2), some (vi x3), some (vi x4)] [] G _
  refine v_X12_ringValue_87 ?_
  refine ⟨fun hc => ?_, fun hc => ?_⟩
  · have h := h.1 hc
    exact wp.mono (h G A ⟨L, P, rfl, hS⟩) (fun r G' q => qx_trans hx q)
  · have h := h.2 hc
    refine ⟨fun hc => ?_, fun hc => ?_⟩
    · have h := h.1 hc
      exact wp.mono (h G A ⟨L, P, rfl, hS⟩) (fun r G' q => qx_trans hx q)
    · have h := h.2 hc
      refine ⟨fun hc => ?_, fun hc => ?_⟩
      · have h := h.1 hc
        exact wp.mono (h G A ⟨L, P, rfl, hS⟩) (fun r G' q => qx_trans hx q)
      · have h := h.2 hc
        exact wp.mono (h G A ⟨L, P, rfl, hS⟩) (fun r G' q => qx_trans hx q)
theorem w_X12_ringValue_101 {E : EE} {d : Nat} {V : VH} {K : Int64 → VH → Prop} {x1 : Int32} {x2 : Int32} {x3 : Int32} {x4 : Int32}  (h : vp_in x4 12 ∧ (vwp E d M_X12_ringValue 87 [some (sl 6 0), some (wi x1), some (wi x2), some (wi (x3 + 1)), some (wi (Int64.toInt32 (vJ V 6 37 (Int32.toNatClampNeg x4))))] [] V (zj K))) : vwp E d M_X12_ringValue 101 [some (sl 6 0), some (wi x1), some (wi x2), some (wi x3), some (wi x4)] [] V (zj K) := by
  intro G A hR
  obtain ⟨L, P, rfl, hS⟩ := hR
  have hx := Xt.refl (V := pl G A L P) (A := A)
  show wp E d M_X12_ringValue 101 [some (vr (A 6 0)), some (vi x1), some (vi x2), some (vi x3), some (vi x4)] [] G _
  refine v_X12_ringValue_101 ?_
  refine ⟨hS.o (s6_0 hS), ?_⟩
  rw [l6_0_55 hS]
  refine ⟨hS.o (s6_37 hS), ?_⟩
  obtain ⟨hi1, h⟩ := h
  refine ⟨by first | (rw [(n6_37 hS)]; exact hi1) | exact (congrArg (vp_in _) (n6_37 hS)).mpr hi1 | exact hi1, ?_⟩
  exact wp.mono (h G A ⟨L, P, rfl, hS⟩) (fun r G' q => qx_trans hx q)
theorem w_X12_ringValue_117 {E : EE} {d : Nat} {V : VH} {K : Int64 → VH → Prop} {x1 : Int32} {x2 : Int32} {x3 : Int32} {x4 : Int32}  (h : (¬ x3 = x1 → K 1 V) ∧ (x3 = x1 → K 0 V)) : vwp E d M_X12_ringValue 117 [some (sl 6 0), some (wi x1), some (wi x2), some (wi x3), some (wi x4)] [] V (zj K) := by
  intro G A hR
  obtain ⟨L, P, rfl, hS⟩ := hR
  have hx := Xt.refl (V := pl G A L P) (A := A)
  show wp E d M_X12_ringValue 117 [some (vr (A 6 0)), some (vi x1), some (vi x2), some (vi x3), some (vi x4)] [] G _
  refine v_X12_ringValue_117 ?_
  refine ⟨fun hc => ?_, fun hc => ?_⟩
  · have h := h.1 hc
    exact qx_j hS hx h
  · have h := h.2 hc
    exact qx_j hS hx h
theorem w_X12_autoValue_0 {E : EE} {d : Nat} {V : VH} {K : Int64 → VH → Prop}   (h0 : 0 < d) (h : vMV E (d - 1) M_X12_rowOfNames [sl 6 0] V (fun V1 => vwp E d M_X12_autoValue 13 [some (sl 6 0), some (wi (vI V1 6 0 54)), some (wi 0), some (wi 0), none, none, none, none, none] [] V1 (zj K))) : vMJ E d M_X12_autoValue [sl 6 0] V K := by
  intro G A hR
  obtain ⟨L, P, rfl, hS⟩ := hR
  have hx := Xt.refl (V := pl G A L P) (A := A)
  show wpM E d M_X12_autoValue [vr (A 6 0)] G _
  refine wpM_of mk_X12_autoValue (Nat.le_of_ble_eq_true rfl) ?_
  refine v_X12_autoValue_0 h0 ?_
  refine ⟨hS.o (s6_0 hS), ?_⟩
  refine wpM.mono (h G A ⟨L, P, rfl, hS⟩) (fun rr1 G1 hr => ?_)
  obtain ⟨A1, W1, w1, ⟨L1, P1, rfl, hS1⟩, hy1, rfl, rfl, h⟩ := hr
  refine ⟨rfl, ?_⟩
  have hx1 := Xt.trans hx hy1
  have ee2 : A1 6 0 = A 6 0 := hy1.2 _ _ hS.1.2.1 (((n6_0 hS1)).trans ((n6_0 hS)).symm)
  try rw [← ee2]
  refine ⟨hS1.o (s6_0 hS1), ?_⟩
  exact wp.mono (h G1 A1 ⟨L1, P1, rfl, hS1⟩) (fun r G' q => qx_trans hx1 q)
theorem w_X12_autoValue_13 {E : EE} {d : Nat} {V : VH} {K : Int64 → VH → Prop} {x1 : Int32} {x2 : Int32} {x3 : Int32}  (h : ((vI V 6 0 57) ≤ x3 → vwp E d M_X12_autoValue 168 [some (sl 6 0), some (wi x1), some (wi x2), some (wi 0), none, none, none, none, none] [] V (zj K)) ∧ (¬ ((vI V 6 0 57) ≤ x3) → ∀ V1 : VH, V1 = wrI V 6 0 54 x1 → vwp E d M_X12_autoValue 29 [some (sl 6 0), some (wi x1), some (wi x2), some (wi x3), some (wi (-1)), none, none, none, none] [] V1 (zj K))) : vwp E d M_X12_autoValue 13 [some (sl 6 0), some (wi x1), some (wi x2), some (wi x3), none, none, none, none, none] [] V (zj K) := by
  intro G A hR
  obtain ⟨L, P, rfl, hS⟩ := hR
  have hx := Xt.refl (V := pl G A L P) (A := A)
  show wp E d M_X12_autoValue 13 [some (vr (A 6 0)), some (vi x1), some (vi x2), some (vi x3), none, none, none, none, none] [] G _
  refine v_X12_autoValue_13 ?_
  refine ⟨hS.o (s6_0 hS), ?_⟩
  refine ⟨fun hc => ?_, fun hc => ?_⟩
  · have h := h.1 hc
    exact wp.mono (h G A ⟨L, P, rfl, hS⟩) (fun r G' q => qx_trans hx q)
  · have h := h.2 hc
    have hS1 : Sh E (sI G (A 6 0) 54 x1) A L P := Sh_sI (rfl : sI G (A 6 0) 54 x1 = sI G (A 6 0) 54 x1) hS (s6_0 hS) (okT_0 rfl)
    have h := h (pl (sI G (A 6 0) 54 x1) A L P) (pl_sI (rfl : sI G (A 6 0) 54 x1 = sI G (A 6 0) 54 x1) hS (s6_0 hS))
    have hx1 : Xt (pl G A L P) A (pl (sI G (A 6 0) 54 x1) A L P) A := Xt_sI (rfl : sI G (A 6 0) 54 x1 = sI G (A 6 0) 54 x1) hx
    exact wp.mono (h (sI G (A 6 0) 54 x1) A ⟨L, P, rfl, hS1⟩) (fun r G' q => qx_trans hx1 q)
theorem w_X12_autoValue_29 {E : EE} {d : Nat} {V : VH} {K : Int64 → VH → Prop} {x1 : Int32} {x2 : Int32} {x3 : Int32} {x4 : Int32}  (h : vp_in (vI V 6 0 54) 100000 ∧ ((¬ (vI V 6 5 (Int32.toNatClampNeg (vI V 6 0 54))) = 58 → vwp E d M_X12_autoValue 51 [some (sl 6 0), some (wi x1), some (wi x2), some (wi x3), some (wi x4), none, none, none, none] [] V (zj K)) ∧ ((vI V 6 5 (Int32.toNatClampNeg (vI V 6 0 54))) = 58 → (¬ (vI V 6 0 54) = x1 → (0 ≤ x2 → vwp E d M_X12_autoValue 159 [some (sl 6 0), some (wi x1), some (wi x2), some (wi x3), some (wi x4), none, none, none, none] [wi x4] V (zj K)) ∧ (¬ (0 ≤ x2) → vwp E d M_X12_autoValue 159 [some (sl 6 0), some (wi x1), some (wi x2), some (wi x3), some (wi x4), none, none, none, none] [wi (-1)] V (zj K))) ∧ ((vI V 6 0 54) = x1 → vwp E d M_X12_autoValue 51 [some (sl 6 0), some (wi x1), some (wi x2), some (wi x3), some (wi x4), none, none, none, none] [] V (zj K))))) : vwp E d M_X12_autoValue 29 [some (sl 6 0), some (wi x1), some (wi x2), some (wi x3), some (wi x4), none, none, none, none] [] V (zj K) := by
  intro G A hR
  obtain ⟨L, P, rfl, hS⟩ := hR
  have hx := Xt.refl (V := pl G A L P) (A := A)
  show wp E d M_X12_autoValue 29 [some (vr (A 6 0)), some (vi x1), some (vi x2), some (vi x3), some (vi x4), none, none, none, none] [] G _
  refine v_X12_autoValue_29 ?_
  refine ⟨hS.o (s6_0 hS), ?_⟩
  rw [l6_0_8 hS]
  refine ⟨hS.o (s6_5 hS), ?_⟩
  obtain ⟨hi1, h⟩ := h
  refine ⟨by first | (rw [(n6_5 hS)]; exact hi1) | exact (congrArg (vp_in _) (n6_5 hS)).mpr hi1 | exact hi1, ?_⟩
  refine ⟨fun hc => ?_, fun hc => ?_⟩
  · have h := h.1 hc
    exact wp.mono (h G A ⟨L, P, rfl, hS⟩) (fun r G' q => qx_trans hx q)
  · have h := h.2 hc
    refine ⟨fun hc => ?_, fun hc => ?_⟩
    · have h := h.1 hc
      refine ⟨fun hc => ?_, fun hc => ?_⟩
      · have h := h.1 hc
        exact wp.mono (h G A ⟨L, P, rfl, hS⟩) (fun r G' q => qx_trans hx q)
      · have h := h.2 hc
        exact wp.mono (h G A ⟨L, P, rfl, hS⟩) (fun r G' q => qx_trans hx q)
    · have h := h.2 hc
      exact wp.mono (h G A ⟨L, P, rfl, hS⟩) (fun r G' q => qx_trans hx q)
theorem w_X12_autoValue_51 {E : EE} {d : Nat} {V : VH} {K : Int64 → VH → Prop} {x1 : Int32} {x2 : Int32} {x3 : Int32} {x4 : Int32}  (h0 : 0 < d) (h : ∀ V1 : VH, V1 = wrI V 6 0 54 ((vI V 6 0 54) + 2) → vp_in (vI V1 6 0 54) 100000 ∧ (∀ V3 : VH, V3 = wrI V1 6 0 54 ((vI V1 6 0 54) + 2) → vMJ E (d - 1) M_X12_intValue [sl 6 0] V3 (fun r4 V4 => ∀ V6 : VH, V6 = wrI V4 6 0 54 ((vI V4 6 0 54) + 1) → vp_in (vI V6 6 0 54) 100000 ∧ (∀ V8 : VH, V8 = wrI V6 6 0 54 ((vI V6 6 0 54) + 2) → (0 ≤ x4 → vwp E d M_X12_autoValue 146 [some (sl 6 0), some (wi x1), some (wi x2), some (wi x3), some (wi x4), some (wi (vI V1 6 6 (Int32.toNatClampNeg (vI V1 6 0 54)))), some (wj r4), none, some (wi (vI V6 6 6 (Int32.toNatClampNeg (vI V6 6 0 54))))] [] V8 (zj K)) ∧ (¬ (0 ≤ x4) → (¬ x2 = (vI V1 6 6 (Int32.toNatClampNeg (vI V1 6 0 54))) → vwp E d M_X12_autoValue 146 [some (sl 6 0), some (wi x1), some (wi x2), some (wi x3), some (wi x4), some (wi (vI V1 6 6 (Int32.toNatClampNeg (vI V1 6 0 54)))), some (wj r4), none, some (wi (vI V6 6 6 (Int32.toNatClampNeg (vI V6 6 0 54))))] [] V8 (zj K)) ∧ (x2 = (vI V1 6 6 (Int32.toNatClampNeg (vI V1 6 0 54))) → vp_in x3 12 ∧ ((¬ (vJ V8 6 37 (Int32.toNatClampNeg x3)) = r4 → vwp E d M_X12_autoValue 146 [some (sl 6 0), some (wi x1), some (wi x2), some (wi x3), some (wi x4), some (wi (vI V1 6 6 (Int32.toNatClampNeg (vI V1 6 0 54)))), some (wj r4), none, some (wi (vI V6 6 6 (Int32.toNatClampNeg (vI V6 6 0 54))))] [] V8 (zj K)) ∧ ((vJ V8 6 37 (Int32.toNatClampNeg x3)) = r4 → vwp E d M_X12_autoValue 146 [some (sl 6 0), some (wi x1), some (wi x2), some (wi x3), some (wi (vI V6 6 6 (Int32.toNatClampNeg (vI V6 6 0 54)))), some (wi (vI V1 6 6 (Int32.toNatClampNeg (vI V1 6 0 54)))), some (wj r4), none, some (wi (vI V6 6 6 (Int32.toNatClampNeg (vI V6 6 0 54))))] [] V8 (zj K))))))))) : vwp E d M_X12_autoValue 51 [some (sl 6 0), some (wi x1), some (wi x2), some (wi x3), some (wi x4), none, none, none, none] [] V (zj K) := by
  intro G A hR
  obtain ⟨L, P, rfl, hS⟩ := hR
  have hx := Xt.refl (V := pl G A L P) (A := A)
  show wp E d M_X12_autoValue 51 [some (vr (A 6 0)), some (vi x1), some (vi x2), some (vi x3), some (vi x4), none, none, none, none] [] G _
  refine v_X12_autoValue_51 h0 ?_
  refine ⟨hS.o (s6_0 hS), ?_⟩
  intro G1 eG1
  have hS1 : Sh E G1 A L P := Sh_sI eG1 hS (s6_0 hS) (okT_0 rfl)
  have h := h (pl G1 A L P) (pl_sI eG1 hS (s6_0 hS))
  have hx1 : Xt (pl G A L P) A (pl G1 A L P) A := Xt_sI eG1 hx
  rw [l6_0_9 hS1]
  refine ⟨hS1.o (s6_6 hS1), ?_⟩
  obtain ⟨hi2, h⟩ := h
  refine ⟨by first | (rw [(n6_6 hS1)]; exact hi2) | exact (congrArg (vp_in _) (n6_6 hS1)).mpr hi2 | exact hi2, ?_⟩
  intro G3 eG3
  have hS3 : Sh E G3 A L P := Sh_sI eG3 hS1 (s6_0 hS1) (okT_0 rfl)
  have h := h (pl G3 A L P) (pl_sI eG3 hS1 (s6_0 hS1))
  have hx3 : Xt (pl G A L P) A (pl G3 A L P) A := Xt_sI eG3 hx1
  refine wpM.mono (h G3 A ⟨L, P, rfl, hS3⟩) (fun rr4 G4 hr => ?_)
  obtain ⟨A4, W4, w4, ⟨L4, P4, rfl, hS4⟩, hy4, rfl, r4, rfl, h⟩ := hr
  refine ⟨r4, rfl, ?_⟩
  have hx4 := Xt.trans hx3 hy4
  have ee5 : A4 6 0 = A 6 0 := hy4.2 _ _ hS3.1.2.1 (((n6_0 hS4)).trans ((n6_0 hS3)).symm)
  try rw [← ee5]
  try rw [show gI G1 (A4 6 0) = gI G1 (A 6 0) from by rw [ee5]]
  refine ⟨hS4.o (s6_0 hS4), ?_⟩
  intro G6 eG6
  have hS6 : Sh E G6 A4 L4 P4 := Sh_sI eG6 hS4 (s6_0 hS4) (okT_0 rfl)
  have h := h (pl G6 A4 L4 P4) (pl_sI eG6 hS4 (s6_0 hS4))
  have hx6 : Xt (pl G A L P) A (pl G6 A4 L4 P4) A4 := Xt_sI eG6 hx4
  rw [l6_0_9 hS6]
  refine ⟨hS6.o (s6_6 hS6), ?_⟩
  obtain ⟨hi7, h⟩ := h
  refine ⟨by first | (rw [(n6_6 hS6)]; exact hi7) | exact (congrArg (vp_in _) (n6_6 hS6)).mpr hi7 | exact hi7, ?_⟩
  intro G8 eG8
  have hS8 : Sh E G8 A4 L4 P4 := Sh_sI eG8 hS6 (s6_0 hS6) (okT_0 rfl)
  have h := h (pl G8 A4 L4 P4) (pl_sI eG8 hS6 (s6_0 hS6))
  have hx8 : Xt (pl G A L P) A (pl G8 A4 L4 P4) A4 := Xt_sI eG8 hx6
  refine ⟨fun hc => ?_, fun hc => ?_⟩
  · have h := h.1 hc
    exact wp.mono (h G8 A4 ⟨L4, P4, rfl, hS8⟩) (fun r G' q => qx_trans hx8 q)
  · have h := h.2 hc
    refine ⟨fun hc => ?_, fun hc => ?_⟩
    · have h := h.1 hc
      exact wp.mono (h G8 A4 ⟨L4, P4, rfl, hS8⟩) (fun r G' q => qx_trans hx8 q)
    · have h := h.2 hc
      rw [l6_0_55 hS8]
      refine ⟨hS8.o (s6_37 hS8), ?_⟩
      obtain ⟨hi9, h⟩ := h
      refine ⟨by first | (rw [(n6_37 hS8)]; exact hi9) | exact (congrArg (vp_in _) (n6_37 hS8)).mpr hi9 | exact hi9, ?_⟩
      refine ⟨fun hc => ?_, fun hc => ?_⟩
      · have h := h.1 hc
        exact wp.mono (h G8 A4 ⟨L4, P4, rfl, hS8⟩) (fun r G' q => qx_trans hx8 q)
      · have h := h.2 hc
        exact wp.mono (h G8 A4 ⟨L4, P4, rfl, hS8⟩) (fun r G' q => qx_trans hx8 q)
theorem w_X12_autoValue_146 {E : EE} {d : Nat} {V : VH} {K : Int64 → VH → Prop} {x1 : Int32} {x2 : Int32} {x3 : Int32} {x4 : Int32} {x5 : Int32} {x6 : Int64} {x8 : Int32}  (h : vwp E d M_X12_autoValue 29 [some (sl 6 0), some (wi x1), some (wi x2), some (wi x3), some (wi x4), none, none, none, none] [] V (zj K)) : vwp E d M_X12_autoValue 146 [some (sl 6 0), some (wi x1), some (wi x2), some (wi x3), some (wi x4), some (wi x5), some (wj x6), none, some (wi x8)] [] V (zj K) := by
  intro G A hR
  obtain ⟨L, P, rfl, hS⟩ := hR
  have hx := Xt.refl (V := pl G A L P) (A := A)
  show wp E d M_X12_autoValue 146 [some (vr (A 6 0)), some (vi x1), some (vi x2), some (vi x3), some (vi x4), some (vi x5), some (vj x6), none, some (vi x8)] [] G _
  refine v_X12_autoValue_146 ?_
  exact wp.mono (h G A ⟨L, P, rfl, hS⟩) (fun r G' q => qx_trans hx q)
theorem w_X12_autoValue_159 {E : EE} {d : Nat} {V : VH} {K : Int64 → VH → Prop} {x1 : Int32} {x2 : Int32} {x3 : Int32} {x4 : Int32} {t0 : Int32}  (h : vwp E d M_X12_autoValue 13 [some (sl 6 0), some (wi x1), some (wi t0), some (wi (x3 + 1)), none, none, none, none, none] [] V (zj K)) : vwp E d M_X12_autoValue 159 [some (sl 6 0), some (wi x1), some (wi x2), some (wi x3), some (wi x4), none, none, none, none] [wi t0] V (zj K) := by
  intro G A hR
  obtain ⟨L, P, rfl, hS⟩ := hR
  have hx := Xt.refl (V := pl G A L P) (A := A)
  show wp E d M_X12_autoValue 159 [some (vr (A 6 0)), some (vi x1), some (vi x2), some (vi x3), some (vi x4), none, none, none, none] [vi t0] G _
  refine v_X12_autoValue_159 ?_
  exact wp.mono (h G A ⟨L, P, rfl, hS⟩) (fun r G' q => qx_trans hx q)
theorem w_X12_autoValue_168 {E : EE} {d : Nat} {V : VH} {K : Int64 → VH → Prop} {x1 : Int32} {x2 : Int32} {x3 : Int32}  (h : vp_in (vI V 6 0 54) 100000 ∧ (((vI V 6 5 (Int32.toNatClampNeg (vI V 6 0 54))) = 41 → (x2 < 0 → K 1 V) ∧ (¬ (x2 < 0) → (x3 = 0 → K 1 V) ∧ (¬ (x3 = 0) → K 0 V))) ∧ (¬ ((vI V 6 5 (Int32.toNatClampNeg (vI V 6 0 54))) = 41) → ∀ V2 : VH, V2 = wrI V 6 0 54 ((vI V 6 0 54) + 1) → (¬ x3 = 0 → vwp E d M_X12_autoValue 209 [some (sl 6 0), some (wi x1), some (wi x2), some (wi x3), none, none, none, none, none] [] V2 (zj K)) ∧ (x3 = 0 → vp_in (vI V2 6 0 54) 100000 ∧ ((¬ (vI V2 6 6 (Int32.toNatClampNeg (vI V2 6 0 54))) = x2 → vwp E d M_X12_autoValue 214 [some (sl 6 0), some (wi x1), some (wi x2), some (wi x3), none, none, none, none, none] [wi 0] V2 (zj K)) ∧ ((vI V2 6 6 (Int32.toNatClampNeg (vI V2 6 0 54))) = x2 → vwp E d M_X12_autoValue 209 [some (sl 6 0), some (wi x1), some (wi x2), some (wi x3), none, none, none, none, none] [] V2 (zj K))))))) : vwp E d M_X12_autoValue 168 [some (sl 6 0), some (wi x1), some (wi x2), some (wi x3), none, none, none, none, none] [] V (zj K) := by
  intro G A hR
  obtain ⟨L, P, rfl, hS⟩ := hR
  have hx := Xt.refl (V := pl G A L P) (A := A)
  show wp E d M_X12_autoValue 168 [some (vr (A 6 0)), some (vi x1), some (vi x2), some (vi x3), none, none, none, none, none] [] G _
  refine v_X12_autoValue_168 ?_
  refine ⟨hS.o (s6_0 hS), ?_⟩
  rw [l6_0_8 hS]
  refine ⟨hS.o (s6_5 hS), ?_⟩
  obtain ⟨hi1, h⟩ := h
  refine ⟨by first | (rw [(n6_5 hS)]; exact hi1) | exact (congrArg (vp_in _) (n6_5 hS)).mpr hi1 | exact hi1, ?_⟩
  refine ⟨fun hc => ?_, fun hc => ?_⟩
  · have h := h.1 hc
    refine ⟨fun hc => ?_, fun hc => ?_⟩
    · have h := h.1 hc
      exact qx_j hS hx h
    · have h := h.2 hc
      refine ⟨fun hc => ?_, fun hc => ?_⟩
      · have h := h.1 hc
        exact qx_j hS hx h
      · have h := h.2 hc
        exact qx_j hS hx h
  · have h := h.2 hc
    have hS2 : Sh E (sI G (A 6 0) 54 ((gI G (A 6 0) 54) + 1)) A L P := Sh_sI (rfl : sI G (A 6 0) 54 ((gI G (A 6 0) 54) + 1) = sI G (A 6 0) 54 ((gI G (A 6 0) 54) + 1)) hS (s6_0 hS) (okT_0 rfl)
    have h := h (pl (sI G (A 6 0) 54 ((gI G (A 6 0) 54) + 1)) A L P) (pl_sI (rfl : sI G (A 6 0) 54 ((gI G (A 6 0) 54) + 1) = sI G (A 6 0) 54 ((gI G (A 6 0) 54) + 1)) hS (s6_0 hS))
    have hx2 : Xt (pl G A L P) A (pl (sI G (A 6 0) 54 ((gI G (A 6 0) 54) + 1)) A L P) A := Xt_sI (rfl : sI G (A 6 0) 54 ((gI G (A 6 0) 54) + 1) = sI G (A 6 0) 54 ((gI G (A 6 0) 54) + 1)) hx
    refine ⟨fun hc => ?_, fun hc => ?_⟩
    · have h := h.1 hc
      exact wp.mono (h (sI G (A 6 0) 54 ((gI G (A 6 0) 54) + 1)) A ⟨L, P, rfl, hS2⟩) (fun r G' q => qx_trans hx2 q)
    · have h := h.2 hc
      rw [l6_0_9 hS]
      refine ⟨hS2.o (s6_6 hS2), ?_⟩
      obtain ⟨hi3, h⟩ := h
      refine ⟨by first | (rw [(n6_6 hS2)]; exact hi3) | exact (congrArg (vp_in _) (n6_6 hS2)).mpr hi3 | exact hi3, ?_⟩
      refine ⟨fun hc => ?_, fun hc => ?_⟩
      · have h := h.1 hc
        exact wp.mono (h (sI G (A 6 0) 54 ((gI G (A 6 0) 54) + 1)) A ⟨L, P, rfl, hS2⟩) (fun r G' q => qx_trans hx2 q)
      · have h := h.2 hc
        exact wp.mono (h (sI G (A 6 0) 54 ((gI G (A 6 0) 54) + 1)) A ⟨L, P, rfl, hS2⟩) (fun r G' q => qx_trans hx2 q)
theorem w_X12_autoValue_209 {E : EE} {d : Nat} {V : VH} {K : Int64 → VH → Prop} {x1 : Int32} {x2 : Int32} {x3 : Int32}  (h : vwp E d M_X12_autoValue 214 [some (sl 6 0), some (wi x1), some (wi x2), some (wi x3), none, none, none, none, none] [wi 1] V (zj K)) : vwp E d M_X12_autoValue 209 [some (sl 6 0), some (wi x1), some (wi x2), some (wi x3), none, none, none, none, none] [] V (zj K) := by
  intro G A hR
  obtain ⟨L, P, rfl, hS⟩ := hR
  have hx := Xt.refl (V := pl G A L P) (A := A)
  show wp E d M_X12_autoValue 209 [some (vr (A 6 0)), some (vi x1), some (vi x2), some (vi x3), none, none, none, none, none] [] G _
  refine v_X12_autoValue_209 ?_
  exact wp.mono (h G A ⟨L, P, rfl, hS⟩) (fun r G' q => qx_trans hx q)
theorem w_X12_autoValue_214 {E : EE} {d : Nat} {V : VH} {K : Int64 → VH → Prop} {x1 : Int32} {x2 : Int32} {x3 : Int32} {t0 : Int32}  (h : ∀ V1 : VH, V1 = wrI V 6 0 54 ((vI V 6 0 54) + 1) → vwp E d M_X12_autoValue 168 [some (sl 6 0), some (wi x1), some (wi x2), some (wi t0), none, none, none, none, none] [] V1 (zj K)) : vwp E d M_X12_autoValue 214 [some (sl 6 0), some (wi x1), some (wi x2), some (wi x3), none, none, none, none, none] [wi t0] V (zj K) := by
  intro G A hR
  obtain ⟨L, P, rfl, hS⟩ := hR
  have hx := Xt.refl (V := pl G A L P) (A := A)
  show wp E d M_X12_autoValue 214 [some (vr (A 6 0)), some (vi x1), some (vi x2), some (vi x3), none, none, none, none, none] [vi t0] G _
  refine v_X12_autoValue_214 ?_
  refine ⟨hS.o (s6_0 hS), ?_⟩
  have hS1 : Sh E (sI G (A 6 0) 54 ((gI G (A 6 0) 54) + 1)) A L P := Sh_sI (rfl : sI G (A 6 0) 54 ((gI G (A 6 0) 54) + 1) = sI G (A 6 0) 54 ((gI G (A 6 0) 54) + 1)) hS (s6_0 hS) (okT_0 rfl)
  have h := h (pl (sI G (A 6 0) 54 ((gI G (A 6 0) 54) + 1)) A L P) (pl_sI (rfl : sI G (A 6 0) 54 ((gI G (A 6 0) 54) + 1) = sI G (A 6 0) 54 ((gI G (A 6 0) 54) + 1)) hS (s6_0 hS))
  have hx1 : Xt (pl G A L P) A (pl (sI G (A 6 0) 54 ((gI G (A 6 0) 54) + 1)) A L P) A := Xt_sI (rfl : sI G (A 6 0) 54 ((gI G (A 6 0) 54) + 1) = sI G (A 6 0) 54 ((gI G (A 6 0) 54) + 1)) hx
  exact wp.mono (h (sI G (A 6 0) 54 ((gI G (A 6 0) 54) + 1)) A ⟨L, P, rfl, hS1⟩) (fun r G' q => qx_trans hx1 q)
theorem w_X12_busyValue_0 {E : EE} {d : Nat} {V : VH} {K : Int64 → VH → Prop}   (h : vp_in (vI V 6 0 54) 100000 ∧ (∀ V2 : VH, V2 = wrI V 6 0 54 ((vI V 6 0 54) + 1) → vwp E d M_X12_busyValue 23 [some (sl 6 0), some (wj (Int32.toInt64 (vI V 6 6 (Int32.toNatClampNeg (vI V 6 0 54))))), none, some (wi 0), none, none, none, none, none, none, none] [] V2 (zj K))) : vMJ E d M_X12_busyValue [sl 6 0] V K := by
  intro G A hR
  obtain ⟨L, P, rfl, hS⟩ := hR
  have hx := Xt.refl (V := pl G A L P) (A := A)
  show wpM E d M_X12_busyValue [vr (A 6 0)] G _
  refine wpM_of mk_X12_busyValue (Nat.le_of_ble_eq_true rfl) ?_
  refine v_X12_busyValue_0 ?_
  refine ⟨hS.o (s6_0 hS), ?_⟩
  rw [l6_0_9 hS]
  refine ⟨hS.o (s6_6 hS), ?_⟩
  obtain ⟨hi1, h⟩ := h
  refine ⟨by first | (rw [(n6_6 hS)]; exact hi1) | exact (congrArg (vp_in _) (n6_6 hS)).mpr hi1 | exact hi1, ?_⟩
  have hS2 : Sh E (sI G (A 6 0) 54 ((gI G (A 6 0) 54) + 1)) A L P := Sh_sI (rfl : sI G (A 6 0) 54 ((gI G (A 6 0) 54) + 1) = sI G (A 6 0) 54 ((gI G (A 6 0) 54) + 1)) hS (s6_0 hS) (okT_0 rfl)
  have h := h (pl (sI G (A 6 0) 54 ((gI G (A 6 0) 54) + 1)) A L P) (pl_sI (rfl : sI G (A 6 0) 54 ((gI G (A 6 0) 54) + 1) = sI G (A 6 0) 54 ((gI G (A 6 0) 54) + 1)) hS (s6_0 hS))
  have hx2 : Xt (pl G A L P) A (pl (sI G (A 6 0) 54 ((gI G (A 6 0) 54) + 1)) A L P) A := Xt_sI (rfl : sI G (A 6 0) 54 ((gI G (A 6 0) 54) + 1) = sI G (A 6 0) 54 ((gI G (A 6 0) 54) + 1)) hx
  exact wp.mono (h (sI G (A 6 0) 54 ((gI G (A 6 0) 54) + 1)) A ⟨L, P, rfl, hS2⟩) (fun r G' q => qx_trans hx2 q)
theorem w_X12_busyValue_23 {E : EE} {d : Nat} {V : VH} {K : Int64 → VH → Prop} {x1 : Int64} {x3 : Int32}  (h0 : 0 < d) (h : vp_in (vI V 6 0 54) 100000 ∧ (((vI V 6 5 (Int32.toNatClampNeg (vI V 6 0 54))) = 41 → vwp E d M_X12_busyValue 131 [some (sl 6 0), some (wj x1), none, some (wi x3), some (wj 0), none, some (wi 0), none, none, none, none] [] V (zj K)) ∧ (¬ ((vI V 6 5 (Int32.toNatClampNeg (vI V 6 0 54))) = 41) → ∀ V2 : VH, V2 = wrI V 6 0 54 ((vI V 6 0 54) + 2) → vMJ E (d - 1) M_X12_nameValue [sl 6 0] V2 (fun r3 V3 => vp_in x3 40 ∧ (∀ V7 : VH, V7 = wrJ V3 6 39 (Int32.toNatClampNeg x3) r3 → ∀ V8 : VH, V8 = wrI V7 6 0 54 ((vI V7 6 0 54) + 1) → vp_in (vI V8 6 0 54) 100000 ∧ (vp_in x3 40 ∧ (∀ V11 : VH, V11 = wrJ V8 6 40 (Int32.toNatClampNeg x3) (Int32.toInt64 (vI V8 6 6 (Int32.toNatClampNeg (vI V8 6 0 54)))) → ∀ V12 : VH, V12 = wrI V11 6 0 54 ((vI V11 6 0 54) + 2) → vp_in (vI V12 6 0 54) 100000 ∧ (vp_in x3 40 ∧ (∀ V15 : VH, V15 = wrJ V12 6 41 (Int32.toNatClampNeg x3) (Int32.toInt64 (vI V12 6 6 (Int32.toNatClampNeg (vI V12 6 0 54)))) → ∀ V16 : VH, V16 = wrI V15 6 0 54 ((vI V15 6 0 54) + 2) → vwp E d M_X12_busyValue 23 [some (sl 6 0), some (wj x1), none, some (wi (x3 + 1)), none, none, none, none, none, none, none] [] V16 (zj K)))))))))) : vwp E d M_X12_busyValue 23 [some (sl 6 0), some (wj x1), none, some (wi x3), none, none, none, none, none, none, none] [] V (zj K) := by
  intro G A hR
  obtain ⟨L, P, rfl, hS⟩ := hR
  have hx := Xt.refl (V := pl G A L P) (A := A)
  show wp E d M_X12_busyValue 23 [some (vr (A 6 0)), some (vj x1), none, some (vi x3), none, none, none, none, none, none, none] [] G _
  refine v_X12_busyValue_23 h0 ?_
  refine ⟨hS.o (s6_0 hS), ?_⟩
  rw [l6_0_8 hS]
  refine ⟨hS.o (s6_5 hS), ?_⟩
  obtain ⟨hi1, h⟩ := h
  refine ⟨by first | (rw [(n6_5 hS)]; exact hi1) | exact (congrArg (vp_in _) (n6_5 hS)).mpr hi1 | exact hi1, ?_⟩
  refine ⟨fun hc => ?_, fun hc => ?_⟩
  · have h := h.1 hc
    exact wp.mono (h G A ⟨L, P, rfl, hS⟩) (fun r G' q => qx_trans hx q)
  · have h := h.2 hc
    intro G2 eG2
    have hS2 : Sh E G2 A L P := Sh_sI eG2 hS (s6_0 hS) (okT_0 rfl)
    have h := h (pl G2 A L P) (pl_sI eG2 hS (s6_0 hS))
    have hx2 : Xt (pl G A L P) A (pl G2 A L P) A := Xt_sI eG2 hx
    rw [l6_0_58 hS2]
    refine wpM.mono (h G2 A ⟨L, P, rfl, hS2⟩) (fun rr3 G3 hr => ?_)
    obtain ⟨A3, W3, w3, ⟨L3, P3, rfl, hS3⟩, hy3, rfl, r3, rfl, h⟩ := hr
    refine ⟨r3, rfl, ?_⟩
    have hx3 := Xt.trans hx2 hy3
    have ee4 : A3 6 0 = A 6 0 := hy3.2 _ _ hS2.1.2.1 (((n6_0 hS3)).trans ((n6_0 hS2)).symm)
    try rw [← ee4]
    have ee5 : A3 6 39 = A 6 39 := hy3.2 _ _ hS2.1.2.1 (((n6_39 hS3)).trans ((n6_39 hS2)).symm)
    try rw [← ee5]
    refine ⟨hS3.o (s6_39 hS3), ?_⟩
    obtain ⟨hi6, h⟩ := h
    refine ⟨by first | (rw [(n6_39 hS3)]; exact hi6) | exact (congrArg (vp_in _) (n6_39 hS3)).mpr hi6 | exact hi6, ?_⟩
    intro G7 eG7
    have hS7 : Sh E G7 A3 L3 P3 := Sh_sJ eG7 hS3
    have h := h (pl G7 A3 L3 P3) (pl_sJ eG7 hS3 (s6_39 hS3))
    have hx7 : Xt (pl G A L P) A (pl G7 A3 L3 P3) A3 := Xt_sJ eG7 hx3
    refine ⟨hS7.o (s6_0 hS7), ?_⟩
    intro G8 eG8
    have hS8 : Sh E G8 A3 L3 P3 := Sh_sI eG8 hS7 (s6_0 hS7) (okT_0 rfl)
    have h := h (pl G8 A3 L3 P3) (pl_sI eG8 hS7 (s6_0 hS7))
    have hx8 : Xt (pl G A L P) A (pl G8 A3 L3 P3) A3 := Xt_sI eG8 hx7
    rw [l6_0_59 hS8]
    rw [l6_0_9 hS8]
    refine ⟨hS8.o (s6_6 hS8), ?_⟩
    obtain ⟨hi9, h⟩ := h
    refine ⟨by first | (rw [(n6_6 hS8)]; exact hi9) | exact (congrArg (vp_in _) (n6_6 hS8)).mpr hi9 | exact hi9, ?_⟩
    refine ⟨hS8.o (s6_40 hS8), ?_⟩
    obtain ⟨hi10, h⟩ := h
    refine ⟨by first | (rw [(n6_40 hS8)]; exact hi10) | exact (congrArg (vp_in _) (n6_40 hS8)).mpr hi10 | exact hi10, ?_⟩
    intro G11 eG11
    have hS11 : Sh E G11 A3 L3 P3 := Sh_sJ eG11 hS8
    have h := h (pl G11 A3 L3 P3) (pl_sJ eG11 hS8 (s6_40 hS8))
    have hx11 : Xt (pl G A L P) A (pl G11 A3 L3 P3) A3 := Xt_sJ eG11 hx8
    intro G12 eG12
    have hS12 : Sh E G12 A3 L3 P3 := Sh_sI eG12 hS11 (s6_0 hS11) (okT_0 rfl)
    have h := h (pl G12 A3 L3 P3) (pl_sI eG12 hS11 (s6_0 hS11))
    have hx12 : Xt (pl G A L P) A (pl G12 A3 L3 P3) A3 := Xt_sI eG12 hx11
    rw [l6_0_60 hS12]
    rw [l6_0_9 hS12]
    refine ⟨hS12.o (s6_6 hS12), ?_⟩
    obtain ⟨hi13, h⟩ := h
    refine ⟨by first | (rw [(n6_6 hS12)]; exact hi13) | exact (congrArg (vp_in _) (n6_6 hS12)).mpr hi13 | exact hi13, ?_⟩
    refine ⟨hS12.o (s6_41 hS12), ?_⟩
    obtain ⟨hi14, h⟩ := h
    refine ⟨by first | (rw [(n6_41 hS12)]; exact hi14) | exact (congrArg (vp_in _) (n6_41 hS12)).mpr hi14 | exact hi14, ?_⟩
    intro G15 eG15
    have hS15 : Sh E G15 A3 L3 P3 := Sh_sJ eG15 hS12
    have h := h (pl G15 A3 L3 P3) (pl_sJ eG15 hS12 (s6_41 hS12))
    have hx15 : Xt (pl G A L P) A (pl G15 A3 L3 P3) A3 := Xt_sJ eG15 hx12
    intro G16 eG16
    have hS16 : Sh E G16 A3 L3 P3 := Sh_sI eG16 hS15 (s6_0 hS15) (okT_0 rfl)
    have h := h (pl G16 A3 L3 P3) (pl_sI eG16 hS15 (s6_0 hS15))
    have hx16 : Xt (pl G A L P) A (pl G16 A3 L3 P3) A3 := Xt_sI eG16 hx15
    exact wp.mono (h G16 A3 ⟨L3, P3, rfl, hS16⟩) (fun r G' q => qx_trans hx16 q)
theorem w_X12_busyValue_131 {E : EE} {d : Nat} {V : VH} {K : Int64 → VH → Prop} {x1 : Int64} {x3 : Int32} {x4 : Int64} {x6 : Int32}  (h : (x3 ≤ x6 → (x4 ≤ x1 → K 0 V) ∧ (¬ (x4 ≤ x1) → K (x4 - x1) V)) ∧ (¬ (x3 ≤ x6) → vwp E d M_X12_busyValue 143 [some (sl 6 0), some (wj x1), none, some (wi x3), some (wj x4), none, some (wi x6), some (wj 0), none, some (wi 0), none] [] V (zj K))) : vwp E d M_X12_busyValue 131 [some (sl 6 0), some (wj x1), none, some (wi x3), some (wj x4), none, some (wi x6), none, none, none, none] [] V (zj K) := by
  intro G A hR
  obtain ⟨L, P, rfl, hS⟩ := hR
  have hx := Xt.refl (V := pl G A L P) (A := A)
  show wp E d M_X12_busyValue 131 [some (vr (A 6 0)), some (vj x1), none, some (vi x3), some (vj x4), none, some (vi x6), none, none, none, none] [] G _
  refine v_X12_busyValue_131 ?_
  refine ⟨fun hc => ?_, fun hc => ?_⟩
  · have h := h.1 hc
    refine ⟨fun hc => ?_, fun hc => ?_⟩
    · have h := h.1 hc
      exact qx_j hS hx h
    · have h := h.2 hc
      exact qx_j hS hx h
  · have h := h.2 hc
    exact wp.mono (h G A ⟨L, P, rfl, hS⟩) (fun r G' q => qx_trans hx q)
theorem w_X12_busyValue_143 {E : EE} {d : Nat} {V : VH} {K : Int64 → VH → Prop} {x1 : Int64} {x3 : Int32} {x4 : Int64} {x6 : Int32} {x7 : Int64} {x9 : Int32}  (h : (x3 ≤ x9 → (x7 ≤ x4 → vwp E d M_X12_busyValue 242 [some (sl 6 0), some (wj x1), none, some (wi x3), some (wj x4), none, some (wi x6), some (wj x7), none, some (wi x9), none] [wj x4] V (zj K)) ∧ (¬ (x7 ≤ x4) → vwp E d M_X12_busyValue 242 [some (sl 6 0), some (wj x1), none, some (wi x3), some (wj x4), none, some (wi x6), some (wj x7), none, some (wi x9), none] [wj x7] V (zj K))) ∧ (¬ (x3 ≤ x9) → vp_in x9 40 ∧ (vp_in x6 40 ∧ (((vJ V 6 39 (Int32.toNatClampNeg x6)) < (vJ V 6 39 (Int32.toNatClampNeg x9)) → vwp E d M_X12_busyValue 197 [some (sl 6 0), some (wj x1), none, some (wi x3), some (wj x4), none, some (wi x6), some (wj x7), none, some (wi x9), none] [] V (zj K)) ∧ (¬ ((vJ V 6 39 (Int32.toNatClampNeg x6)) < (vJ V 6 39 (Int32.toNatClampNeg x9))) → vp_in x6 40 ∧ (vp_in x9 40 ∧ (vp_in x9 40 ∧ ((((vJ V 6 39 (Int32.toNatClampNeg x9)) + (vJ V 6 40 (Int32.toNatClampNeg x9))) ≤ (vJ V 6 39 (Int32.toNatClampNeg x6)) → vwp E d M_X12_busyValue 197 [some (sl 6 0), some (wj x1), none, some (wi x3), some (wj x4), none, some (wi x6), some (wj x7), none, some (wi x9), none] [] V (zj K)) ∧ (¬ (((vJ V 6 39 (Int32.toNatClampNeg x9)) + (vJ V 6 40 (Int32.toNatClampNeg x9))) ≤ (vJ V 6 39 (Int32.toNatClampNeg x6))) → vwp E d M_X12_busyValue 198 [some (sl 6 0), some (wj x1), none, some (wi x3), some (wj x4), none, some (wi x6), some (wj x7), none, some (wi x9), none] [wi 1] V (zj K)))))))))) : vwp E d M_X12_busyValue 143 [some (sl 6 0), some (wj x1), none, some (wi x3), some (wj x4), none, some (wi x6), some (wj x7), none, some (wi x9), none] [] V (zj K) := by
  intro G A hR
  obtain ⟨L, P, rfl, hS⟩ := hR
  have hx := Xt.refl (V := pl G A L P) (A := A)
  show wp E d M_X12_busyValue 143 [some (vr (A 6 0)), some (vj x1), none, some (vi x3), some (vj x4), none, some (vi x6), some (vj x7), none, some (vi x9), none] [] G _
  refine v_X12_busyValue_143 ?_
  refine ⟨fun hc => ?_, fun hc => ?_⟩
  · have h := h.1 hc
    refine ⟨fun hc => ?_, fun hc => ?_⟩
    · have h := h.1 hc
      exact wp.mono (h G A ⟨L, P, rfl, hS⟩) (fun r G' q => qx_trans hx q)
    · have h := h.2 hc
      exact wp.mono (h G A ⟨L, P, rfl, hS⟩) (fun r G' q => qx_trans hx q)
  · have h := h.2 hc
    refine ⟨hS.o (s6_0 hS), ?_⟩
    rw [l6_0_58 hS]
    refine ⟨hS.o (s6_39 hS), ?_⟩
    obtain ⟨hi1, h⟩ := h
    refine ⟨by first | (rw [(n6_39 hS)]; exact hi1) | exact (congrArg (vp_in _) (n6_39 hS)).mpr hi1 | exact hi1, ?_⟩
    obtain ⟨hi2, h⟩ := h
    refine ⟨by first | (rw [(n6_39 hS)]; exact hi2) | exact (congrArg (vp_in _) (n6_39 hS)).mpr hi2 | exact hi2, ?_⟩
    refine ⟨fun hc => ?_, fun hc => ?_⟩
    · have h := h.1 hc
      exact wp.mono (h G A ⟨L, P, rfl, hS⟩) (fun r G' q => qx_trans hx q)
    · have h := h.2 hc
      obtain ⟨hi3, h⟩ := h
      refine ⟨by first | (rw [(n6_39 hS)]; exact hi3) | exact (congrArg (vp_in _) (n6_39 hS)).mpr hi3 | exact hi3, ?_⟩
      obtain ⟨hi4, h⟩ := h
      refine ⟨by first | (rw [(n6_39 hS)]; exact hi4) | exact (congrArg (vp_in _) (n6_39 hS)).mpr hi4 | exact hi4, ?_⟩
      rw [l6_0_59 hS]
      refine ⟨hS.o (s6_40 hS), ?_⟩
      obtain ⟨hi5, h⟩ := h
      refine ⟨by first | (rw [(n6_40 hS)]; exact hi5) | exact (congrArg (vp_in _) (n6_40 hS)).mpr hi5 | exact hi5, ?_⟩
      refine ⟨fun hc => ?_, fun hc => ?_⟩
      · have h := h.1 hc
        exact wp.mono (h G A ⟨L, P, rfl, hS⟩) (fun r G' q => qx_trans hx q)
      · have h := h.2 hc
        exact wp.mono (h G A ⟨L, P, rfl, hS⟩) (fun r G' q => qx_trans hx q)
theorem w_X12_busyValue_197 {E : EE} {d : Nat} {V : VH} {K : Int64 → VH → Prop} {x1 : Int64} {x3 : Int32} {x4 : Int64} {x6 : Int32} {x7 : Int64} {x9 : Int32}  (h : vwp E d M_X12_busyValue 198 [some (sl 6 0), some (wj x1), none, some (wi x3), some (wj x4), none, some (wi x6), some (wj x7), none, some (wi x9), none] [wi 0] V (zj K)) : vwp E d M_X12_busyValue 197 [some (sl 6 0), some (wj x1), none, some (wi x3), some (wj x4), none, some (wi x6), some (wj x7), none, some (wi x9), none] [] V (zj K) := by
  intro G A hR
  obtain ⟨L, P, rfl, hS⟩ := hR
  have hx := Xt.refl (V := pl G A L P) (A := A)
  show wp E d M_X12_busyValue 197 [some (vr (A 6 0)), some (vj x1), none, some (vi x3), some (vj x4), none, some (vi x6), some (vj x7), none, some (vi x9), none] [] G _
  refine v_X12_busyValue_197 ?_
  exact wp.mono (h G A ⟨L, P, rfl, hS⟩) (fun r G' q => qx_trans hx q)
theorem w_X12_busyValue_198 {E : EE} {d : Nat} {V : VH} {K : Int64 → VH → Prop} {x1 : Int64} {x3 : Int32} {x4 : Int64} {x6 : Int32} {x7 : Int64} {x9 : Int32} {t0 : Int32}  (h : (t0 = 0 → vwp E d M_X12_busyValue 218 [some (sl 6 0), some (wj x1), none, some (wi x3), some (wj x4), none, some (wi x6), some (wj x7), none, some (wi x9), some (wi t0)] [wj 0, wj x7] V (zj K)) ∧ (¬ (t0 = 0) → vp_in x9 40 ∧ (vwp E d M_X12_busyValue 218 [some (sl 6 0), some (wj x1), none, some (wi x3), some (wj x4), none, some (wi x6), some (wj x7), none, some (wi x9), some (wi t0)] [wj (vJ V 6 41 (Int32.toNatClampNeg x9)), wj x7] V (zj K)))) : vwp E d M_X12_busyValue 198 [some (sl 6 0), some (wj x1), none, some (wi x3), some (wj x4), none, some (wi x6), some (wj x7), none, some (wi x9), none] [wi t0] V (zj K) := by
  intro G A hR
  obtain ⟨L, P, rfl, hS⟩ := hR
  have hx := Xt.refl (V := pl G A L P) (A := A)
  show wp E d M_X12_busyValue 198 [some (vr (A 6 0)), some (vj x1), none, some (vi x3), some (vj x4), none, some (vi x6), some (vj x7), none, some (vi x9), none] [vi t0] G _
  refine v_X12_busyValue_198 ?_
  refine ⟨fun hc => ?_, fun hc => ?_⟩
  · have h := h.1 hc
    exact wp.mono (h G A ⟨L, P, rfl, hS⟩) (fun r G' q => qx_trans hx q)
  · have h := h.2 hc
    refine ⟨hS.o (s6_0 hS), ?_⟩
    rw [l6_0_60 hS]
    refine ⟨hS.o (s6_41 hS), ?_⟩
    obtain ⟨hi1, h⟩ := h
    refine ⟨by first | (rw [(n6_41 hS)]; exact hi1) | exact (congrArg (vp_in _) (n6_41 hS)).mpr hi1 | exact hi1, ?_⟩
    exact wp.mono (h G A ⟨L, P, rfl, hS⟩) (fun r G' q => qx_trans hx q)
theorem w_X12_busyValue_218 {E : EE} {d : Nat} {V : VH} {K : Int64 → VH → Prop} {x1 : Int64} {x3 : Int32} {x4 : Int64} {x6 : Int32} {x7 : Int64} {x9 : Int32} {x10 : Int32} {t0 : Int64} {t1 : Int64}  (h : vwp E d M_X12_busyValue 143 [some (sl 6 0), some (wj x1), none, some (wi x3), some (wj x4), none, some (wi x6), some (wj (t0 + t1)), none, some (wi (x9 + 1)), none] [] V (zj K)) : vwp E d M_X12_busyValue 218 [some (sl 6 0), some (wj x1), none, some (wi x3), some (wj x4), none, some (wi x6), some (wj x7), none, some (wi x9), some (wi x10)] [wj t1, wj t0] V (zj K) := by
  intro G A hR
  obtain ⟨L, P, rfl, hS⟩ := hR
  have hx := Xt.refl (V := pl G A L P) (A := A)
  show wp E d M_X12_busyValue 218 [some (vr (A 6 0)), some (vj x1), none, some (vi x3), some (vj x4), none, some (vi x6), some (vj x7), none, some (vi x9), some (vi x10)] [vj t1, vj t0] G _
  refine v_X12_busyValue_218 ?_
  exact wp.mono (h G A ⟨L, P, rfl, hS⟩) (fun r G' q => qx_trans hx q)
theorem w_X12_busyValue_242 {E : EE} {d : Nat} {V : VH} {K : Int64 → VH → Prop} {x1 : Int64} {x3 : Int32} {x4 : Int64} {x6 : Int32} {x7 : Int64} {x9 : Int32} {t0 : Int64}  (h : vwp E d M_X12_busyValue 131 [some (sl 6 0), some (wj x1), none, some (wi x3), some (wj t0), none, some (wi (x6 + 1)), none, none, none, none] [] V (zj K)) : vwp E d M_X12_busyValue 242 [some (sl 6 0), some (wj x1), none, some (wi x3), some (wj x4), none, some (wi x6), some (wj x7), none, some (wi x9), none] [wj t0] V (zj K) := by
  intro G A hR
  obtain ⟨L, P, rfl, hS⟩ := hR
  have hx := Xt.refl (V := pl G A L P) (A := A)
  show wp E d M_X12_busyValue 242 [some (vr (A 6 0)), some (vj x1), none, some (vi x3), some (vj x4), none, some (vi x6), some (vj x7), none, some (vi x9), none] [vj t0] G _
  refine v_X12_busyValue_242 ?_
  exact wp.mono (h G A ⟨L, P, rfl, hS⟩) (fun r G' q => qx_trans hx q)
theorem w_X12_apartValue_0 {E : EE} {d : Nat} {V : VH} {K : Int64 → VH → Prop}   (h : vwp E d M_X12_apartValue 4 [some (sl 6 0), some (wi 0), some (wi 1), none, none, none, none, none, none] [] V (zj K)) : vMJ E d M_X12_apartValue [sl 6 0] V K := by
  intro G A hR
  obtain ⟨L, P, rfl, hS⟩ := hR
  have hx := Xt.refl (V := pl G A L P) (A := A)
  show wpM E d M_X12_apartValue [vr (A 6 0)] G _
  refine wpM_of mk_X12_apartValue (Nat.le_of_ble_eq_true rfl) ?_
  refine v_X12_apartValue_0 ?_
  exact wp.mono (h G A ⟨L, P, rfl, hS⟩) (fun r G' q => qx_trans hx q)
theorem w_X12_apartValue_4 {E : EE} {d : Nat} {V : VH} {K : Int64 → VH → Prop} {x1 : Int32} {x2 : Int32}  (h : vp_in (vI V 6 0 54) 100000 ∧ (((vI V 6 5 (Int32.toNatClampNeg (vI V 6 0 54))) = 41 → vwp E d M_X12_apartValue 141 [some (sl 6 0), some (wi x1), some (wi x2), some (wj 0), none, some (wi 0), none, none, none] [] V (zj K)) ∧ (¬ ((vI V 6 5 (Int32.toNatClampNeg (vI V 6 0 54))) = 41) → (x2 = 0 → vwp E d M_X12_apartValue 32 [some (sl 6 0), some (wi x1), some (wi x2), none, none, none, none, none, none] [wi 2, wi (vI V 6 0 54), sl 6 0] V (zj K)) ∧ (¬ (x2 = 0) → vwp E d M_X12_apartValue 32 [some (sl 6 0), some (wi x1), some (wi x2), none, none, none, none, none, none] [wi 1, wi (vI V 6 0 54), sl 6 0] V (zj K))))) : vwp E d M_X12_apartValue 4 [some (sl 6 0), some (wi x1), some (wi x2), none, none, none, none, none, none] [] V (zj K) := by
  intro G A hR
  obtain ⟨L, P, rfl, hS⟩ := hR
  have hx := Xt.refl (V := pl G A L P) (A := A)
  show wp E d M_X12_apartValue 4 [some (vr (A 6 0)), some (vi x1), some (vi x2), none, none, none, none, none, none] [] G _
  refine v_X12_apartValue_4 ?_
  refine ⟨hS.o (s6_0 hS), ?_⟩
  rw [l6_0_8 hS]
  refine ⟨hS.o (s6_5 hS), ?_⟩
  obtain ⟨hi1, h⟩ := h
  refine ⟨by first | (rw [(n6_5 hS)]; exact hi1) | exact (congrArg (vp_in _) (n6_5 hS)).mpr hi1 | exact hi1, ?_⟩
  refine ⟨fun hc => ?_, fun hc => ?_⟩
  · have h := h.1 hc
    exact wp.mono (h G A ⟨L, P, rfl, hS⟩) (fun r G' q => qx_trans hx q)
  · have h := h.2 hc
    refine ⟨fun hc => ?_, fun hc => ?_⟩
    · have h := h.1 hc
      exact wp.mono (h G A ⟨L, P, rfl, hS⟩) (fun r G' q => qx_trans hx q)
    · have h := h.2 hc
      exact wp.mono (h G A ⟨L, P, rfl, hS⟩) (fun r G' q => qx_trans hx q)
theorem w_X12_apartValue_32 {E : EE} {d : Nat} {V : VH} {K : Int64 → VH → Prop} {x1 : Int32} {x2 : Int32} {t1 : Int32} {t2 : Int32}  (h0 : 0 < d) (h : ∀ V1 : VH, V1 = wrI V 6 0 54 (t1 + t2) → vMJ E (d - 1) M_X12_nameValue [sl 6 0] V1 (fun r2 V2 => vp_in x1 40 ∧ (∀ V6 : VH, V6 = wrJ V2 6 39 (Int32.toNatClampNeg x1) r2 → ∀ V7 : VH, V7 = wrI V6 6 0 54 ((vI V6 6 0 54) + 1) → vMJ E (d - 1) M_X12_nameValue [sl 6 0] V7 (fun r8 V8 => vp_in x1 40 ∧ (∀ V12 : VH, V12 = wrJ V8 6 40 (Int32.toNatClampNeg x1) r8 → ∀ V13 : VH, V13 = wrI V12 6 0 54 ((vI V12 6 0 54) + 1) → vp_in (vI V13 6 0 54) 100000 ∧ (vp_in x1 40 ∧ (∀ V16 : VH, V16 = wrJ V13 6 42 (Int32.toNatClampNeg x1) (Int32.toInt64 (vI V13 6 6 (Int32.toNatClampNeg (vI V13 6 0 54)))) → ∀ V17 : VH, V17 = wrI V16 6 0 54 ((vI V16 6 0 54) + 2) → vp_in (vI V17 6 0 54) 100000 ∧ (vp_in x1 40 ∧ (∀ V20 : VH, V20 = wrJ V17 6 41 (Int32.toNatClampNeg x1) (Int32.toInt64 (vI V17 6 6 (Int32.toNatClampNeg (vI V17 6 0 54)))) → ∀ V21 : VH, V21 = wrI V20 6 0 54 ((vI V20 6 0 54) + 2) → vwp E d M_X12_apartValue 4 [some (sl 6 0), some (wi (x1 + 1)), some (wi 0), none, none, none, none, none, none] [] V21 (zj K)))))))))) : vwp E d M_X12_apartValue 32 [some (sl 6 0), some (wi x1), some (wi x2), none, none, none, none, none, none] [wi t2, wi t1, sl 6 0] V (zj K) := by
  intro G A hR
  obtain ⟨L, P, rfl, hS⟩ := hR
  have hx := Xt.refl (V := pl G A L P) (A := A)
  show wp E d M_X12_apartValue 32 [some (vr (A 6 0)), some (vi x1), some (vi x2), none, none, none, none, none, none] [vi t2, vi t1, vr (A 6 0)] G _
  refine v_X12_apartValue_32 h0 ?_
  refine ⟨hS.o (s6_0 hS), ?_⟩
  intro G1 eG1
  have hS1 : Sh E G1 A L P := Sh_sI eG1 hS (s6_0 hS) (okT_0 rfl)
  have h := h (pl G1 A L P) (pl_sI eG1 hS (s6_0 hS))
  have hx1 : Xt (pl G A L P) A (pl G1 A L P) A := Xt_sI eG1 hx
  refine ⟨hS1.o (s6_0 hS1), ?_⟩
  rw [l6_0_58 hS1]
  refine wpM.mono (h G1 A ⟨L, P, rfl, hS1⟩) (fun rr2 G2 hr => ?_)
  obtain ⟨A2, W2, w2, ⟨L2, P2, rfl, hS2⟩, hy2, rfl, r2, rfl, h⟩ := hr
  refine ⟨r2, rfl, ?_⟩
  have hx2 := Xt.trans hx1 hy2
  have ee3 : A2 6 0 = A 6 0 := hy2.2 _ _ hS1.1.2.1 (((n6_0 hS2)).trans ((n6_0 hS1)).symm)
  try rw [← ee3]
  have ee4 : A2 6 39 = A 6 39 := hy2.2 _ _ hS1.1.2.1 (((n6_39 hS2)).trans ((n6_39 hS1)).symm)
  try rw [← ee4]
  refine ⟨hS2.o (s6_39 hS2), ?_⟩
  obtain ⟨hi5, h⟩ := h
  refine ⟨by first | (rw [(n6_39 hS2)]; exact hi5) | exact (congrArg (vp_in _) (n6_39 hS2)).mpr hi5 | exact hi5, ?_⟩
  intro G6 eG6
  have hS6 : Sh E G6 A2 L2 P2 := Sh_sJ eG6 hS2
  have h := h (pl G6 A2 L2 P2) (pl_sJ eG6 hS2 (s6_39 hS2))
  have hx6 : Xt (pl G A L P) A (pl G6 A2 L2 P2) A2 := Xt_sJ eG6 hx2
  refine ⟨hS6.o (s6_0 hS6), ?_⟩
  intro G7 eG7
  have hS7 : Sh E G7 A2 L2 P2 := Sh_sI eG7 hS6 (s6_0 hS6) (okT_0 rfl)
  have h := h (pl G7 A2 L2 P2) (pl_sI eG7 hS6 (s6_0 hS6))
  have hx7 : Xt (pl G A L P) A (pl G7 A2 L2 P2) A2 := Xt_sI eG7 hx6
  rw [l6_0_59 hS7]
  refine wpM.mono (h G7 A2 ⟨L2, P2, rfl, hS7⟩) (fun rr8 G8 hr => ?_)
  obtain ⟨A8, W8, w8, ⟨L8, P8, rfl, hS8⟩, hy8, rfl, r8, rfl, h⟩ := hr
  refine ⟨r8, rfl, ?_⟩
  have hx8 := Xt.trans hx7 hy8
  have ee9 : A8 6 0 = A2 6 0 := hy8.2 _ _ hS7.1.2.1 (((n6_0 hS8)).trans ((n6_0 hS7)).symm)
  try rw [← ee9]
  have ee10 : A8 6 40 = A2 6 40 := hy8.2 _ _ hS7.1.2.1 (((n6_40 hS8)).trans ((n6_40 hS7)).symm)
  try rw [← ee10]
  refine ⟨hS8.o (s6_40 hS8), ?_⟩
  obtain ⟨hi11, h⟩ := h
  refine ⟨by first | (rw [(n6_40 hS8)]; exact hi11) | exact (congrArg (vp_in _) (n6_40 hS8)).mpr hi11 | exact hi11, ?_⟩
  intro G12 eG12
  have hS12 : Sh E G12 A8 L8 P8 := Sh_sJ eG12 hS8
  have h := h (pl G12 A8 L8 P8) (pl_sJ eG12 hS8 (s6_40 hS8))
  have hx12 : Xt (pl G A L P) A (pl G12 A8 L8 P8) A8 := Xt_sJ eG12 hx8
  refine ⟨hS12.o (s6_0 hS12), ?_⟩
  intro G13 eG13
  have hS13 : Sh E G13 A8 L8 P8 := Sh_sI eG13 hS12 (s6_0 hS12) (okT_0 rfl)
  have h := h (pl G13 A8 L8 P8) (pl_sI eG13 hS12 (s6_0 hS12))
  have hx13 : Xt (pl G A L P) A (pl G13 A8 L8 P8) A8 := Xt_sI eG13 hx12
  rw [l6_0_61 hS13]
  rw [l6_0_9 hS13]
  refine ⟨hS13.o (s6_6 hS13), ?_⟩
  obtain ⟨hi14, h⟩ := h
  refine ⟨by first | (rw [(n6_6 hS13)]; exact hi14) | exact (congrArg (vp_in _) (n6_6 hS13)).mpr hi14 | exact hi14, ?_⟩
  refine ⟨hS13.o (s6_42 hS13), ?_⟩
  obtain ⟨hi15, h⟩ := h
  refine ⟨by first | (rw [(n6_42 hS13)]; exact hi15) | exact (congrArg (vp_in _) (n6_42 hS13)).mpr hi15 | exact hi15, ?_⟩
  intro G16 eG16
  have hS16 : Sh E G16 A8 L8 P8 := Sh_sJ eG16 hS13
  have h := h (pl G16 A8 L8 P8) (pl_sJ eG16 hS13 (s6_42 hS13))
  have hx16 : Xt (pl G A L P) A (pl G16 A8 L8 P8) A8 := Xt_sJ eG16 hx13
  intro G17 eG17
  have hS17 : Sh E G17 A8 L8 P8 := Sh_sI eG17 hS16 (s6_0 hS16) (okT_0 rfl)
  have h := h (pl G17 A8 L8 P8) (pl_sI eG17 hS16 (s6_0 hS16))
  have hx17 : Xt (pl G A L P) A (pl G17 A8 L8 P8) A8 := Xt_sI eG17 hx16
  rw [l6_0_60 hS17]
  rw [l6_0_9 hS17]
  refine ⟨hS17.o (s6_6 hS17), ?_⟩
  obtain ⟨hi18, h⟩ := h
  refine ⟨by first | (rw [(n6_6 hS17)]; exact hi18) | exact (congrArg (vp_in _) (n6_6 hS17)).mpr hi18 | exact hi18, ?_⟩
  refine ⟨hS17.o (s6_41 hS17), ?_⟩
  obtain ⟨hi19, h⟩ := h
  refine ⟨by first | (rw [(n6_41 hS17)]; exact hi19) | exact (congrArg (vp_in _) (n6_41 hS17)).mpr hi19 | exact hi19, ?_⟩
  intro G20 eG20
  have hS20 : Sh E G20 A8 L8 P8 := Sh_sJ eG20 hS17
  have h := h (pl G20 A8 L8 P8) (pl_sJ eG20 hS17 (s6_41 hS17))
  have hx20 : Xt (pl G A L P) A (pl G20 A8 L8 P8) A8 := Xt_sJ eG20 hx17
  intro G21 eG21
  have hS21 : Sh E G21 A8 L8 P8 := Sh_sI eG21 hS20 (s6_0 hS20) (okT_0 rfl)
  have h := h (pl G21 A8 L8 P8) (pl_sI eG21 hS20 (s6_0 hS20))
  have hx21 : Xt (pl G A L P) A (pl G21 A8 L8 P8) A8 := Xt_sI eG21 hx20
  exact wp.mono (h G21 A8 ⟨L8, P8, rfl, hS21⟩) (fun r G' q => qx_trans hx21 q)
theorem w_X12_apartValue_141 {E : EE} {d : Nat} {V : VH} {K : Int64 → VH → Prop} {x1 : Int32} {x2 : Int32} {x3 : Int64} {x5 : Int32}  (h : (x1 ≤ x5 → K x3 V) ∧ (¬ (x1 ≤ x5) → vwp E d M_X12_apartValue 150 [some (sl 6 0), some (wi x1), some (wi x2), some (wj x3), none, some (wi x5), some (wi 0), none, none] [] V (zj K))) : vwp E d M_X12_apartValue 141 [some (sl 6 0), some (wi x1), some (wi x2), some (wj x3), none, some (wi x5), none, none, none] [] V (zj K) := by
  intro G A hR
  obtain ⟨L, P, rfl, hS⟩ := hR
  have hx := Xt.refl (V := pl G A L P) (A := A)
  show wp E d M_X12_apartValue 141 [some (vr (A 6 0)), some (vi x1), some (vi x2), some (vj x3), none, some (vi x5), none, none, none] [] G _
  refine v_X12_apartValue_141 ?_
  refine ⟨fun hc => ?_, fun hc => ?_⟩
  · have h := h.1 hc
    exact qx_j hS hx h
  · have h := h.2 hc
    exact wp.mono (h G A ⟨L, P, rfl, hS⟩) (fun r G' q => qx_trans hx q)
theorem w_X12_apartValue_150 {E : EE} {d : Nat} {V : VH} {K : Int64 → VH → Prop} {x1 : Int32} {x2 : Int32} {x3 : Int64} {x5 : Int32} {x6 : Int32}  (h : (x5 ≤ x6 → vwp E d M_X12_apartValue 141 [some (sl 6 0), some (wi x1), some (wi x2), some (wj x3), none, some (wi (x5 + 1)), none, none, none] [] V (zj K)) ∧ (¬ (x5 ≤ x6) → vp_in x5 40 ∧ (vp_in x6 40 ∧ (vp_in x6 40 ∧ ((((vJ V 6 39 (Int32.toNatClampNeg x6)) + (vJ V 6 42 (Int32.toNatClampNeg x6))) ≤ (vJ V 6 39 (Int32.toNatClampNeg x5)) → vwp E d M_X12_apartValue 213 [some (sl 6 0), some (wi x1), some (wi x2), some (wj x3), none, some (wi x5), some (wi x6), none, none] [] V (zj K)) ∧ (¬ (((vJ V 6 39 (Int32.toNatClampNeg x6)) + (vJ V 6 42 (Int32.toNatClampNeg x6))) ≤ (vJ V 6 39 (Int32.toNatClampNeg x5))) → vp_in x6 40 ∧ (vp_in x5 40 ∧ (vp_in x5 40 ∧ ((((vJ V 6 39 (Int32.toNatClampNeg x5)) + (vJ V 6 42 (Int32.toNatClampNeg x5))) ≤ (vJ V 6 39 (Int32.toNatClampNeg x6)) → vwp E d M_X12_apartValue 213 [some (sl 6 0), some (wi x1), some (wi x2), some (wj x3), none, some (wi x5), some (wi x6), none, none] [] V (zj K)) ∧ (¬ (((vJ V 6 39 (Int32.toNatClampNeg x5)) + (vJ V 6 42 (Int32.toNatClampNeg x5))) ≤ (vJ V 6 39 (Int32.toNatClampNeg x6))) → vwp E d M_X12_apartValue 214 [some (sl 6 0), some (wi x1), some (wi x2), some (wj x3), none, some (wi x5), some (wi x6), none, none] [wi 1] V (zj K))))))))))) : vwp E d M_X12_apartValue 150 [some (sl 6 0), some (wi x1), some (wi x2), some (wj x3), none, some (wi x5), some (wi x6), none, none] [] V (zj K) := by
  intro G A hR
  obtain ⟨L, P, rfl, hS⟩ := hR
  have hx := Xt.refl (V := pl G A L P) (A := A)
  show wp E d M_X12_apartValue 150 [some (vr (A 6 0)), some (vi x1), some (vi x2), some (vj x3), none, some (vi x5), some (vi x6), none, none] [] G _
  refine v_X12_apartValue_150 ?_
  refine ⟨fun hc => ?_, fun hc => ?_⟩
  · have h := h.1 hc
    exact wp.mono (h G A ⟨L, P, rfl, hS⟩) (fun r G' q => qx_trans hx q)
  · have h := h.2 hc
    refine ⟨hS.o (s6_0 hS), ?_⟩
    rw [l6_0_58 hS]
    refine ⟨hS.o (s6_39 hS), ?_⟩
    obtain ⟨hi1, h⟩ := h
    refine ⟨by first | (rw [(n6_39 hS)]; exact hi1) | exact (congrArg (vp_in _) (n6_39 hS)).mpr hi1 | exact hi1, ?_⟩
    obtain ⟨hi2, h⟩ := h
    refine ⟨by first | (rw [(n6_39 hS)]; exact hi2) | exact (congrArg (vp_in _) (n6_39 hS)).mpr hi2 | exact hi2, ?_⟩
    rw [l6_0_61 hS]
    refine ⟨hS.o (s6_42 hS), ?_⟩
    obtain ⟨hi3, h⟩ := h
    refine ⟨by first | (rw [(n6_42 hS)]; exact hi3) | exact (congrArg (vp_in _) (n6_42 hS)).mpr hi3 | exact hi3, ?_⟩
    refine ⟨fun hc => ?_, fun hc => ?_⟩
    · have h := h.1 hc
      exact wp.mono (h G A ⟨L, P, rfl, hS⟩) (fun r G' q => qx_trans hx q)
    · have h := h.2 hc
      obtain ⟨hi4, h⟩ := h
      refine ⟨by first | (rw [(n6_39 hS)]; exact hi4) | exact (congrArg (vp_in _) (n6_39 hS)).mpr hi4 | exact hi4, ?_⟩
      obtain ⟨hi5, h⟩ := h
      refine ⟨by first | (rw [(n6_39 hS)]; exact hi5) | exact (congrArg (vp_in _) (n6_39 hS)).mpr hi5 | exact hi5, ?_⟩
      obtain ⟨hi6, h⟩ := h
      refine ⟨by first | (rw [(n6_42 hS)]; exact hi6) | exact (congrArg (vp_in _) (n6_42 hS)).mpr hi6 | exact hi6, ?_⟩
      refine ⟨fun hc => ?_, fun hc => ?_⟩
      · have h := h.1 hc
        exact wp.mono (h G A ⟨L, P, rfl, hS⟩) (fun r G' q => qx_trans hx q)
      · have h := h.2 hc
        exact wp.mono (h G A ⟨L, P, rfl, hS⟩) (fun r G' q => qx_trans hx q)
theorem w_X12_apartValue_213 {E : EE} {d : Nat} {V : VH} {K : Int64 → VH → Prop} {x1 : Int32} {x2 : Int32} {x3 : Int64} {x5 : Int32} {x6 : Int32}  (h : vwp E d M_X12_apartValue 214 [some (sl 6 0), some (wi x1), some (wi x2), some (wj x3), none, some (wi x5), some (wi x6), none, none] [wi 0] V (zj K)) : vwp E d M_X12_apartValue 213 [some (sl 6 0), some (wi x1), some (wi x2), some (wj x3), none, some (wi x5), some (wi x6), none, none] [] V (zj K) := by
  intro G A hR
  obtain ⟨L, P, rfl, hS⟩ := hR
  have hx := Xt.refl (V := pl G A L P) (A := A)
  show wp E d M_X12_apartValue 213 [some (vr (A 6 0)), some (vi x1), some (vi x2), some (vj x3), none, some (vi x5), some (vi x6), none, none] [] G _
  refine v_X12_apartValue_213 ?_
  exact wp.mono (h G A ⟨L, P, rfl, hS⟩) (fun r G' q => qx_trans hx q)
theorem w_X12_apartValue_214 {E : EE} {d : Nat} {V : VH} {K : Int64 → VH → Prop} {x1 : Int32} {x2 : Int32} {x3 : Int64} {x5 : Int32} {x6 : Int32} {t0 : Int32}  (h : vp_in x5 40 ∧ (vp_in x6 40 ∧ (vp_in x6 40 ∧ ((((vJ V 6 40 (Int32.toNatClampNeg x6)) + (vJ V 6 41 (Int32.toNatClampNeg x6))) ≤ (vJ V 6 40 (Int32.toNatClampNeg x5)) → vwp E d M_X12_apartValue 272 [some (sl 6 0), some (wi x1), some (wi x2), some (wj x3), none, some (wi x5), some (wi x6), some (wi t0), none] [] V (zj K)) ∧ (¬ (((vJ V 6 40 (Int32.toNatClampNeg x6)) + (vJ V 6 41 (Int32.toNatClampNeg x6))) ≤ (vJ V 6 40 (Int32.toNatClampNeg x5))) → vp_in x6 40 ∧ (vp_in x5 40 ∧ (vp_in x5 40 ∧ ((((vJ V 6 40 (Int32.toNatClampNeg x5)) + (vJ V 6 41 (Int32.toNatClampNeg x5))) ≤ (vJ V 6 40 (Int32.toNatClampNeg x6)) → vwp E d M_X12_apartValue 272 [some (sl 6 0), some (wi x1), some (wi x2), some (wj x3), none, some (wi x5), some (wi x6), some (wi t0), none] [] V (zj K)) ∧ (¬ (((vJ V 6 40 (Int32.toNatClampNeg x5)) + (vJ V 6 41 (Int32.toNatClampNeg x5))) ≤ (vJ V 6 40 (Int32.toNatClampNeg x6))) → vwp E d M_X12_apartValue 273 [some (sl 6 0), some (wi x1), some (wi x2), some (wj x3), none, some (wi x5), some (wi x6), some (wi t0), none] [wi 1] V (zj K)))))))))) : vwp E d M_X12_apartValue 214 [some (sl 6 0), some (wi x1), some (wi x2), some (wj x3), none, some (wi x5), some (wi x6), none, none] [wi t0] V (zj K) := by
  intro G A hR
  obtain ⟨L, P, rfl, hS⟩ := hR
  have hx := Xt.refl (V := pl G A L P) (A := A)
  show wp E d M_X12_apartValue 214 [some (vr (A 6 0)), some (vi x1), some (vi x2), some (vj x3), none, some (vi x5), some (vi x6), none, none] [vi t0] G _
  refine v_X12_apartValue_214 ?_
  refine ⟨hS.o (s6_0 hS), ?_⟩
  rw [l6_0_59 hS]
  refine ⟨hS.o (s6_40 hS), ?_⟩
  obtain ⟨hi1, h⟩ := h
  refine ⟨by first | (rw [(n6_40 hS)]; exact hi1) | exact (congrArg (vp_in _) (n6_40 hS)).mpr hi1 | exact hi1, ?_⟩
  obtain ⟨hi2, h⟩ := h
  refine ⟨by first | (rw [(n6_40 hS)]; exact hi2) | exact (congrArg (vp_in _) (n6_40 hS)).mpr hi2 | exact hi2, ?_⟩
  rw [l6_0_60 hS]
  refine ⟨hS.o (s6_41 hS), ?_⟩
  obtain ⟨hi3, h⟩ := h
  refine ⟨by first | (rw [(n6_41 hS)]; exact hi3) | exact (congrArg (vp_in _) (n6_41 hS)).mpr hi3 | exact hi3, ?_⟩
  refine ⟨fun hc => ?_, fun hc => ?_⟩
  · have h := h.1 hc
    exact wp.mono (h G A ⟨L, P, rfl, hS⟩) (fun r G' q => qx_trans hx q)
  · have h := h.2 hc
    obtain ⟨hi4, h⟩ := h
    refine ⟨by first | (rw [(n6_40 hS)]; exact hi4) | exact (congrArg (vp_in _) (n6_40 hS)).mpr hi4 | exact hi4, ?_⟩
    obtain ⟨hi5, h⟩ := h
    refine ⟨by first | (rw [(n6_40 hS)]; exact hi5) | exact (congrArg (vp_in _) (n6_40 hS)).mpr hi5 | exact hi5, ?_⟩
    obtain ⟨hi6, h⟩ := h
    refine ⟨by first | (rw [(n6_41 hS)]; exact hi6) | exact (congrArg (vp_in _) (n6_41 hS)).mpr hi6 | exact hi6, ?_⟩
    refine ⟨fun hc => ?_, fun hc => ?_⟩
    · have h := h.1 hc
      exact wp.mono (h G A ⟨L, P, rfl, hS⟩) (fun r G' q => qx_trans hx q)
    · have h := h.2 hc
      exact wp.mono (h G A ⟨L, P, rfl, hS⟩) (fun r G' q => qx_trans hx q)
theorem w_X12_apartValue_272 {E : EE} {d : Nat} {V : VH} {K : Int64 → VH → Prop} {x1 : Int32} {x2 : Int32} {x3 : Int64} {x5 : Int32} {x6 : Int32} {x7 : Int32}  (h : vwp E d M_X12_apartValue 273 [some (sl 6 0), some (wi x1), some (wi x2), some (wj x3), none, some (wi x5), some (wi x6), some (wi x7), none] [wi 0] V (zj K)) : vwp E d M_X12_apartValue 272 [some (sl 6 0), some (wi x1), some (wi x2), some (wj x3), none, some (wi x5), some (wi x6), some (wi x7), none] [] V (zj K) := by
  intro G A hR
  obtain ⟨L, P, rfl, hS⟩ := hR
  have hx := Xt.refl (V := pl G A L P) (A := A)
  show wp E d M_X12_apartValue 272 [some (vr (A 6 0)), some (vi x1), some (vi x2), some (vj x3), none, some (vi x5), some (vi x6), some (vi x7), none] [] G _
  refine v_X12_apartValue_272 ?_
  exact wp.mono (h G A ⟨L, P, rfl, hS⟩) (fun r G' q => qx_trans hx q)
theorem w_X12_apartValue_273 {E : EE} {d : Nat} {V : VH} {K : Int64 → VH → Prop} {x1 : Int32} {x2 : Int32} {x3 : Int64} {x5 : Int32} {x6 : Int32} {x7 : Int32} {t0 : Int32}  (h : (x7 = 0 → vwp E d M_X12_apartValue 290 [some (sl 6 0), some (wi x1), some (wi x2), some (wj x3), none, some (wi x5), some (wi x6), some (wi x7), some (wi t0)] [wj x3] V (zj K)) ∧ (¬ (x7 = 0) → (t0 = 0 → vwp E d M_X12_apartValue 290 [some (sl 6 0), some (wi x1), some (wi x2), some (wj x3), none, some (wi x5), some (wi x6), some (wi x7), some (wi t0)] [wj x3] V (zj K)) ∧ (¬ (t0 = 0) → vwp E d M_X12_apartValue 291 [some (sl 6 0), some (wi x1), some (wi x2), some (wj x3), none, some (wi x5), some (wi x6), some (wi x7), some (wi t0)] [wj 1, wj x3] V (zj K)))) : vwp E d M_X12_apartValue 273 [some (sl 6 0), some (wi x1), some (wi x2), some (wj x3), none, some (wi x5), some (wi x6), some (wi x7), none] [wi t0] V (zj K) := by
  intro G A hR
  obtain ⟨L, P, rfl, hS⟩ := hR
  have hx := Xt.refl (V := pl G A L P) (A := A)
  show wp E d M_X12_apartValue 273 [some (vr (A 6 0)), some (vi x1), some (vi x2), some (vj x3), none, some (vi x5), some (vi x6), some (vi x7), none] [vi t0] G _
  refine v_X12_apartValue_273 ?_
  refine ⟨fun hc => ?_, fun hc => ?_⟩
  · have h := h.1 hc
    exact wp.mono (h G A ⟨L, P, rfl, hS⟩) (fun r G' q => qx_trans hx q)
  · have h := h.2 hc
    refine ⟨fun hc => ?_, fun hc => ?_⟩
    · have h := h.1 hc
      exact wp.mono (h G A ⟨L, P, rfl, hS⟩) (fun r G' q => qx_trans hx q)
    · have h := h.2 hc
      exact wp.mono (h G A ⟨L, P, rfl, hS⟩) (fun r G' q => qx_trans hx q)
theorem w_X12_apartValue_290 {E : EE} {d : Nat} {V : VH} {K : Int64 → VH → Prop} {x1 : Int32} {x2 : Int32} {x3 : Int64} {x5 : Int32} {x6 : Int32} {x7 : Int32} {x8 : Int32} {t0 : Int64}  (h : vwp E d M_X12_apartValue 291 [some (sl 6 0), some (wi x1), some (wi x2), some (wj x3), none, some (wi x5), some (wi x6), some (wi x7), some (wi x8)] [wj 0, wj t0] V (zj K)) : vwp E d M_X12_apartValue 290 [some (sl 6 0), some (wi x1), some (wi x2), some (wj x3), none, some (wi x5), some (wi x6), some (wi x7), some (wi x8)] [wj t0] V (zj K) := by
  intro G A hR
  obtain ⟨L, P, rfl, hS⟩ := hR
  have hx := Xt.refl (V := pl G A L P) (A := A)
  show wp E d M_X12_apartValue 290 [some (vr (A 6 0)), some (vi x1), some (vi x2), some (vj x3), none, some (vi x5), some (vi x6), some (vi x7), some (vi x8)] [vj t0] G _
  refine v_X12_apartValue_290 ?_
  exact wp.mono (h G A ⟨L, P, rfl, hS⟩) (fun r G' q => qx_trans hx q)
theorem w_X12_apartValue_291 {E : EE} {d : Nat} {V : VH} {K : Int64 → VH → Prop} {x1 : Int32} {x2 : Int32} {x3 : Int64} {x5 : Int32} {x6 : Int32} {x7 : Int32} {x8 : Int32} {t0 : Int64} {t1 : Int64}  (h : vwp E d M_X12_apartValue 150 [some (sl 6 0), some (wi x1), some (wi x2), some (wj (t0 + t1)), none, some (wi x5), some (wi (x6 + 1)), none, none] [] V (zj K)) : vwp E d M_X12_apartValue 291 [some (sl 6 0), some (wi x1), some (wi x2), some (wj x3), none, some (wi x5), some (wi x6), some (wi x7), some (wi x8)] [wj t1, wj t0] V (zj K) := by
  intro G A hR
  obtain ⟨L, P, rfl, hS⟩ := hR
  have hx := Xt.refl (V := pl G A L P) (A := A)
  show wp E d M_X12_apartValue 291 [some (vr (A 6 0)), some (vi x1), some (vi x2), some (vj x3), none, some (vi x5), some (vi x6), some (vi x7), some (vi x8)] [vj t1, vj t0] G _
  refine v_X12_apartValue_291 ?_
  exact wp.mono (h G A ⟨L, P, rfl, hS⟩) (fun r G' q => qx_trans hx q)
theorem w_X12_sumValue_0 {E : EE} {d : Nat} {V : VH} {K : Int64 → VH → Prop}   (h0 : 0 < d) (h : vMJ E (d - 1) M_X12_termValue [sl 6 0] V (fun r1 V1 => vwp E d M_X12_sumValue 5 [some (sl 6 0), some (wj r1), none, none, none, none] [] V1 (zj K))) : vMJ E d M_X12_sumValue [sl 6 0] V K := by
  intro G A hR
  obtain ⟨L, P, rfl, hS⟩ := hR
  have hx := Xt.refl (V := pl G A L P) (A := A)
  show wpM E d M_X12_sumValue [vr (A 6 0)] G _
  refine wpM_of mk_X12_sumValue (Nat.le_of_ble_eq_true rfl) ?_
  refine v_X12_sumValue_0 h0 ?_
  refine ⟨hS.o (s6_0 hS), ?_⟩
  refine wpM.mono (h G A ⟨L, P, rfl, hS⟩) (fun rr1 G1 hr => ?_)
  obtain ⟨A1, W1, w1, ⟨L1, P1, rfl, hS1⟩, hy1, rfl, r1, rfl, h⟩ := hr
  refine ⟨r1, rfl, ?_⟩
  have hx1 := Xt.trans hx hy1
  have ee2 : A1 6 0 = A 6 0 := hy1.2 _ _ hS.1.2.1 (((n6_0 hS1)).trans ((n6_0 hS)).symm)
  try rw [← ee2]
  exact wp.mono (h G1 A1 ⟨L1, P1, rfl, hS1⟩) (fun r G' q => qx_trans hx1 q)
theorem w_X12_sumValue_5 {E : EE} {d : Nat} {V : VH} {K : Int64 → VH → Prop} {x1 : Int64}  (h : vp_in (vI V 6 0 54) 100000 ∧ (((vI V 6 5 (Int32.toNatClampNeg (vI V 6 0 54))) = 43 → vwp E d M_X12_sumValue 33 [some (sl 6 0), some (wj x1), none, none, none, none] [] V (zj K)) ∧ (¬ ((vI V 6 5 (Int32.toNatClampNeg (vI V 6 0 54))) = 43) → vp_in (vI V 6 0 54) 100000 ∧ ((¬ (vI V 6 5 (Int32.toNatClampNeg (vI V 6 0 54))) = 45 → K x1 V) ∧ ((vI V 6 5 (Int32.toNatClampNeg (vI V 6 0 54))) = 45 → vwp E d M_X12_sumValue 33 [some (sl 6 0), some (wj x1), none, none, none, none] [] V (zj K)))))) : vwp E d M_X12_sumValue 5 [some (sl 6 0), some (wj x1), none, none, none, none] [] V (zj K) := by
  intro G A hR
  obtain ⟨L, P, rfl, hS⟩ := hR
  have hx := Xt.refl (V := pl G A L P) (A := A)
  show wp E d M_X12_sumValue 5 [some (vr (A 6 0)), some (vj x1), none, none, none, none] [] G _
  refine v_X12_sumValue_5 ?_
  refine ⟨hS.o (s6_0 hS), ?_⟩
  rw [l6_0_8 hS]
  refine ⟨hS.o (s6_5 hS), ?_⟩
  obtain ⟨hi1, h⟩ := h
  refine ⟨by first | (rw [(n6_5 hS)]; exact hi1) | exact (congrArg (vp_in _) (n6_5 hS)).mpr hi1 | exact hi1, ?_⟩
  refine ⟨fun hc => ?_, fun hc => ?_⟩
  · have h := h.1 hc
    exact wp.mono (h G A ⟨L, P, rfl, hS⟩) (fun r G' q => qx_trans hx q)
  · have h := h.2 hc
    obtain ⟨hi2, h⟩ := h
    refine ⟨by first | (rw [(n6_5 hS)]; exact hi2) | exact (congrArg (vp_in _) (n6_5 hS)).mpr hi2 | exact hi2, ?_⟩
    refine ⟨fun hc => ?_, fun hc => ?_⟩
    · have h := h.1 hc
      exact qx_j hS hx h
    · have h := h.2 hc
      exact wp.mono (h G A ⟨L, P, rfl, hS⟩) (fun r G' q => qx_trans hx q)
theorem w_X12_sumValue_33 {E : EE} {d : Nat} {V : VH} {K : Int64 → VH → Prop} {x1 : Int64}  (h : vp_in (vI V 6 0 54) 100000 ∧ ((¬ (vI V 6 5 (Int32.toNatClampNeg (vI V 6 0 54))) = 45 → vwp E d M_X12_sumValue 52 [some (sl 6 0), some (wj x1), none, none, none, none] [wi 0] V (zj K)) ∧ ((vI V 6 5 (Int32.toNatClampNeg (vI V 6 0 54))) = 45 → vwp E d M_X12_sumValue 52 [some (sl 6 0), some (wj x1), none, none, none, none] [wi 1] V (zj K)))) : vwp E d M_X12_sumValue 33 [some (sl 6 0), some (wj x1), none, none, none, none] [] V (zj K) := by
  intro G A hR
  obtain ⟨L, P, rfl, hS⟩ := hR
  have hx := Xt.refl (V := pl G A L P) (A := A)
  show wp E d M_X12_sumValue 33 [some (vr (A 6 0)), some (vj x1), none, none, none, none] [] G _
  refine v_X12_sumValue_33 ?_
  refine ⟨hS.o (s6_0 hS), ?_⟩
  rw [l6_0_8 hS]
  refine ⟨hS.o (s6_5 hS), ?_⟩
  obtain ⟨hi1, h⟩ := h
  refine ⟨by first | (rw [(n6_5 hS)]; exact hi1) | exact (congrArg (vp_in _) (n6_5 hS)).mpr hi1 | exact hi1, ?_⟩
  refine ⟨fun hc => ?_, fun hc => ?_⟩
  · have h := h.1 hc
    exact wp.mono (h G A ⟨L, P, rfl, hS⟩) (fun r G' q => qx_trans hx q)
  · have h := h.2 hc
    exact wp.mono (h G A ⟨L, P, rfl, hS⟩) (fun r G' q => qx_trans hx q)
theorem w_X12_sumValue_52 {E : EE} {d : Nat} {V : VH} {K : Int64 → VH → Prop} {x1 : Int64} {t0 : Int32}  (h0 : 0 < d) (h : ∀ V1 : VH, V1 = wrI V 6 0 54 ((vI V 6 0 54) + 1) → vMJ E (d - 1) M_X12_termValue [sl 6 0] V1 (fun r2 V2 => (t0 = 0 → vwp E d M_X12_sumValue 84 [some (sl 6 0), some (wj x1), none, some (wi t0), some (wj r2), none] [wj (x1 + r2)] V2 (zj K)) ∧ (¬ (t0 = 0) → vwp E d M_X12_sumValue 84 [some (sl 6 0), some (wj x1), none, some (wi t0), some (wj r2), none] [wj (x1 - r2)] V2 (zj K)))) : vwp E d M_X12_sumValue 52 [some (sl 6 0), some (wj x1), none, none, none, none] [wi t0] V (zj K) := by
  intro G A hR
  obtain ⟨L, P, rfl, hS⟩ := hR
  have hx := Xt.refl (V := pl G A L P) (A := A)
  show wp E d M_X12_sumValue 52 [some (vr (A 6 0)), some (vj x1), none, none, none, none] [vi t0] G _
  refine v_X12_sumValue_52 h0 ?_
  refine ⟨hS.o (s6_0 hS), ?_⟩
  have hS1 : Sh E (sI G (A 6 0) 54 ((gI G (A 6 0) 54) + 1)) A L P := Sh_sI (rfl : sI G (A 6 0) 54 ((gI G (A 6 0) 54) + 1) = sI G (A 6 0) 54 ((gI G (A 6 0) 54) + 1)) hS (s6_0 hS) (okT_0 rfl)
  have h := h (pl (sI G (A 6 0) 54 ((gI G (A 6 0) 54) + 1)) A L P) (pl_sI (rfl : sI G (A 6 0) 54 ((gI G (A 6 0) 54) + 1) = sI G (A 6 0) 54 ((gI G (A 6 0) 54) + 1)) hS (s6_0 hS))
  have hx1 : Xt (pl G A L P) A (pl (sI G (A 6 0) 54 ((gI G (A 6 0) 54) + 1)) A L P) A := Xt_sI (rfl : sI G (A 6 0) 54 ((gI G (A 6 0) 54) + 1) = sI G (A 6 0) 54 ((gI G (A 6 0) 54) + 1)) hx
  refine wpM.mono (h (sI G (A 6 0) 54 ((gI G (A 6 0) 54) + 1)) A ⟨L, P, rfl, hS1⟩) (fun rr2 G2 hr => ?_)
  obtain ⟨A2, W2, w2, ⟨L2, P2, rfl, hS2⟩, hy2, rfl, r2, rfl, h⟩ := hr
  refine ⟨r2, rfl, ?_⟩
  have hx2 := Xt.trans hx1 hy2
  have ee3 : A2 6 0 = A 6 0 := hy2.2 _ _ hS1.1.2.1 (((n6_0 hS2)).trans ((n6_0 hS1)).symm)
  try rw [← ee3]
  refine ⟨fun hc => ?_, fun hc => ?_⟩
  · have h := h.1 hc
    exact wp.mono (h G2 A2 ⟨L2, P2, rfl, hS2⟩) (fun r G' q => qx_trans hx2 q)
  · have h := h.2 hc
    exact wp.mono (h G2 A2 ⟨L2, P2, rfl, hS2⟩) (fun r G' q => qx_trans hx2 q)
theorem w_X12_sumValue_84 {E : EE} {d : Nat} {V : VH} {K : Int64 → VH → Prop} {x1 : Int64} {x3 : Int32} {x4 : Int64} {t0 : Int64}  (h0 : 0 < d) (h : vMJ E (d - 1) M_X12_held [wj t0] V (fun r1 V1 => vwp E d M_X12_sumValue 5 [some (sl 6 0), some (wj r1), none, none, none, none] [] V1 (zj K))) : vwp E d M_X12_sumValue 84 [some (sl 6 0), some (wj x1), none, some (wi x3), some (wj x4), none] [wj t0] V (zj K) := by
  intro G A hR
  obtain ⟨L, P, rfl, hS⟩ := hR
  have hx := Xt.refl (V := pl G A L P) (A := A)
  show wp E d M_X12_sumValue 84 [some (vr (A 6 0)), some (vj x1), none, some (vi x3), some (vj x4), none] [vj t0] G _
  refine v_X12_sumValue_84 h0 ?_
  refine wpM.mono (h G A ⟨L, P, rfl, hS⟩) (fun rr1 G1 hr => ?_)
  obtain ⟨A1, W1, w1, ⟨L1, P1, rfl, hS1⟩, hy1, rfl, r1, rfl, h⟩ := hr
  refine ⟨r1, rfl, ?_⟩
  have hx1 := Xt.trans hx hy1
  have ee2 : A1 6 0 = A 6 0 := hy1.2 _ _ hS.1.2.1 (((n6_0 hS1)).trans ((n6_0 hS)).symm)
  try rw [← ee2]
  exact wp.mono (h G1 A1 ⟨L1, P1, rfl, hS1⟩) (fun r G' q => qx_trans hx1 q)
theorem w_X12_termValue_0 {E : EE} {d : Nat} {V : VH} {K : Int64 → VH → Prop}   (h0 : 0 < d) (h : vMJ E (d - 1) M_X12_factorValue [sl 6 0] V (fun r1 V1 => vwp E d M_X12_termValue 5 [some (sl 6 0), some (wj r1), none] [] V1 (zj K))) : vMJ E d M_X12_termValue [sl 6 0] V K := by
  intro G A hR
  obtain ⟨L, P, rfl, hS⟩ := hR
  have hx := Xt.refl (V := pl G A L P) (A := A)
  show wpM E d M_X12_termValue [vr (A 6 0)] G _
  refine wpM_of mk_X12_termValue (Nat.le_of_ble_eq_true rfl) ?_
  refine v_X12_termValue_0 h0 ?_
  refine ⟨hS.o (s6_0 hS), ?_⟩
  refine wpM.mono (h G A ⟨L, P, rfl, hS⟩) (fun rr1 G1 hr => ?_)
  obtain ⟨A1, W1, w1, ⟨L1, P1, rfl, hS1⟩, hy1, rfl, r1, rfl, h⟩ := hr
  refine ⟨r1, rfl, ?_⟩
  have hx1 := Xt.trans hx hy1
  have ee2 : A1 6 0 = A 6 0 := hy1.2 _ _ hS.1.2.1 (((n6_0 hS1)).trans ((n6_0 hS)).symm)
  try rw [← ee2]
  exact wp.mono (h G1 A1 ⟨L1, P1, rfl, hS1⟩) (fun r G' q => qx_trans hx1 q)
theorem w_X12_termValue_5 {E : EE} {d : Nat} {V : VH} {K : Int64 → VH → Prop} {x1 : Int64}  (h0 : 0 < d) (h : vp_in (vI V 6 0 54) 100000 ∧ ((¬ (vI V 6 5 (Int32.toNatClampNeg (vI V 6 0 54))) = 42 → K x1 V) ∧ ((vI V 6 5 (Int32.toNatClampNeg (vI V 6 0 54))) = 42 → ∀ V2 : VH, V2 = wrI V 6 0 54 ((vI V 6 0 54) + 1) → vMJ E (d - 1) M_X12_factorValue [sl 6 0] V2 (fun r3 V3 => vMJ E (d - 1) M_X12_held [wj (x1 * r3)] V3 (fun r5 V5 => vwp E d M_X12_termValue 5 [some (sl 6 0), some (wj r5), none] [] V5 (zj K)))))) : vwp E d M_X12_termValue 5 [some (sl 6 0), some (wj x1), none] [] V (zj K) := by
  intro G A hR
  obtain ⟨L, P, rfl, hS⟩ := hR
  have hx := Xt.refl (V := pl G A L P) (A := A)
  show wp E d M_X12_termValue 5 [some (vr (A 6 0)), some (vj x1), none] [] G _
  refine v_X12_termValue_5 h0 ?_
  refine ⟨hS.o (s6_0 hS), ?_⟩
  rw [l6_0_8 hS]
  refine ⟨hS.o (s6_5 hS), ?_⟩
  obtain ⟨hi1, h⟩ := h
  refine ⟨by first | (rw [(n6_5 hS)]; exact hi1) | exact (congrArg (vp_in _) (n6_5 hS)).mpr hi1 | exact hi1, ?_⟩
  refine ⟨fun hc => ?_, fun hc => ?_⟩
  · have h := h.1 hc
    exact qx_j hS hx h
  · have h := h.2 hc
    have hS2 : Sh E (sI G (A 6 0) 54 ((gI G (A 6 0) 54) + 1)) A L P := Sh_sI (rfl : sI G (A 6 0) 54 ((gI G (A 6 0) 54) + 1) = sI G (A 6 0) 54 ((gI G (A 6 0) 54) + 1)) hS (s6_0 hS) (okT_0 rfl)
    have h := h (pl (sI G (A 6 0) 54 ((gI G (A 6 0) 54) + 1)) A L P) (pl_sI (rfl : sI G (A 6 0) 54 ((gI G (A 6 0) 54) + 1) = sI G (A 6 0) 54 ((gI G (A 6 0) 54) + 1)) hS (s6_0 hS))
    have hx2 : Xt (pl G A L P) A (pl (sI G (A 6 0) 54 ((gI G (A 6 0) 54) + 1)) A L P) A := Xt_sI (rfl : sI G (A 6 0) 54 ((gI G (A 6 0) 54) + 1) = sI G (A 6 0) 54 ((gI G (A 6 0) 54) + 1)) hx
    refine wpM.mono (h (sI G (A 6 0) 54 ((gI G (A 6 0) 54) + 1)) A ⟨L, P, rfl, hS2⟩) (fun rr3 G3 hr => ?_)
    obtain ⟨A3, W3, w3, ⟨L3, P3, rfl, hS3⟩, hy3, rfl, r3, rfl, h⟩ := hr
    refine ⟨r3, rfl, ?_⟩
    have hx3 := Xt.trans hx2 hy3
    have ee4 : A3 6 0 = A 6 0 := hy3.2 _ _ hS2.1.2.1 (((n6_0 hS3)).trans ((n6_0 hS2)).symm)
    try rw [← ee4]
    refine wpM.mono (h G3 A3 ⟨L3, P3, rfl, hS3⟩) (fun rr5 G5 hr => ?_)
    obtain ⟨A5, W5, w5, ⟨L5, P5, rfl, hS5⟩, hy5, rfl, r5, rfl, h⟩ := hr
    refine ⟨r5, rfl, ?_⟩
    have hx5 := Xt.trans hx3 hy5
    have ee6 : A5 6 0 = A3 6 0 := hy5.2 _ _ hS3.1.2.1 (((n6_0 hS5)).trans ((n6_0 hS3)).symm)
    try rw [← ee6]
    exact wp.mono (h G5 A5 ⟨L5, P5, rfl, hS5⟩) (fun r G' q => qx_trans hx5 q)
theorem w_X12_factorValue_0 {E : EE} {d : Nat} {V : VH} {K : Int64 → VH → Prop}   (h0 : 0 < d) (h : vp_in (vI V 6 0 54) 100000 ∧ ((¬ (vI V 6 5 (Int32.toNatClampNeg (vI V 6 0 54))) = 2 → (¬ (vI V 6 5 (Int32.toNatClampNeg (vI V 6 0 54))) = 1 → ∀ V2 : VH, V2 = wrI V 6 0 54 ((vI V 6 0 54) + 1) → (¬ (vI V 6 5 (Int32.toNatClampNeg (vI V 6 0 54))) = 45 → (¬ (vI V 6 5 (Int32.toNatClampNeg (vI V 6 0 54))) = 91 → (¬ (vI V 6 5 (Int32.toNatClampNeg (vI V 6 0 54))) = 40 → vwp E d M_X12_factorValue 122 [some (sl 6 0), some (wi (vI V 6 5 (Int32.toNatClampNeg (vI V 6 0 54)))), none, none, none, none, none, none, none, none] [wi 1, wi (vI V2 6 0 54), sl 6 0] V2 (zj K)) ∧ ((vI V 6 5 (Int32.toNatClampNeg (vI V 6 0 54))) = 40 → vwp E d M_X12_factorValue 122 [some (sl 6 0), some (wi (vI V 6 5 (Int32.toNatClampNeg (vI V 6 0 54)))), none, none, none, none, none, none, none, none] [wi 0, wi (vI V2 6 0 54), sl 6 0] V2 (zj K))) ∧ ((vI V 6 5 (Int32.toNatClampNeg (vI V 6 0 54))) = 91 → vMJ E (d - 1) M_X12_testValue [sl 6 0] V2 (fun r3 V3 => (¬ r3 = 0 → vwp E d M_X12_factorValue 93 [some (sl 6 0), some (wi (vI V 6 5 (Int32.toNatClampNeg (vI V 6 0 54)))), none, none, none, none, none, none, none, none] [wj 0] V3 (zj K)) ∧ (r3 = 0 → vwp E d M_X12_factorValue 93 [some (sl 6 0), some (wi (vI V 6 5 (Int32.toNatClampNeg (vI V 6 0 54)))), none, none, none, none, none, none, none, none] [wj 1] V3 (zj K))))) ∧ ((vI V 6 5 (Int32.toNatClampNeg (vI V 6 0 54))) = 45 → vMJ E (d - 1) M_X12_factorValue [sl 6 0] V2 (fun r5 V5 => vMJ E (d - 1) M_X12_held [wj (-r5)] V5 (fun r7 V7 => K r7 V7)))) ∧ ((vI V 6 5 (Int32.toNatClampNeg (vI V 6 0 54))) = 1 → vMJ E (d - 1) M_X12_nameValue [sl 6 0] V (fun r9 V9 => K r9 V9))) ∧ ((vI V 6 5 (Int32.toNatClampNeg (vI V 6 0 54))) = 2 → ∀ V11 : VH, V11 = wrI V 6 0 54 ((vI V 6 0 54) + 1) → vp_in ((vI V11 6 0 54) - 1) 100000 ∧ (K (Int32.toInt64 (vI V11 6 6 (Int32.toNatClampNeg ((vI V11 6 0 54) - 1)))) V11)))) : vMJ E d M_X12_factorValue [sl 6 0] V K := by
  intro G A hR
  obtain ⟨L, P, rfl, hS⟩ := hR
  have hx := Xt.refl (V := pl G A L P) (A := A)
  show wpM E d M_X12_factorValue [vr (A 6 0)] G _
  refine wpM_of mk_X12_factorValue (Nat.le_of_ble_eq_true rfl) ?_
  refine v_X12_factorValue_0 h0 ?_
  refine ⟨hS.o (s6_0 hS), ?_⟩
  rw [l6_0_8 hS]
  refine ⟨hS.o (s6_5 hS), ?_⟩
  obtain ⟨hi1, h⟩ := h
  refine ⟨by first | (rw [(n6_5 hS)]; exact hi1) | exact (congrArg (vp_in _) (n6_5 hS)).mpr hi1 | exact hi1, ?_⟩
  refine ⟨fun hc => ?_, fun hc => ?_⟩
  · have h := h.1 hc
    refine ⟨fun hc => ?_, fun hc => ?_⟩
    · have h := h.1 hc
      have hS2 : Sh E (sI G (A 6 0) 54 ((gI G (A 6 0) 54) + 1)) A L P := Sh_sI (rfl : sI G (A 6 0) 54 ((gI G (A 6 0) 54) + 1) = sI G (A 6 0) 54 ((gI G (A 6 0) 54) + 1)) hS (s6_0 hS) (okT_0 rfl)
      have h := h (pl (sI G (A 6 0) 54 ((gI G (A 6 0) 54) + 1)) A L P) (pl_sI (rfl : sI G (A 6 0) 54 ((gI G (A 6 0) 54) + 1) = sI G (A 6 0) 54 ((gI G (A 6 0) 54) + 1)) hS (s6_0 hS))
      have hx2 : Xt (pl G A L P) A (pl (sI G (A 6 0) 54 ((gI G (A 6 0) 54) + 1)) A L P) A := Xt_sI (rfl : sI G (A 6 0) 54 ((gI G (A 6 0) 54) + 1) = sI G (A 6 0) 54 ((gI G (A 6 0) 54) + 1)) hx
      refine ⟨fun hc => ?_, fun hc => ?_⟩
      · have h := h.1 hc
        refine ⟨fun hc => ?_, fun hc => ?_⟩
        · have h := h.1 hc
          refine ⟨fun hc => ?_, fun hc => ?_⟩
          · have h := h.1 hc
            exact wp.mono (h (sI G (A 6 0) 54 ((gI G (A 6 0) 54) + 1)) A ⟨L, P, rfl, hS2⟩) (fun r G' q => qx_trans hx2 q)
          · have h := h.2 hc
            exact wp.mono (h (sI G (A 6 0) 54 ((gI G (A 6 0) 54) + 1)) A ⟨L, P, rfl, hS2⟩) (fun r G' q => qx_trans hx2 q)
        · have h := h.2 hc
          refine wpM.mono (h (sI G (A 6 0) 54 ((gI G (A 6 0) 54) + 1)) A ⟨L, P, rfl, hS2⟩) (fun rr3 G3 hr => ?_)
          obtain ⟨A3, W3, w3, ⟨L3, P3, rfl, hS3⟩, hy3, rfl, r3, rfl, h⟩ := hr
          refine ⟨r3, rfl, ?_⟩
          have hx3 := Xt.trans hx2 hy3
          have ee4 : A3 6 0 = A 6 0 := hy3.2 _ _ hS2.1.2.1 (((n6_0 hS3)).trans ((n6_0 hS2)).symm)
          try rw [← ee4]
          try rw [show gI G (A3 6 0) = gI G (A 6 0) from by rw [ee4]]
          refine ⟨fun hc => ?_, fun hc => ?_⟩
          · have h := h.1 hc
            exact wp.mono (h G3 A3 ⟨L3, P3, rfl, hS3⟩) (fun r G' q => qx_trans hx3 q)
          · have h := h.2 hc
            exact wp.mono (h G3 A3 ⟨L3, P3, rfl, hS3⟩) (fun r G' q => qx_trans hx3 q)
      · have h := h.2 hc
        refine wpM.mono (h (sI G (A 6 0) 54 ((gI G (A 6 0) 54) + 1)) A ⟨L, P, rfl, hS2⟩) (fun rr5 G5 hr => ?_)
        obtain ⟨A5, W5, w5, ⟨L5, P5, rfl, hS5⟩, hy5, rfl, r5, rfl, h⟩ := hr
        refine ⟨r5, rfl, ?_⟩
        have hx5 := Xt.trans hx2 hy5
        have ee6 : A5 6 0 = A 6 0 := hy5.2 _ _ hS2.1.2.1 (((n6_0 hS5)).trans ((n6_0 hS2)).symm)
        try rw [← ee6]
        try rw [show gI G (A5 6 0) = gI G (A 6 0) from by rw [ee6]]
        refine wpM.mono (h G5 A5 ⟨L5, P5, rfl, hS5⟩) (fun rr7 G7 hr => ?_)
        obtain ⟨A7, W7, w7, ⟨L7, P7, rfl, hS7⟩, hy7, rfl, r7, rfl, h⟩ := hr
        refine ⟨r7, rfl, ?_⟩
        have hx7 := Xt.trans hx5 hy7
        have ee8 : A7 6 0 = A5 6 0 := hy7.2 _ _ hS5.1.2.1 (((n6_0 hS7)).trans ((n6_0 hS5)).symm)
        try rw [← ee8]
        exact qx_j hS7 hx7 h
    · have h := h.2 hc
      refine wpM.mono (h G A ⟨L, P, rfl, hS⟩) (fun rr9 G9 hr => ?_)
      obtain ⟨A9, W9, w9, ⟨L9, P9, rfl, hS9⟩, hy9, rfl, r9, rfl, h⟩ := hr
      refine ⟨r9, rfl, ?_⟩
      have hx9 := Xt.trans hx hy9
      have ee10 : A9 6 0 = A 6 0 := hy9.2 _ _ hS.1.2.1 (((n6_0 hS9)).trans ((n6_0 hS)).symm)
      try rw [← ee10]
      try rw [show gI G (A9 6 0) = gI G (A 6 0) from by rw [ee10]]
      exact qx_j hS9 hx9 h
  · have h := h.2 hc
    have hS11 : Sh E (sI G (A 6 0) 54 ((gI G (A 6 0) 54) + 1)) A L P := Sh_sI (rfl : sI G (A 6 0) 54 ((gI G (A 6 0) 54) + 1) = sI G (A 6 0) 54 ((gI G (A 6 0) 54) + 1)) hS (s6_0 hS) (okT_0 rfl)
    have h := h (pl (sI G (A 6 0) 54 ((gI G (A 6 0) 54) + 1)) A L P) (pl_sI (rfl : sI G (A 6 0) 54 ((gI G (A 6 0) 54) + 1) = sI G (A 6 0) 54 ((gI G (A 6 0) 54) + 1)) hS (s6_0 hS))
    have hx11 : Xt (pl G A L P) A (pl (sI G (A 6 0) 54 ((gI G (A 6 0) 54) + 1)) A L P) A := Xt_sI (rfl : sI G (A 6 0) 54 ((gI G (A 6 0) 54) + 1) = sI G (A 6 0) 54 ((gI G (A 6 0) 54) + 1)) hx
    rw [l6_0_9 hS]
    refine ⟨hS11.o (s6_6 hS11), ?_⟩
    obtain ⟨hi12, h⟩ := h
    refine ⟨by first | (rw [(n6_6 hS11)]; exact hi12) | exact (congrArg (vp_in _) (n6_6 hS11)).mpr hi12 | exact hi12, ?_⟩
    exact qx_j hS11 hx11 h
theorem w_X12_factorValue_93 {E : EE} {d : Nat} {V : VH} {K : Int64 → VH → Prop} {x1 : Int32} {t0 : Int64}  (h : ∀ V1 : VH, V1 = wrI V 6 0 54 ((vI V 6 0 54) + 1) → K t0 V1) : vwp E d M_X12_factorValue 93 [some (sl 6 0), some (wi x1), none, none, none, none, none, none, none, none] [wj t0] V (zj K) := by
  intro G A hR
  obtain ⟨L, P, rfl, hS⟩ := hR
  have hx := Xt.refl (V := pl G A L P) (A := A)
  show wp E d M_X12_factorValue 93 [some (vr (A 6 0)), some (vi x1), none, none, none, none, none, none, none, none] [vj t0] G _
  refine v_X12_factorValue_93 ?_
  refine ⟨hS.o (s6_0 hS), ?_⟩
  have hS1 : Sh E (sI G (A 6 0) 54 ((gI G (A 6 0) 54) + 1)) A L P := Sh_sI (rfl : sI G (A 6 0) 54 ((gI G (A 6 0) 54) + 1) = sI G (A 6 0) 54 ((gI G (A 6 0) 54) + 1)) hS (s6_0 hS) (okT_0 rfl)
  have h := h (pl (sI G (A 6 0) 54 ((gI G (A 6 0) 54) + 1)) A L P) (pl_sI (rfl : sI G (A 6 0) 54 ((gI G (A 6 0) 54) + 1) = sI G (A 6 0) 54 ((gI G (A 6 0) 54) + 1)) hS (s6_0 hS))
  have hx1 : Xt (pl G A L P) A (pl (sI G (A 6 0) 54 ((gI G (A 6 0) 54) + 1)) A L P) A := Xt_sI (rfl : sI G (A 6 0) 54 ((gI G (A 6 0) 54) + 1) = sI G (A 6 0) 54 ((gI G (A 6 0) 54) + 1)) hx
  exact qx_j hS1 hx1 h
theorem w_X12_factorValue_122 {E : EE} {d : Nat} {V : VH} {K : Int64 → VH → Prop} {x1 : Int32} {t1 : Int32} {t2 : Int32}  (h0 : 0 < d) (h : ∀ V1 : VH, V1 = wrI V 6 0 54 (t1 + t2) → vMJ E (d - 1) M_X12_sumValue [sl 6 0] V1 (fun r2 V2 => vwp E d M_X12_factorValue 131 [some (sl 6 0), some (wi x1), some (wj r2), none, none, none, none, none, none, none] [] V2 (zj K))) : vwp E d M_X12_factorValue 122 [some (sl 6 0), some (wi x1), none, none, none, none, none, none, none, none] [wi t2, wi t1, sl 6 0] V (zj K) := by
  intro G A hR
  obtain ⟨L, P, rfl, hS⟩ := hR
  have hx := Xt.refl (V := pl G A L P) (A := A)
  show wp E d M_X12_factorValue 122 [some (vr (A 6 0)), some (vi x1), none, none, none, none, none, none, none, none] [vi t2, vi t1, vr (A 6 0)] G _
  refine v_X12_factorValue_122 h0 ?_
  refine ⟨hS.o (s6_0 hS), ?_⟩
  have hS1 : Sh E (sI G (A 6 0) 54 (t1 + t2)) A L P := Sh_sI (rfl : sI G (A 6 0) 54 (t1 + t2) = sI G (A 6 0) 54 (t1 + t2)) hS (s6_0 hS) (okT_0 rfl)
  have h := h (pl (sI G (A 6 0) 54 (t1 + t2)) A L P) (pl_sI (rfl : sI G (A 6 0) 54 (t1 + t2) = sI G (A 6 0) 54 (t1 + t2)) hS (s6_0 hS))
  have hx1 : Xt (pl G A L P) A (pl (sI G (A 6 0) 54 (t1 + t2)) A L P) A := Xt_sI (rfl : sI G (A 6 0) 54 (t1 + t2) = sI G (A 6 0) 54 (t1 + t2)) hx
  refine ⟨hS1.o (s6_0 hS1), ?_⟩
  refine wpM.mono (h (sI G (A 6 0) 54 (t1 + t2)) A ⟨L, P, rfl, hS1⟩) (fun rr2 G2 hr => ?_)
  obtain ⟨A2, W2, w2, ⟨L2, P2, rfl, hS2⟩, hy2, rfl, r2, rfl, h⟩ := hr
  refine ⟨r2, rfl, ?_⟩
  have hx2 := Xt.trans hx1 hy2
  have ee3 : A2 6 0 = A 6 0 := hy2.2 _ _ hS1.1.2.1 (((n6_0 hS2)).trans ((n6_0 hS1)).symm)
  try rw [← ee3]
  exact wp.mono (h G2 A2 ⟨L2, P2, rfl, hS2⟩) (fun r G' q => qx_trans hx2 q)
theorem w_X12_factorValue_131 {E : EE} {d : Nat} {V : VH} {K : Int64 → VH → Prop} {x1 : Int32} {x2 : Int64}  (h0 : 0 < d) (h : vp_in (vI V 6 0 54) 100000 ∧ ((¬ (vI V 6 5 (Int32.toNatClampNeg (vI V 6 0 54))) = 44 → (¬ x1 = 313 → vwp E d M_X12_factorValue 227 [some (sl 6 0), some (wi x1), some (wj x2), none, none, none, none, none, none, none] [wj x2] V (zj K)) ∧ (x1 = 313 → (0 ≤ x2 → vwp E d M_X12_factorValue 220 [some (sl 6 0), some (wi x1), some (wj x2), none, none, none, none, none, none, none] [wj x2] V (zj K)) ∧ (¬ (0 ≤ x2) → vwp E d M_X12_factorValue 220 [some (sl 6 0), some (wi x1), some (wj x2), none, none, none, none, none, none, none] [wj (-x2)] V (zj K)))) ∧ ((vI V 6 5 (Int32.toNatClampNeg (vI V 6 0 54))) = 44 → ∀ V2 : VH, V2 = wrI V 6 0 54 ((vI V 6 0 54) + 1) → vMJ E (d - 1) M_X12_sumValue [sl 6 0] V2 (fun r3 V3 => (¬ x1 = 314 → (r3 ≤ x2 → vwp E d M_X12_factorValue 197 [some (sl 6 0), some (wi x1), some (wj x2), none, some (wj r3), none, none, none, none, none] [wj x2] V3 (zj K)) ∧ (¬ (r3 ≤ x2) → vwp E d M_X12_factorValue 197 [some (sl 6 0), some (wi x1), some (wj x2), none, some (wj r3), none, none, none, none, none] [wj r3] V3 (zj K))) ∧ (x1 = 314 → (x2 ≤ r3 → vwp E d M_X12_factorValue 197 [some (sl 6 0), some (wi x1), some (wj x2), none, some (wj r3), none, none, none, none, none] [wj x2] V3 (zj K)) ∧ (¬ (x2 ≤ r3) → vwp E d M_X12_factorValue 197 [some (sl 6 0), some (wi x1), some (wj x2), none, some (wj r3), none, none, none, none, none] [wj r3] V3 (zj K))))))) : vwp E d M_X12_factorValue 131 [some (sl 6 0), some (wi x1), some (wj x2), none, none, none, none, none, none, none] [] V (zj K) := by
  intro G A hR
  obtain ⟨L, P, rfl, hS⟩ := hR
  have hx := Xt.refl (V := pl G A L P) (A := A)
  show wp E d M_X12_factorValue 131 [some (vr (A 6 0)), some (vi x1), some (vj x2), none, none, none, none, none, none, none] [] G _
  refine v_X12_factorValue_131 h0 ?_
  refine ⟨hS.o (s6_0 hS), ?_⟩
  rw [l6_0_8 hS]
  refine ⟨hS.o (s6_5 hS), ?_⟩
  obtain ⟨hi1, h⟩ := h
  refine ⟨by first | (rw [(n6_5 hS)]; exact hi1) | exact (congrArg (vp_in _) (n6_5 hS)).mpr hi1 | exact hi1, ?_⟩
  refine ⟨fun hc => ?_, fun hc => ?_⟩
  · have h := h.1 hc
    refine ⟨fun hc => ?_, fun hc => ?_⟩
    · have h := h.1 hc
      exact wp.mono (h G A ⟨L, P, rfl, hS⟩) (fun r G' q => qx_trans hx q)
    · have h := h.2 hc
      refine ⟨fun hc => ?_, fun hc => ?_⟩
      · have h := h.1 hc
        exact wp.mono (h G A ⟨L, P, rfl, hS⟩) (fun r G' q => qx_trans hx q)
      · have h := h.2 hc
        exact wp.mono (h G A ⟨L, P, rfl, hS⟩) (fun r G' q => qx_trans hx q)
  · have h := h.2 hc
    have hS2 : Sh E (sI G (A 6 0) 54 ((gI G (A 6 0) 54) + 1)) A L P := Sh_sI (rfl : sI G (A 6 0) 54 ((gI G (A 6 0) 54) + 1) = sI G (A 6 0) 54 ((gI G (A 6 0) 54) + 1)) hS (s6_0 hS) (okT_0 rfl)
    have h := h (pl (sI G (A 6 0) 54 ((gI G (A 6 0) 54) + 1)) A L P) (pl_sI (rfl : sI G (A 6 0) 54 ((gI G (A 6 0) 54) + 1) = sI G (A 6 0) 54 ((gI G (A 6 0) 54) + 1)) hS (s6_0 hS))
    have hx2 : Xt (pl G A L P) A (pl (sI G (A 6 0) 54 ((gI G (A 6 0) 54) + 1)) A L P) A := Xt_sI (rfl : sI G (A 6 0) 54 ((gI G (A 6 0) 54) + 1) = sI G (A 6 0) 54 ((gI G (A 6 0) 54) + 1)) hx
    refine wpM.mono (h (sI G (A 6 0) 54 ((gI G (A 6 0) 54) + 1)) A ⟨L, P, rfl, hS2⟩) (fun rr3 G3 hr => ?_)
    obtain ⟨A3, W3, w3, ⟨L3, P3, rfl, hS3⟩, hy3, rfl, r3, rfl, h⟩ := hr
    refine ⟨r3, rfl, ?_⟩
    have hx3 := Xt.trans hx2 hy3
    have ee4 : A3 6 0 = A 6 0 := hy3.2 _ _ hS2.1.2.1 (((n6_0 hS3)).trans ((n6_0 hS2)).symm)
    try rw [← ee4]
    refine ⟨fun hc => ?_, fun hc => ?_⟩
    · have h := h.1 hc
      refine ⟨fun hc => ?_, fun hc => ?_⟩
      · have h := h.1 hc
        exact wp.mono (h G3 A3 ⟨L3, P3, rfl, hS3⟩) (fun r G' q => qx_trans hx3 q)
      · have h := h.2 hc
        exact wp.mono (h G3 A3 ⟨L3, P3, rfl, hS3⟩) (fun r G' q => qx_trans hx3 q)
    · have h := h.2 hc
      refine ⟨fun hc => ?_, fun hc => ?_⟩
      · have h := h.1 hc
        exact wp.mono (h G3 A3 ⟨L3, P3, rfl, hS3⟩) (fun r G' q => qx_trans hx3 q)
      · have h := h.2 hc
        exact wp.mono (h G3 A3 ⟨L3, P3, rfl, hS3⟩) (fun r G' q => qx_trans hx3 q)
theorem w_X12_factorValue_197 {E : EE} {d : Nat} {V : VH} {K : Int64 → VH → Prop} {x1 : Int32} {x2 : Int64} {x4 : Int64} {t0 : Int64}  (h : vwp E d M_X12_factorValue 131 [some (sl 6 0), some (wi x1), some (wj t0), none, none, none, none, none, none, none] [] V (zj K)) : vwp E d M_X12_factorValue 197 [some (sl 6 0), some (wi x1), some (wj x2), none, some (wj x4), none, none, none, none, none] [wj t0] V (zj K) := by
  intro G A hR
  obtain ⟨L, P, rfl, hS⟩ := hR
  have hx := Xt.refl (V := pl G A L P) (A := A)
  show wp E d M_X12_factorValue 197 [some (vr (A 6 0)), some (vi x1), some (vj x2), none, some (vj x4), none, none, none, none, none] [vj t0] G _
  refine v_X12_factorValue_197 ?_
  exact wp.mono (h G A ⟨L, P, rfl, hS⟩) (fun r G' q => qx_trans hx q)
theorem w_X12_factorValue_220 {E : EE} {d : Nat} {V : VH} {K : Int64 → VH → Prop} {x1 : Int32} {x2 : Int64} {t0 : Int64}  (h0 : 0 < d) (h : vMJ E (d - 1) M_X12_held [wj t0] V (fun r1 V1 => vwp E d M_X12_factorValue 227 [some (sl 6 0), some (wi x1), some (wj x2), none, none, none, none, none, none, none] [wj r1] V1 (zj K))) : vwp E d M_X12_factorValue 220 [some (sl 6 0), some (wi x1), some (wj x2), none, none, none, none, none, none, none] [wj t0] V (zj K) := by
  intro G A hR
  obtain ⟨L, P, rfl, hS⟩ := hR
  have hx := Xt.refl (V := pl G A L P) (A := A)
  show wp E d M_X12_factorValue 220 [some (vr (A 6 0)), some (vi x1), some (vj x2), none, none, none, none, none, none, none] [vj t0] G _
  refine v_X12_factorValue_220 h0 ?_
  refine wpM.mono (h G A ⟨L, P, rfl, hS⟩) (fun rr1 G1 hr => ?_)
  obtain ⟨A1, W1, w1, ⟨L1, P1, rfl, hS1⟩, hy1, rfl, r1, rfl, h⟩ := hr
  refine ⟨r1, rfl, ?_⟩
  have hx1 := Xt.trans hx hy1
  have ee2 : A1 6 0 = A 6 0 := hy1.2 _ _ hS.1.2.1 (((n6_0 hS1)).trans ((n6_0 hS)).symm)
  try rw [← ee2]
  exact wp.mono (h G1 A1 ⟨L1, P1, rfl, hS1⟩) (fun r G' q => qx_trans hx1 q)
theorem w_X12_factorValue_227 {E : EE} {d : Nat} {V : VH} {K : Int64 → VH → Prop} {x1 : Int32} {x2 : Int64} {t0 : Int64}  (h : (¬ x1 = 316 → vwp E d M_X12_factorValue 297 [some (sl 6 0), some (wi x1), some (wj t0), none, none, none, none, none, none, none] [] V (zj K)) ∧ (x1 = 316 → vwp E d M_X12_factorValue 243 [some (sl 6 0), some (wi x1), some (wj 0), none, some (wj t0), none, some (wj 0), none, none, none] [] V (zj K))) : vwp E d M_X12_factorValue 227 [some (sl 6 0), some (wi x1), some (wj x2), none, none, none, none, none, none, none] [wj t0] V (zj K) := by
  intro G A hR
  obtain ⟨L, P, rfl, hS⟩ := hR
  have hx := Xt.refl (V := pl G A L P) (A := A)
  show wp E d M_X12_factorValue 227 [some (vr (A 6 0)), some (vi x1), some (vj x2), none, none, none, none, none, none, none] [vj t0] G _
  refine v_X12_factorValue_227 ?_
  refine ⟨fun hc => ?_, fun hc => ?_⟩
  · have h := h.1 hc
    exact wp.mono (h G A ⟨L, P, rfl, hS⟩) (fun r G' q => qx_trans hx q)
  · have h := h.2 hc
    exact wp.mono (h G A ⟨L, P, rfl, hS⟩) (fun r G' q => qx_trans hx q)
theorem w_X12_factorValue_243 {E : EE} {d : Nat} {V : VH} {K : Int64 → VH → Prop} {x1 : Int32} {x2 : Int64} {x4 : Int64} {x6 : Int64}  (h0 : 0 < d) (h : vp_in (vI V 6 0 54) 100000 ∧ (((vI V 6 5 (Int32.toNatClampNeg (vI V 6 0 54))) = 41 → vwp E d M_X12_factorValue 297 [some (sl 6 0), some (wi x1), some (wj x2), none, none, none, none, none, none, none] [] V (zj K)) ∧ (¬ ((vI V 6 5 (Int32.toNatClampNeg (vI V 6 0 54))) = 41) → ∀ V2 : VH, V2 = wrI V 6 0 54 ((vI V 6 0 54) + 1) → vMJ E (d - 1) M_X12_intValue [sl 6 0] V2 (fun r3 V3 => (¬ x6 = x4 → vwp E d M_X12_factorValue 287 [some (sl 6 0), some (wi x1), some (wj x2), none, some (wj x4), none, some (wj x6), none, some (wj r3), none] [wj x2] V3 (zj K)) ∧ (x6 = x4 → vwp E d M_X12_factorValue 287 [some (sl 6 0), some (wi x1), some (wj x2), none, some (wj x4), none, some (wj x6), none, some (wj r3), none] [wj r3] V3 (zj K)))))) : vwp E d M_X12_factorValue 243 [some (sl 6 0), some (wi x1), some (wj x2), none, some (wj x4), none, some (wj x6), none, none, none] [] V (zj K) := by
  intro G A hR
  obtain ⟨L, P, rfl, hS⟩ := hR
  have hx := Xt.refl (V := pl G A L P) (A := A)
  show wp E d M_X12_factorValue 243 [some (vr (A 6 0)), some (vi x1), some (vj x2), none, some (vj x4), none, some (vj x6), none, none, none] [] G _
  refine v_X12_factorValue_243 h0 ?_
  refine ⟨hS.o (s6_0 hS), ?_⟩
  rw [l6_0_8 hS]
  refine ⟨hS.o (s6_5 hS), ?_⟩
  obtain ⟨hi1, h⟩ := h
  refine ⟨by first | (rw [(n6_5 hS)]; exact hi1) | exact (congrArg (vp_in _) (n6_5 hS)).mpr hi1 | exact hi1, ?_⟩
  refine ⟨fun hc => ?_, fun hc => ?_⟩
  · have h := h.1 hc
    exact wp.mono (h G A ⟨L, P, rfl, hS⟩) (fun r G' q => qx_trans hx q)
  · have h := h.2 hc
    have hS2 : Sh E (sI G (A 6 0) 54 ((gI G (A 6 0) 54) + 1)) A L P := Sh_sI (rfl : sI G (A 6 0) 54 ((gI G (A 6 0) 54) + 1) = sI G (A 6 0) 54 ((gI G (A 6 0) 54) + 1)) hS (s6_0 hS) (okT_0 rfl)
    have h := h (pl (sI G (A 6 0) 54 ((gI G (A 6 0) 54) + 1)) A L P) (pl_sI (rfl : sI G (A 6 0) 54 ((gI G (A 6 0) 54) + 1) = sI G (A 6 0) 54 ((gI G (A 6 0) 54) + 1)) hS (s6_0 hS))
    have hx2 : Xt (pl G A L P) A (pl (sI G (A 6 0) 54 ((gI G (A 6 0) 54) + 1)) A L P) A := Xt_sI (rfl : sI G (A 6 0) 54 ((gI G (A 6 0) 54) + 1) = sI G (A 6 0) 54 ((gI G (A 6 0) 54) + 1)) hx
    refine wpM.mono (h (sI G (A 6 0) 54 ((gI G (A 6 0) 54) + 1)) A ⟨L, P, rfl, hS2⟩) (fun rr3 G3 hr => ?_)
    obtain ⟨A3, W3, w3, ⟨L3, P3, rfl, hS3⟩, hy3, rfl, r3, rfl, h⟩ := hr
    refine ⟨r3, rfl, ?_⟩
    have hx3 := Xt.trans hx2 hy3
    have ee4 : A3 6 0 = A 6 0 := hy3.2 _ _ hS2.1.2.1 (((n6_0 hS3)).trans ((n6_0 hS2)).symm)
    try rw [← ee4]
    refine ⟨fun hc => ?_, fun hc => ?_⟩
    · have h := h.1 hc
      exact wp.mono (h G3 A3 ⟨L3, P3, rfl, hS3⟩) (fun r G' q => qx_trans hx3 q)
    · have h := h.2 hc
      exact wp.mono (h G3 A3 ⟨L3, P3, rfl, hS3⟩) (fun r G' q => qx_trans hx3 q)
theorem w_X12_factorValue_287 {E : EE} {d : Nat} {V : VH} {K : Int64 → VH → Prop} {x1 : Int32} {x2 : Int64} {x4 : Int64} {x6 : Int64} {x8 : Int64} {t0 : Int64}  (h : vwp E d M_X12_factorValue 243 [some (sl 6 0), some (wi x1), some (wj t0), none, some (wj x4), none, some (wj (x6 + 1)), none, none, none] [] V (zj K)) : vwp E d M_X12_factorValue 287 [some (sl 6 0), some (wi x1), some (wj x2), none, some (wj x4), none, some (wj x6), none, some (wj x8), none] [wj t0] V (zj K) := by
  intro G A hR
  obtain ⟨L, P, rfl, hS⟩ := hR
  have hx := Xt.refl (V := pl G A L P) (A := A)
  show wp E d M_X12_factorValue 287 [some (vr (A 6 0)), some (vi x1), some (vj x2), none, some (vj x4), none, some (vj x6), none, some (vj x8), none] [vj t0] G _
  refine v_X12_factorValue_287 ?_
  exact wp.mono (h G A ⟨L, P, rfl, hS⟩) (fun r G' q => qx_trans hx q)
theorem w_X12_factorValue_297 {E : EE} {d : Nat} {V : VH} {K : Int64 → VH → Prop} {x1 : Int32} {x2 : Int64}  (h : ∀ V1 : VH, V1 = wrI V 6 0 54 ((vI V 6 0 54) + 1) → K x2 V1) : vwp E d M_X12_factorValue 297 [some (sl 6 0), some (wi x1), some (wj x2), none, none, none, none, none, none, none] [] V (zj K) := by
  intro G A hR
  obtain ⟨L, P, rfl, hS⟩ := hR
  have hx := Xt.refl (V := pl G A L P) (A := A)
  show wp E d M_X12_factorValue 297 [some (vr (A 6 0)), some (vi x1), some (vj x2), none, none, none, none, none, none, none] [] G _
  refine v_X12_factorValue_297 ?_
  refine ⟨hS.o (s6_0 hS), ?_⟩
  have hS1 : Sh E (sI G (A 6 0) 54 ((gI G (A 6 0) 54) + 1)) A L P := Sh_sI (rfl : sI G (A 6 0) 54 ((gI G (A 6 0) 54) + 1) = sI G (A 6 0) 54 ((gI G (A 6 0) 54) + 1)) hS (s6_0 hS) (okT_0 rfl)
  have h := h (pl (sI G (A 6 0) 54 ((gI G (A 6 0) 54) + 1)) A L P) (pl_sI (rfl : sI G (A 6 0) 54 ((gI G (A 6 0) 54) + 1) = sI G (A 6 0) 54 ((gI G (A 6 0) 54) + 1)) hS (s6_0 hS))
  have hx1 : Xt (pl G A L P) A (pl (sI G (A 6 0) 54 ((gI G (A 6 0) 54) + 1)) A L P) A := Xt_sI (rfl : sI G (A 6 0) 54 ((gI G (A 6 0) 54) + 1) = sI G (A 6 0) 54 ((gI G (A 6 0) 54) + 1)) hx
  exact qx_j hS1 hx1 h
theorem w_X12_held_0 {E : EE} {d : Nat} {V : VH} {K : Int64 → VH → Prop} {x0 : Int64}  (h : ((-1000000) ≤ x0 → (x0 ≤ 1000000 → K x0 V) ∧ (¬ (x0 ≤ 1000000) → K 1000000 V)) ∧ (¬ ((-1000000) ≤ x0) → K (-1000000) V)) : vMJ E d M_X12_held [wj x0] V K := by
  intro G A hR
  obtain ⟨L, P, rfl, hS⟩ := hR
  have hx := Xt.refl (V := pl G A L P) (A := A)
  show wpM E d M_X12_held [vj x0] G _
  refine wpM_of mk_X12_held (Nat.le_of_ble_eq_true rfl) ?_
  refine v_X12_held_0 ?_
  refine ⟨fun hc => ?_, fun hc => ?_⟩
  · have h := h.1 hc
    refine ⟨fun hc => ?_, fun hc => ?_⟩
    · have h := h.1 hc
      exact qx_j hS hx h
    · have h := h.2 hc
      exact qx_j hS hx h
  · have h := h.2 hc
    exact qx_j hS hx h
theorem w_X12_aimsOf_0 {E : EE} {d : Nat} {V : VH} {K : Int32 → VH → Prop} {x1 : Int32}  (h : vp_in ((4 * x1) + 3) 20 ∧ (K (vI V 6 14 (Int32.toNatClampNeg ((4 * x1) + 3))) V)) : vMI E d M_X12_aimsOf [sl 6 0, wi x1] V K := by
  intro G A hR
  obtain ⟨L, P, rfl, hS⟩ := hR
  have hx := Xt.refl (V := pl G A L P) (A := A)
  show wpM E d M_X12_aimsOf [vr (A 6 0), vi x1] G _
  refine wpM_of mk_X12_aimsOf (Nat.le_of_ble_eq_true rfl) ?_
  refine v_X12_aimsOf_0 ?_
  refine ⟨hS.o (s6_0 hS), ?_⟩
  rw [l6_0_17 hS]
  refine ⟨hS.o (s6_14 hS), ?_⟩
  obtain ⟨hi1, h⟩ := h
  refine ⟨by first | (rw [(n6_14 hS)]; exact hi1) | exact (congrArg (vp_in _) (n6_14 hS)).mpr hi1 | exact hi1, ?_⟩
  exact qx_i hS hx h
theorem w_X12_handOf_0 {E : EE} {d : Nat} {V : VH} {K : Int32 → VH → Prop} {x1 : Int32}  (h : vwp E d M_X12_handOf 4 [some (sl 6 0), some (wi x1), some (wi 0), some (wi 0)] [] V (zi K)) : vMI E d M_X12_handOf [sl 6 0, wi x1] V K := by
  intro G A hR
  obtain ⟨L, P, rfl, hS⟩ := hR
  have hx := Xt.refl (V := pl G A L P) (A := A)
  show wpM E d M_X12_handOf [vr (A 6 0), vi x1] G _
  refine wpM_of mk_X12_handOf (Nat.le_of_ble_eq_true rfl) ?_
  refine v_X12_handOf_0 ?_
  exact wp.mono (h G A ⟨L, P, rfl, hS⟩) (fun r G' q => qx_trans hx q)
theorem w_X12_handOf_4 {E : EE} {d : Nat} {V : VH} {K : Int32 → VH → Prop} {x1 : Int32} {x2 : Int32} {x3 : Int32}  (h0 : 0 < d) (h : vMI E (d - 1) M_X12_vars [sl 6 0, wi x1] V (fun r1 V1 => (r1 ≤ x3 → K x2 V1) ∧ (¬ (r1 ≤ x3) → vp_in ((12 * x1) + x3) 60 ∧ (vp_in ((12 * x1) + x3) 60 ∧ (vwp E d M_X12_handOf 4 [some (sl 6 0), some (wi x1), some (wi (x2 + ((vI V1 6 19 (Int32.toNatClampNeg ((12 * x1) + x3))) * (vI V1 6 17 (Int32.toNatClampNeg ((12 * x1) + x3)))))), some (wi (x3 + 1))] [] V1 (zi K)))))) : vwp E d M_X12_handOf 4 [some (sl 6 0), some (wi x1), some (wi x2), some (wi x3)] [] V (zi K) := by
  intro G A hR
  obtain ⟨L, P, rfl, hS⟩ := hR
  have hx := Xt.refl (V := pl G A L P) (A := A)
  show wp E d M_X12_handOf 4 [some (vr (A 6 0)), some (vi x1), some (vi x2), some (vi x3)] [] G _
  refine v_X12_handOf_4 h0 ?_
  refine ⟨hS.o (s6_0 hS), ?_⟩
  refine wpM.mono (h G A ⟨L, P, rfl, hS⟩) (fun rr1 G1 hr => ?_)
  obtain ⟨A1, W1, w1, ⟨L1, P1, rfl, hS1⟩, hy1, rfl, r1, rfl, h⟩ := hr
  refine ⟨r1, rfl, ?_⟩
  have hx1 := Xt.trans hx hy1
  have ee2 : A1 6 0 = A 6 0 := hy1.2 _ _ hS.1.2.1 (((n6_0 hS1)).trans ((n6_0 hS)).symm)
  try rw [← ee2]
  refine ⟨fun hc => ?_, fun hc => ?_⟩
  · have h := h.1 hc
    exact qx_i hS1 hx1 h
  · have h := h.2 hc
    refine ⟨hS1.o (s6_0 hS1), ?_⟩
    rw [l6_0_22 hS1]
    refine ⟨hS1.o (s6_19 hS1), ?_⟩
    obtain ⟨hi3, h⟩ := h
    refine ⟨by first | (rw [(n6_19 hS1)]; exact hi3) | exact (congrArg (vp_in _) (n6_19 hS1)).mpr hi3 | exact hi3, ?_⟩
    rw [l6_0_20 hS1]
    refine ⟨hS1.o (s6_17 hS1), ?_⟩
    obtain ⟨hi4, h⟩ := h
    refine ⟨by first | (rw [(n6_17 hS1)]; exact hi4) | exact (congrArg (vp_in _) (n6_17 hS1)).mpr hi4 | exact hi4, ?_⟩
    exact wp.mono (h G1 A1 ⟨L1, P1, rfl, hS1⟩) (fun r G' q => qx_trans hx1 q)
theorem w_X12_isGood_0 {E : EE} {d : Nat} {V : VH} {K : Int32 → VH → Prop} {x1 : Int32} {x2 : Int32}  (h0 : 0 < d) (h : vMI E (d - 1) M_X12_isFeasible [sl 6 0, wi x2] V (fun r1 V1 => (r1 = 0 → K 0 V1) ∧ (¬ (r1 = 0) → vMI E (d - 1) M_X12_isAllowed [sl 6 0, wi x1, wi x2] V1 (fun r3 V3 => (r3 = 0 → K 0 V3) ∧ (¬ (r3 = 0) → K 1 V3))))) : vMI E d M_X12_isGood [sl 6 0, wi x1, wi x2] V K := by
  intro G A hR
  obtain ⟨L, P, rfl, hS⟩ := hR
  have hx := Xt.refl (V := pl G A L P) (A := A)
  show wpM E d M_X12_isGood [vr (A 6 0), vi x1, vi x2] G _
  refine wpM_of mk_X12_isGood (Nat.le_of_ble_eq_true rfl) ?_
  refine v_X12_isGood_0 h0 ?_
  refine ⟨hS.o (s6_0 hS), ?_⟩
  refine wpM.mono (h G A ⟨L, P, rfl, hS⟩) (fun rr1 G1 hr => ?_)
  obtain ⟨A1, W1, w1, ⟨L1, P1, rfl, hS1⟩, hy1, rfl, r1, rfl, h⟩ := hr
  refine ⟨r1, rfl, ?_⟩
  have hx1 := Xt.trans hx hy1
  have ee2 : A1 6 0 = A 6 0 := hy1.2 _ _ hS.1.2.1 (((n6_0 hS1)).trans ((n6_0 hS)).symm)
  try rw [← ee2]
  refine ⟨fun hc => ?_, fun hc => ?_⟩
  · have h := h.1 hc
    exact qx_i hS1 hx1 h
  · have h := h.2 hc
    refine ⟨hS1.o (s6_0 hS1), ?_⟩
    refine wpM.mono (h G1 A1 ⟨L1, P1, rfl, hS1⟩) (fun rr3 G3 hr => ?_)
    obtain ⟨A3, W3, w3, ⟨L3, P3, rfl, hS3⟩, hy3, rfl, r3, rfl, h⟩ := hr
    refine ⟨r3, rfl, ?_⟩
    have hx3 := Xt.trans hx1 hy3
    have ee4 : A3 6 0 = A1 6 0 := hy3.2 _ _ hS1.1.2.1 (((n6_0 hS3)).trans ((n6_0 hS1)).symm)
    try rw [← ee4]
    refine ⟨fun hc => ?_, fun hc => ?_⟩
    · have h := h.1 hc
      exact qx_i hS3 hx3 h
    · have h := h.2 hc
      exact qx_i hS3 hx3 h
theorem w_X12_isFeasible_0 {E : EE} {d : Nat} {V : VH} {K : Int32 → VH → Prop} {x1 : Int32}  (h : vp_in x1 60000 ∧ ((¬ (vJ V 6 45 (Int32.toNatClampNeg x1)) = 0 → K 0 V) ∧ ((vJ V 6 45 (Int32.toNatClampNeg x1)) = 0 → K 1 V))) : vMI E d M_X12_isFeasible [sl 6 0, wi x1] V K := by
  intro G A hR
  obtain ⟨L, P, rfl, hS⟩ := hR
  have hx := Xt.refl (V := pl G A L P) (A := A)
  show wpM E d M_X12_isFeasible [vr (A 6 0), vi x1] G _
  refine wpM_of mk_X12_isFeasible (Nat.le_of_ble_eq_true rfl) ?_
  refine v_X12_isFeasible_0 ?_
  refine ⟨hS.o (s6_0 hS), ?_⟩
  rw [l6_0_66 hS]
  refine ⟨hS.o (s6_45 hS), ?_⟩
  obtain ⟨hi1, h⟩ := h
  refine ⟨by first | (rw [(n6_45 hS)]; exact hi1) | exact (congrArg (vp_in _) (n6_45 hS)).mpr hi1 | exact hi1, ?_⟩
  refine ⟨fun hc => ?_, fun hc => ?_⟩
  · have h := h.1 hc
    exact qx_i hS hx h
  · have h := h.2 hc
    exact qx_i hS hx h
theorem w_X12_isAllowed_0 {E : EE} {d : Nat} {V : VH} {K : Int32 → VH → Prop} {x1 : Int32} {x2 : Int32}  (h : vwp E d M_X12_isAllowed 5 [some (sl 6 0), some (wi x1), some (wi x2), some (wi 1), some (wi 0)] [] V (zi K)) : vMI E d M_X12_isAllowed [sl 6 0, wi x1, wi x2] V K := by
  intro G A hR
  obtain ⟨L, P, rfl, hS⟩ := hR
  have hx := Xt.refl (V := pl G A L P) (A := A)
  show wpM E d M_X12_isAllowed [vr (A 6 0), vi x1, vi x2] G _
  refine wpM_of mk_X12_isAllowed (Nat.le_of_ble_eq_true rfl) ?_
  refine v_X12_isAllowed_0 ?_
  exact wp.mono (h G A ⟨L, P, rfl, hS⟩) (fun r G' q => qx_trans hx q)
theorem w_X12_isAllowed_5 {E : EE} {d : Nat} {V : VH} {K : Int32 → VH → Prop} {x1 : Int32} {x2 : Int32} {x3 : Int32} {x4 : Int32}  (h0 : 0 < d) (h : (x3 = 0 → bz x3 ∧ K x3 V) ∧ (¬ (x3 = 0) → vMI E (d - 1) M_X12_vars [sl 6 0, wi x1] V (fun r1 V1 => (r1 ≤ x4 → bz x3 ∧ K x3 V1) ∧ (¬ (r1 ≤ x4) → vp_in ((12 * x1) + x4) 60 ∧ (((vI V1 6 21 (Int32.toNatClampNeg ((12 * x1) + x4))) = 0 → vwp E d M_X12_isAllowed 57 [some (sl 6 0), some (wi x1), some (wi x2), some (wi x3), some (wi x4)] [] V1 (zi K)) ∧ (¬ ((vI V1 6 21 (Int32.toNatClampNeg ((12 * x1) + x4))) = 0) → vMI E (d - 1) M_X12_place [sl 6 0, wi x1, wi x2, wi x4] V1 (fun r4 V4 => vp_in ((12 * x1) + x4) 60 ∧ ((¬ r4 = (vI V4 6 19 (Int32.toNatClampNeg ((12 * x1) + x4))) → vwp E d M_X12_isAllowed 62 [some (sl 6 0), some (wi x1), some (wi x2), some (wi x3), some (wi x4)] [wi 0] V4 (zi K)) ∧ (r4 = (vI V4 6 19 (Int32.toNatClampNeg ((12 * x1) + x4))) → vwp E d M_X12_isAllowed 57 [some (sl 6 0), some (wi x1), some (wi x2), some (wi x3), some (wi x4)] [] V4 (zi K)))))))))) : vwp E d M_X12_isAllowed 5 [some (sl 6 0), some (wi x1), some (wi x2), some (wi x3), some (wi x4)] [] V (zi K) := by
  intro G A hR
  obtain ⟨L, P, rfl, hS⟩ := hR
  have hx := Xt.refl (V := pl G A L P) (A := A)
  show wp E d M_X12_isAllowed 5 [some (vr (A 6 0)), some (vi x1), some (vi x2), some (vi x3), some (vi x4)] [] G _
  refine v_X12_isAllowed_5 h0 ?_
  refine ⟨fun hc => ?_, fun hc => ?_⟩
  · have h := h.1 hc
    exact ⟨bz_ok h.1, qx_i hS hx h.2⟩
  · have h := h.2 hc
    refine ⟨hS.o (s6_0 hS), ?_⟩
    refine wpM.mono (h G A ⟨L, P, rfl, hS⟩) (fun rr1 G1 hr => ?_)
    obtain ⟨A1, W1, w1, ⟨L1, P1, rfl, hS1⟩, hy1, rfl, r1, rfl, h⟩ := hr
    refine ⟨r1, rfl, ?_⟩
    have hx1 := Xt.trans hx hy1
    have ee2 : A1 6 0 = A 6 0 := hy1.2 _ _ hS.1.2.1 (((n6_0 hS1)).trans ((n6_0 hS)).symm)
    try rw [← ee2]
    refine ⟨fun hc => ?_, fun hc => ?_⟩
    · have h := h.1 hc
      exact ⟨bz_ok h.1, qx_i hS1 hx1 h.2⟩
    · have h := h.2 hc
      refine ⟨hS1.o (s6_0 hS1), ?_⟩
      rw [l6_0_24 hS1]
      refine ⟨hS1.o (s6_21 hS1), ?_⟩
      obtain ⟨hi3, h⟩ := h
      refine ⟨by first | (rw [(n6_21 hS1)]; exact hi3) | exact (congrArg (vp_in _) (n6_21 hS1)).mpr hi3 | exact hi3, ?_⟩
      refine ⟨fun hc => ?_, fun hc => ?_⟩
      · have h := h.1 hc
        exact wp.mono (h G1 A1 ⟨L1, P1, rfl, hS1⟩) (fun r G' q => qx_trans hx1 q)
      · have h := h.2 hc
        refine wpM.mono (h G1 A1 ⟨L1, P1, rfl, hS1⟩) (fun rr4 G4 hr => ?_)
        obtain ⟨A4, W4, w4, ⟨L4, P4, rfl, hS4⟩, hy4, rfl, r4, rfl, h⟩ := hr
        refine ⟨r4, rfl, ?_⟩
        have hx4 := Xt.trans hx1 hy4
        have ee5 : A4 6 0 = A1 6 0 := hy4.2 _ _ hS1.1.2.1 (((n6_0 hS4)).trans ((n6_0 hS1)).symm)
        try rw [← ee5]
        refine ⟨hS4.o (s6_0 hS4), ?_⟩
        rw [l6_0_22 hS4]
        refine ⟨hS4.o (s6_19 hS4), ?_⟩
        obtain ⟨hi6, h⟩ := h
        refine ⟨by first | (rw [(n6_19 hS4)]; exact hi6) | exact (congrArg (vp_in _) (n6_19 hS4)).mpr hi6 | exact hi6, ?_⟩
        refine ⟨fun hc => ?_, fun hc => ?_⟩
        · have h := h.1 hc
          exact wp.mono (h G4 A4 ⟨L4, P4, rfl, hS4⟩) (fun r G' q => qx_trans hx4 q)
        · have h := h.2 hc
          exact wp.mono (h G4 A4 ⟨L4, P4, rfl, hS4⟩) (fun r G' q => qx_trans hx4 q)
theorem w_X12_isAllowed_57 {E : EE} {d : Nat} {V : VH} {K : Int32 → VH → Prop} {x1 : Int32} {x2 : Int32} {x3 : Int32} {x4 : Int32}  (h : vwp E d M_X12_isAllowed 62 [some (sl 6 0), some (wi x1), some (wi x2), some (wi x3), some (wi x4)] [wi 1] V (zi K)) : vwp E d M_X12_isAllowed 57 [some (sl 6 0), some (wi x1), some (wi x2), some (wi x3), some (wi x4)] [] V (zi K) := by
  intro G A hR
  obtain ⟨L, P, rfl, hS⟩ := hR
  have hx := Xt.refl (V := pl G A L P) (A := A)
  show wp E d M_X12_isAllowed 57 [some (vr (A 6 0)), some (vi x1), some (vi x2), some (vi x3), some (vi x4)] [] G _
  refine v_X12_isAllowed_57 ?_
  exact wp.mono (h G A ⟨L, P, rfl, hS⟩) (fun r G' q => qx_trans hx q)
theorem w_X12_isAllowed_62 {E : EE} {d : Nat} {V : VH} {K : Int32 → VH → Prop} {x1 : Int32} {x2 : Int32} {x3 : Int32} {x4 : Int32} {t0 : Int32}  (h : vwp E d M_X12_isAllowed 5 [some (sl 6 0), some (wi x1), some (wi x2), some (wi t0), some (wi (x4 + 1))] [] V (zi K)) : vwp E d M_X12_isAllowed 62 [some (sl 6 0), some (wi x1), some (wi x2), some (wi x3), some (wi x4)] [wi t0] V (zi K) := by
  intro G A hR
  obtain ⟨L, P, rfl, hS⟩ := hR
  have hx := Xt.refl (V := pl G A L P) (A := A)
  show wp E d M_X12_isAllowed 62 [some (vr (A 6 0)), some (vi x1), some (vi x2), some (vi x3), some (vi x4)] [vi t0] G _
  refine v_X12_isAllowed_62 ?_
  exact wp.mono (h G A ⟨L, P, rfl, hS⟩) (fun r G' q => qx_trans hx q)
theorem w_X12_isBetter_0 {E : EE} {d : Nat} {V : VH} {K : Int32 → VH → Prop} {x1 : Int32} {x2 : Int32}  (h : vwp E d M_X12_isBetter 2 [some (sl 6 0), some (wi x1), some (wi x2), some (wi 0)] [] V (zi K)) : vMI E d M_X12_isBetter [sl 6 0, wi x1, wi x2] V K := by
  intro G A hR
  obtain ⟨L, P, rfl, hS⟩ := hR
  have hx := Xt.refl (V := pl G A L P) (A := A)
  show wpM E d M_X12_isBetter [vr (A 6 0), vi x1, vi x2] G _
  refine wpM_of mk_X12_isBetter (Nat.le_of_ble_eq_true rfl) ?_
  refine v_X12_isBetter_0 ?_
  exact wp.mono (h G A ⟨L, P, rfl, hS⟩) (fun r G' q => qx_trans hx q)
theorem w_X12_isBetter_2 {E : EE} {d : Nat} {V : VH} {K : Int32 → VH → Prop} {x1 : Int32} {x2 : Int32} {x3 : Int32}  (h : (3 ≤ x3 → K 0 V) ∧ (¬ (3 ≤ x3) → vp_in ((20000 * x3) + x1) 60000 ∧ (vp_in ((20000 * x3) + x2) 60000 ∧ (((vJ V 6 45 (Int32.toNatClampNeg ((20000 * x3) + x1))) = (vJ V 6 45 (Int32.toNatClampNeg ((20000 * x3) + x2))) → vwp E d M_X12_isBetter 2 [some (sl 6 0), some (wi x1), some (wi x2), some (wi (x3 + 1))] [] V (zi K)) ∧ (¬ ((vJ V 6 45 (Int32.toNatClampNeg ((20000 * x3) + x1))) = (vJ V 6 45 (Int32.toNatClampNeg ((20000 * x3) + x2)))) → vp_in ((20000 * x3) + x1) 60000 ∧ (vp_in ((20000 * x3) + x2) 60000 ∧ (((vJ V 6 45 (Int32.toNatClampNeg ((20000 * x3) + x2))) ≤ (vJ V 6 45 (Int32.toNatClampNeg ((20000 * x3) + x1))) → K 0 V) ∧ (¬ ((vJ V 6 45 (Int32.toNatClampNeg ((20000 * x3) + x2))) ≤ (vJ V 6 45 (Int32.toNatClampNeg ((20000 * x3) + x1)))) → K 1 V)))))))) : vwp E d M_X12_isBetter 2 [some (sl 6 0), some (wi x1), some (wi x2), some (wi x3)] [] V (zi K) := by
  intro G A hR
  obtain ⟨L, P, rfl, hS⟩ := hR
  have hx := Xt.refl (V := pl G A L P) (A := A)
  show wp E d M_X12_isBetter 2 [some (vr (A 6 0)), some (vi x1), some (vi x2), some (vi x3)] [] G _
  refine v_X12_isBetter_2 ?_
  refine ⟨fun hc => ?_, fun hc => ?_⟩
  · have h := h.1 hc
    exact qx_i hS hx h
  · have h := h.2 hc
    refine ⟨hS.o (s6_0 hS), ?_⟩
    rw [l6_0_66 hS]
    refine ⟨hS.o (s6_45 hS), ?_⟩
    obtain ⟨hi1, h⟩ := h
    refine ⟨by first | (rw [(n6_45 hS)]; exact hi1) | exact (congrArg (vp_in _) (n6_45 hS)).mpr hi1 | exact hi1, ?_⟩
    obtain ⟨hi2, h⟩ := h
    refine ⟨by first | (rw [(n6_45 hS)]; exact hi2) | exact (congrArg (vp_in _) (n6_45 hS)).mpr hi2 | exact hi2, ?_⟩
    refine ⟨fun hc => ?_, fun hc => ?_⟩
    · have h := h.1 hc
      exact wp.mono (h G A ⟨L, P, rfl, hS⟩) (fun r G' q => qx_trans hx q)
    · have h := h.2 hc
      obtain ⟨hi3, h⟩ := h
      refine ⟨by first | (rw [(n6_45 hS)]; exact hi3) | exact (congrArg (vp_in _) (n6_45 hS)).mpr hi3 | exact hi3, ?_⟩
      obtain ⟨hi4, h⟩ := h
      refine ⟨by first | (rw [(n6_45 hS)]; exact hi4) | exact (congrArg (vp_in _) (n6_45 hS)).mpr hi4 | exact hi4, ?_⟩
      refine ⟨fun hc => ?_, fun hc => ?_⟩
      · have h := h.1 hc
        exact qx_i hS hx h
      · have h := h.2 hc
        exact qx_i hS hx h
theorem w_X12_print_0 {E : EE} {d : Nat} {V : VH} {K : VH → Prop} {x1 : Int32} {x2 : Int32}  (h : vwp E d M_X12_print 2 [some (sl 6 0), some (wi x1), some (wi x2), some (wi x2), none, none] [] V (zv K)) : vMV E d M_X12_print [sl 6 0, wi x1, wi x2] V K := by
  intro G A hR
  obtain ⟨L, P, rfl, hS⟩ := hR
  have hx := Xt.refl (V := pl G A L P) (A := A)
  show wpM E d M_X12_print [vr (A 6 0), vi x1, vi x2] G _
  refine wpM_of mk_X12_print (Nat.le_of_ble_eq_true rfl) ?_
  refine v_X12_print_0 ?_
  exact wp.mono (h G A ⟨L, P, rfl, hS⟩) (fun r G' q => qx_trans hx q)
theorem w_X12_print_2 {E : EE} {d : Nat} {V : VH} {K : VH → Prop} {x1 : Int32} {x2 : Int32} {x3 : Int32}  (h0 : 0 < d) (h : vMI E (d - 1) M_X12_vars [sl 6 0, wi x1] V (fun r1 V1 => (r1 ≤ x3 → vwp E d M_X12_print 31 [some (sl 6 0), some (wi x1), some (wi x2), some (wi x3), none, none] [] V1 (zv K)) ∧ (¬ (r1 ≤ x3) → vp_in ((12 * x1) + x3) 60 ∧ (((vI V1 6 21 (Int32.toNatClampNeg ((12 * x1) + x3))) = 0 → vwp E d M_X12_print 31 [some (sl 6 0), some (wi x1), some (wi x2), some (wi x3), none, none] [] V1 (zv K)) ∧ (¬ ((vI V1 6 21 (Int32.toNatClampNeg ((12 * x1) + x3))) = 0) → vwp E d M_X12_print 2 [some (sl 6 0), some (wi x1), some (wi x2), some (wi (x3 + 1)), none, none] [] V1 (zv K)))))) : vwp E d M_X12_print 2 [some (sl 6 0), some (wi x1), some (wi x2), some (wi x3), none, none] [] V (zv K) := by
  intro G A hR
  obtain ⟨L, P, rfl, hS⟩ := hR
  have hx := Xt.refl (V := pl G A L P) (A := A)
  show wp E d M_X12_print 2 [some (vr (A 6 0)), some (vi x1), some (vi x2), some (vi x3), none, none] [] G _
  refine v_X12_print_2 h0 ?_
  refine ⟨hS.o (s6_0 hS), ?_⟩
  refine wpM.mono (h G A ⟨L, P, rfl, hS⟩) (fun rr1 G1 hr => ?_)
  obtain ⟨A1, W1, w1, ⟨L1, P1, rfl, hS1⟩, hy1, rfl, r1, rfl, h⟩ := hr
  refine ⟨r1, rfl, ?_⟩
  have hx1 := Xt.trans hx hy1
  have ee2 : A1 6 0 = A 6 0 := hy1.2 _ _ hS.1.2.1 (((n6_0 hS1)).trans ((n6_0 hS)).symm)
  try rw [← ee2]
  refine ⟨fun hc => ?_, fun hc => ?_⟩
  · have h := h.1 hc
    exact wp.mono (h G1 A1 ⟨L1, P1, rfl, hS1⟩) (fun r G' q => qx_trans hx1 q)
  · have h := h.2 hc
    refine ⟨hS1.o (s6_0 hS1), ?_⟩
    rw [l6_0_24 hS1]
    refine ⟨hS1.o (s6_21 hS1), ?_⟩
    obtain ⟨hi3, h⟩ := h
    refine ⟨by first | (rw [(n6_21 hS1)]; exact hi3) | exact (congrArg (vp_in _) (n6_21 hS1)).mpr hi3 | exact hi3, ?_⟩
    refine ⟨fun hc => ?_, fun hc => ?_⟩
    · have h := h.1 hc
      exact wp.mono (h G1 A1 ⟨L1, P1, rfl, hS1⟩) (fun r G' q => qx_trans hx1 q)
    · have h := h.2 hc
      exact wp.mono (h G1 A1 ⟨L1, P1, rfl, hS1⟩) (fun r G' q => qx_trans hx1 q)
theorem w_X12_print_31 {E : EE} {d : Nat} {V : VH} {K : VH → Prop} {x1 : Int32} {x2 : Int32} {x3 : Int32}  (h0 : 0 < d) (h : vMI E (d - 1) M_X12_vars [sl 6 0, wi x1] V (fun r1 V1 => (¬ x3 = r1 → vwp E d M_X12_print 61 [some (sl 6 0), some (wi x1), some (wi x2), some (wi x3), some (wi (((96 * x1) + 24) + x3)), some (wi 0)] [] V1 (zv K)) ∧ (x3 = r1 → vMV E (d - 1) M_X12_prints [sl 6 0, wi 46] V1 (fun V3 => K V3)))) : vwp E d M_X12_print 31 [some (sl 6 0), some (wi x1), some (wi x2), some (wi x3), none, none] [] V (zv K) := by
  intro G A hR
  obtain ⟨L, P, rfl, hS⟩ := hR
  have hx := Xt.refl (V := pl G A L P) (A := A)
  show wp E d M_X12_print 31 [some (vr (A 6 0)), some (vi x1), some (vi x2), some (vi x3), none, none] [] G _
  refine v_X12_print_31 h0 ?_
  refine ⟨hS.o (s6_0 hS), ?_⟩
  refine wpM.mono (h G A ⟨L, P, rfl, hS⟩) (fun rr1 G1 hr => ?_)
  obtain ⟨A1, W1, w1, ⟨L1, P1, rfl, hS1⟩, hy1, rfl, r1, rfl, h⟩ := hr
  refine ⟨r1, rfl, ?_⟩
  have hx1 := Xt.trans hx hy1
  have ee2 : A1 6 0 = A 6 0 := hy1.2 _ _ hS.1.2.1 (((n6_0 hS1)).trans ((n6_0 hS)).symm)
  try rw [← ee2]
  refine ⟨fun hc => ?_, fun hc => ?_⟩
  · have h := h.1 hc
    exact wp.mono (h G1 A1 ⟨L1, P1, rfl, hS1⟩) (fun r G' q => qx_trans hx1 q)
  · have h := h.2 hc
    refine ⟨hS1.o (s6_0 hS1), ?_⟩
    refine wpM.mono (h G1 A1 ⟨L1, P1, rfl, hS1⟩) (fun rr3 G3 hr => ?_)
    obtain ⟨A3, W3, w3, ⟨L3, P3, rfl, hS3⟩, hy3, rfl, rfl, h⟩ := hr
    refine ⟨rfl, ?_⟩
    have hx3 := Xt.trans hx1 hy3
    have ee4 : A3 6 0 = A1 6 0 := hy3.2 _ _ hS1.1.2.1 (((n6_0 hS3)).trans ((n6_0 hS1)).symm)
    try rw [← ee4]
    exact qx_v hS3 hx3 h
theorem w_X12_print_61 {E : EE} {d : Nat} {V : VH} {K : VH → Prop} {x1 : Int32} {x2 : Int32} {x3 : Int32} {x4 : Int32} {x5 : Int32}  (h0 : 0 < d) (h : vp_in x4 480 ∧ (((vI V 6 13 (Int32.toNatClampNeg x4)) ≤ x5 → vMV E (d - 1) M_X12_prints [sl 6 0, wi 40] V (fun V2 => vwp E d M_X12_print 113 [some (sl 6 0), some (wi x1), some (wi x2), some (wi x3), some (wi x4), some (wi 0)] [] V2 (zv K))) ∧ (¬ ((vI V 6 13 (Int32.toNatClampNeg x4)) ≤ x5) → vp_in x4 480 ∧ (vp_in (((20000 * x1) + (vI V 6 12 (Int32.toNatClampNeg x4))) + x5) 100000 ∧ (vMV E (d - 1) M_X12_prints [sl 6 0, wi (vI V 6 3 (Int32.toNatClampNeg (((20000 * x1) + (vI V 6 12 (Int32.toNatClampNeg x4))) + x5)))] V (fun V6 => vwp E d M_X12_print 61 [some (sl 6 0), some (wi x1), some (wi x2), some (wi x3), some (wi x4), some (wi (x5 + 1))] [] V6 (zv K))))))) : vwp E d M_X12_print 61 [some (sl 6 0), some (wi x1), some (wi x2), some (wi x3), some (wi x4), some (wi x5)] [] V (zv K) := by
  intro G A hR
  obtain ⟨L, P, rfl, hS⟩ := hR
  have hx := Xt.refl (V := pl G A L P) (A := A)
  show wp E d M_X12_print 61 [some (vr (A 6 0)), some (vi x1), some (vi x2), some (vi x3), some (vi x4), some (vi x5)] [] G _
  refine v_X12_print_61 h0 ?_
  refine ⟨hS.o (s6_0 hS), ?_⟩
  rw [l6_0_16 hS]
  refine ⟨hS.o (s6_13 hS), ?_⟩
  obtain ⟨hi1, h⟩ := h
  refine ⟨by first | (rw [(n6_13 hS)]; exact hi1) | exact (congrArg (vp_in _) (n6_13 hS)).mpr hi1 | exact hi1, ?_⟩
  refine ⟨fun hc => ?_, fun hc => ?_⟩
  · have h := h.1 hc
    refine wpM.mono (h G A ⟨L, P, rfl, hS⟩) (fun rr2 G2 hr => ?_)
    obtain ⟨A2, W2, w2, ⟨L2, P2, rfl, hS2⟩, hy2, rfl, rfl, h⟩ := hr
    refine ⟨rfl, ?_⟩
    have hx2 := Xt.trans hx hy2
    have ee3 : A2 6 0 = A 6 0 := hy2.2 _ _ hS.1.2.1 (((n6_0 hS2)).trans ((n6_0 hS)).symm)
    try rw [← ee3]
    exact wp.mono (h G2 A2 ⟨L2, P2, rfl, hS2⟩) (fun r G' q => qx_trans hx2 q)
  · have h := h.2 hc
    rw [l6_0_6 hS]
    rw [l6_0_15 hS]
    refine ⟨hS.o (s6_12 hS), ?_⟩
    obtain ⟨hi4, h⟩ := h
    refine ⟨by first | (rw [(n6_12 hS)]; exact hi4) | exact (congrArg (vp_in _) (n6_12 hS)).mpr hi4 | exact hi4, ?_⟩
    refine ⟨hS.o (s6_3 hS), ?_⟩
    obtain ⟨hi5, h⟩ := h
    refine ⟨by first | (rw [(n6_3 hS)]; exact hi5) | exact (congrArg (vp_in _) (n6_3 hS)).mpr hi5 | exact hi5, ?_⟩
    refine wpM.mono (h G A ⟨L, P, rfl, hS⟩) (fun rr6 G6 hr => ?_)
    obtain ⟨A6, W6, w6, ⟨L6, P6, rfl, hS6⟩, hy6, rfl, rfl, h⟩ := hr
    refine ⟨rfl, ?_⟩
    have hx6 := Xt.trans hx hy6
    have ee7 : A6 6 0 = A 6 0 := hy6.2 _ _ hS.1.2.1 (((n6_0 hS6)).trans ((n6_0 hS)).symm)
    try rw [← ee7]
    exact wp.mono (h G6 A6 ⟨L6, P6, rfl, hS6⟩) (fun r G' q => qx_trans hx6 q)
theorem w_X12_print_113 {E : EE} {d : Nat} {V : VH} {K : VH → Prop} {x1 : Int32} {x2 : Int32} {x3 : Int32} {x4 : Int32} {x5 : Int32}  (h0 : 0 < d) (h : vp_in ((12 * x1) + x3) 60 ∧ (((vI V 6 16 (Int32.toNatClampNeg ((12 * x1) + x3))) ≤ x5 → vwp E d M_X12_print 164 [some (sl 6 0), some (wi x1), some (wi x2), some (wi x3), some (wi x4), some (wi x5)] [] V (zv K)) ∧ (¬ ((vI V 6 16 (Int32.toNatClampNeg ((12 * x1) + x3))) ≤ x5) → (20000 < (vI V 6 0 84) → vwp E d M_X12_print 164 [some (sl 6 0), some (wi x1), some (wi x2), some (wi x3), some (wi x4), some (wi x5)] [] V (zv K)) ∧ (¬ (20000 < (vI V 6 0 84)) → (x5 ≤ 0 → vwp E d M_X12_print 150 [some (sl 6 0), some (wi x1), some (wi x2), some (wi x3), some (wi x4), some (wi x5)] [] V (zv K)) ∧ (¬ (x5 ≤ 0) → vMV E (d - 1) M_X12_prints [sl 6 0, wi 44] V (fun V2 => vwp E d M_X12_print 150 [some (sl 6 0), some (wi x1), some (wi x2), some (wi x3), some (wi x4), some (wi x5)] [] V2 (zv K))))))) : vwp E d M_X12_print 113 [some (sl 6 0), some (wi x1), some (wi x2), some (wi x3), some (wi x4), some (wi x5)] [] V (zv K) := by
  intro G A hR
  obtain ⟨L, P, rfl, hS⟩ := hR
  have hx := Xt.refl (V := pl G A L P) (A := A)
  show wp E d M_X12_print 113 [some (vr (A 6 0)), some (vi x1), some (vi x2), some (vi x3), some (vi x4), some (vi x5)] [] G _
  refine v_X12_print_113 h0 ?_
  refine ⟨hS.o (s6_0 hS), ?_⟩
  rw [l6_0_19 hS]
  refine ⟨hS.o (s6_16 hS), ?_⟩
  obtain ⟨hi1, h⟩ := h
  refine ⟨by first | (rw [(n6_16 hS)]; exact hi1) | exact (congrArg (vp_in _) (n6_16 hS)).mpr hi1 | exact hi1, ?_⟩
  refine ⟨fun hc => ?_, fun hc => ?_⟩
  · have h := h.1 hc
    exact wp.mono (h G A ⟨L, P, rfl, hS⟩) (fun r G' q => qx_trans hx q)
  · have h := h.2 hc
    refine ⟨fun hc => ?_, fun hc => ?_⟩
    · have h := h.1 hc
      exact wp.mono (h G A ⟨L, P, rfl, hS⟩) (fun r G' q => qx_trans hx q)
    · have h := h.2 hc
      refine ⟨fun hc => ?_, fun hc => ?_⟩
      · have h := h.1 hc
        exact wp.mono (h G A ⟨L, P, rfl, hS⟩) (fun r G' q => qx_trans hx q)
      · have h := h.2 hc
        refine wpM.mono (h G A ⟨L, P, rfl, hS⟩) (fun rr2 G2 hr => ?_)
        obtain ⟨A2, W2, w2, ⟨L2, P2, rfl, hS2⟩, hy2, rfl, rfl, h⟩ := hr
        refine ⟨rfl, ?_⟩
        have hx2 := Xt.trans hx hy2
        have ee3 : A2 6 0 = A 6 0 := hy2.2 _ _ hS.1.2.1 (((n6_0 hS2)).trans ((n6_0 hS)).symm)
        try rw [← ee3]
        exact wp.mono (h G2 A2 ⟨L2, P2, rfl, hS2⟩) (fun r G' q => qx_trans hx2 q)
theorem w_X12_print_150 {E : EE} {d : Nat} {V : VH} {K : VH → Prop} {x1 : Int32} {x2 : Int32} {x3 : Int32} {x4 : Int32} {x5 : Int32}  (h0 : 0 < d) (h : vMV E (d - 1) M_X12_print [sl 6 0, wi x1, wi (x3 + 1)] V (fun V1 => vwp E d M_X12_print 113 [some (sl 6 0), some (wi x1), some (wi x2), some (wi x3), some (wi x4), some (wi (x5 + 1))] [] V1 (zv K))) : vwp E d M_X12_print 150 [some (sl 6 0), some (wi x1), some (wi x2), some (wi x3), some (wi x4), some (wi x5)] [] V (zv K) := by
  intro G A hR
  obtain ⟨L, P, rfl, hS⟩ := hR
  have hx := Xt.refl (V := pl G A L P) (A := A)
  show wp E d M_X12_print 150 [some (vr (A 6 0)), some (vi x1), some (vi x2), some (vi x3), some (vi x4), some (vi x5)] [] G _
  refine v_X12_print_150 h0 ?_
  refine ⟨hS.o (s6_0 hS), ?_⟩
  refine wpM.mono (h G A ⟨L, P, rfl, hS⟩) (fun rr1 G1 hr => ?_)
  obtain ⟨A1, W1, w1, ⟨L1, P1, rfl, hS1⟩, hy1, rfl, rfl, h⟩ := hr
  refine ⟨rfl, ?_⟩
  have hx1 := Xt.trans hx hy1
  have ee2 : A1 6 0 = A 6 0 := hy1.2 _ _ hS.1.2.1 (((n6_0 hS1)).trans ((n6_0 hS)).symm)
  try rw [← ee2]
  exact wp.mono (h G1 A1 ⟨L1, P1, rfl, hS1⟩) (fun r G' q => qx_trans hx1 q)
theorem w_X12_print_164 {E : EE} {d : Nat} {V : VH} {K : VH → Prop} {x1 : Int32} {x2 : Int32} {x3 : Int32} {x4 : Int32} {x5 : Int32}  (h0 : 0 < d) (h : vMV E (d - 1) M_X12_prints [sl 6 0, wi 41] V (fun V1 => K V1)) : vwp E d M_X12_print 164 [some (sl 6 0), some (wi x1), some (wi x2), some (wi x3), some (wi x4), some (wi x5)] [] V (zv K) := by
  intro G A hR
  obtain ⟨L, P, rfl, hS⟩ := hR
  have hx := Xt.refl (V := pl G A L P) (A := A)
  show wp E d M_X12_print 164 [some (vr (A 6 0)), some (vi x1), some (vi x2), some (vi x3), some (vi x4), some (vi x5)] [] G _
  refine v_X12_print_164 h0 ?_
  refine ⟨hS.o (s6_0 hS), ?_⟩
  refine wpM.mono (h G A ⟨L, P, rfl, hS⟩) (fun rr1 G1 hr => ?_)
  obtain ⟨A1, W1, w1, ⟨L1, P1, rfl, hS1⟩, hy1, rfl, rfl, h⟩ := hr
  refine ⟨rfl, ?_⟩
  have hx1 := Xt.trans hx hy1
  have ee2 : A1 6 0 = A 6 0 := hy1.2 _ _ hS.1.2.1 (((n6_0 hS1)).trans ((n6_0 hS)).symm)
  try rw [← ee2]
  exact qx_v hS1 hx1 h
theorem w_X12_prints_0 {E : EE} {d : Nat} {V : VH} {K : VH → Prop} {x1 : Int32}  (h : (20000 < (vI V 6 0 84) → K V) ∧ (¬ (20000 < (vI V 6 0 84)) → vp_in (vI V 6 0 84) 20001 ∧ (∀ V2 : VH, V2 = wrI V 6 58 (Int32.toNatClampNeg (vI V 6 0 84)) (i2b (i2b x1)) → ∀ V3 : VH, V3 = wrI V2 6 0 84 ((vI V2 6 0 84) + 1) → K V3))) : vMV E d M_X12_prints [sl 6 0, wi x1] V K := by
  intro G A hR
  obtain ⟨L, P, rfl, hS⟩ := hR
  have hx := Xt.refl (V := pl G A L P) (A := A)
  show wpM E d M_X12_prints [vr (A 6 0), vi x1] G _
  refine wpM_of mk_X12_prints (Nat.le_of_ble_eq_true rfl) ?_
  refine v_X12_prints_0 ?_
  refine ⟨hS.o (s6_0 hS), ?_⟩
  refine ⟨fun hc => ?_, fun hc => ?_⟩
  · have h := h.1 hc
    exact qx_v hS hx h
  · have h := h.2 hc
    rw [l6_0_87 hS]
    refine ⟨hS.o (s6_58 hS), ?_⟩
    obtain ⟨hi1, h⟩ := h
    refine ⟨by first | (rw [(n6_58 hS)]; exact hi1) | exact (congrArg (vp_in _) (n6_58 hS)).mpr hi1 | exact hi1, ?_⟩
    intro G2 eG2
    have hS2 : Sh E G2 A L P := Sh_sI eG2 hS (s6_58 hS) (okT_b rfl)
    have h := h (pl G2 A L P) (pl_sI eG2 hS (s6_58 hS))
    have hx2 : Xt (pl G A L P) A (pl G2 A L P) A := Xt_sI eG2 hx
    intro G3 eG3
    have hS3 : Sh E G3 A L P := Sh_sI eG3 hS2 (s6_0 hS2) (okT_0 rfl)
    have h := h (pl G3 A L P) (pl_sI eG3 hS2 (s6_0 hS2))
    have hx3 : Xt (pl G A L P) A (pl G3 A L P) A := Xt_sI eG3 hx2
    exact qx_v hS3 hx3 h
theorem w_X12_check_0 {E : EE} {d : Nat} {V : VH} {K : Int32 → VH → Prop} {x1 : Int32}  (h0 : 0 < d) (h : vMI E (d - 1) M_X12_isProblem [sl 6 0, wi x1] V (fun r1 V1 => (¬ r1 = 0 → vMV E (d - 1) M_X12_know [sl 6 0, wi x1] V1 (fun V3 => vMV E (d - 1) M_X12_giveAll [sl 6 0, wi x1] V3 (fun V5 => ∀ V7 : VH, V7 = wrI V5 6 0 37 1 → ∀ V8 : VH, V8 = wrI V7 6 0 39 (vI V7 6 0 1) → ∀ V9 : VH, V9 = wrI V8 6 0 40 0 → ∀ V10 : VH, V10 = wrI V9 6 0 45 0 → vMV E (d - 1) M_X12_next [sl 6 0] V10 (fun V11 => vMV E (d - 1) M_X12_tree [sl 6 0, wi x1] V11 (fun V13 => (¬ (vI V13 6 0 45) = 0 → vwp E d M_X12_check 71 [some (sl 6 0), some (wi x1)] [] V13 (zi K)) ∧ ((vI V13 6 0 45) = 0 → ((vI V13 6 0 41) = 0 → vwp E d M_X12_check 71 [some (sl 6 0), some (wi x1)] [] V13 (zi K)) ∧ (¬ ((vI V13 6 0 41) = 0) → vMV E (d - 1) M_X12_failHere [sl 6 0] V13 (fun V15 => vwp E d M_X12_check 71 [some (sl 6 0), some (wi x1)] [] V15 (zi K))))))))) ∧ (r1 = 0 → K (-100000) V1))) : vMI E d M_X12_check [sl 6 0, wi x1] V K := by
  intro G A hR
  obtain ⟨L, P, rfl, hS⟩ := hR
  have hx := Xt.refl (V := pl G A L P) (A := A)
  show wpM E d M_X12_check [vr (A 6 0), vi x1] G _
  refine wpM_of mk_X12_check (Nat.le_of_ble_eq_true rfl) ?_
  refine v_X12_check_0 h0 ?_
  refine ⟨hS.o (s6_0 hS), ?_⟩
  refine wpM.mono (h G A ⟨L, P, rfl, hS⟩) (fun rr1 G1 hr => ?_)
  obtain ⟨A1, W1, w1, ⟨L1, P1, rfl, hS1⟩, hy1, rfl, r1, rfl, h⟩ := hr
  refine ⟨r1, rfl, ?_⟩
  have hx1 := Xt.trans hx hy1
  have ee2 : A1 6 0 = A 6 0 := hy1.2 _ _ hS.1.2.1 (((n6_0 hS1)).trans ((n6_0 hS)).symm)
  try rw [← ee2]
  refine ⟨fun hc => ?_, fun hc => ?_⟩
  · have h := h.1 hc
    refine ⟨hS1.o (s6_0 hS1), ?_⟩
    refine wpM.mono (h G1 A1 ⟨L1, P1, rfl, hS1⟩) (fun rr3 G3 hr => ?_)
    obtain ⟨A3, W3, w3, ⟨L3, P3, rfl, hS3⟩, hy3, rfl, rfl, h⟩ := hr
    refine ⟨rfl, ?_⟩
    have hx3 := Xt.trans hx1 hy3
    have ee4 : A3 6 0 = A1 6 0 := hy3.2 _ _ hS1.1.2.1 (((n6_0 hS3)).trans ((n6_0 hS1)).symm)
    try rw [← ee4]
    refine ⟨hS3.o (s6_0 hS3), ?_⟩
    refine wpM.mono (h G3 A3 ⟨L3, P3, rfl, hS3⟩) (fun rr5 G5 hr => ?_)
    obtain ⟨A5, W5, w5, ⟨L5, P5, rfl, hS5⟩, hy5, rfl, rfl, h⟩ := hr
    refine ⟨rfl, ?_⟩
    have hx5 := Xt.trans hx3 hy5
    have ee6 : A5 6 0 = A3 6 0 := hy5.2 _ _ hS3.1.2.1 (((n6_0 hS5)).trans ((n6_0 hS3)).symm)
    try rw [← ee6]
    refine ⟨hS5.o (s6_0 hS5), ?_⟩
    intro G7 eG7
    have hS7 : Sh E G7 A5 L5 P5 := Sh_sI eG7 hS5 (s6_0 hS5) (okT_2 rfl (Or.inr rfl))
    have h := h (pl G7 A5 L5 P5) (pl_sI eG7 hS5 (s6_0 hS5))
    have hx7 : Xt (pl G A L P) A (pl G7 A5 L5 P5) A5 := Xt_sI eG7 hx5
    intro G8 eG8
    have hS8 : Sh E G8 A5 L5 P5 := Sh_sI eG8 hS7 (s6_0 hS7) (okT_0 rfl)
    have h := h (pl G8 A5 L5 P5) (pl_sI eG8 hS7 (s6_0 hS7))
    have hx8 : Xt (pl G A L P) A (pl G8 A5 L5 P5) A5 := Xt_sI eG8 hx7
    intro G9 eG9
    have hS9 : Sh E G9 A5 L5 P5 := Sh_sI eG9 hS8 (s6_0 hS8) (okT_0 rfl)
    have h := h (pl G9 A5 L5 P5) (pl_sI eG9 hS8 (s6_0 hS8))
    have hx9 : Xt (pl G A L P) A (pl G9 A5 L5 P5) A5 := Xt_sI eG9 hx8
    intro G10 eG10
    have hS10 : Sh E G10 A5 L5 P5 := Sh_sI eG10 hS9 (s6_0 hS9) (okT_0 rfl)
    have h := h (pl G10 A5 L5 P5) (pl_sI eG10 hS9 (s6_0 hS9))
    have hx10 : Xt (pl G A L P) A (pl G10 A5 L5 P5) A5 := Xt_sI eG10 hx9
    refine wpM.mono (h G10 A5 ⟨L5, P5, rfl, hS10⟩) (fun rr11 G11 hr => ?_)
    obtain ⟨A11, W11, w11, ⟨L11, P11, rfl, hS11⟩, hy11, rfl, rfl, h⟩ := hr
    refine ⟨rfl, ?_⟩
    have hx11 := Xt.trans hx10 hy11
    have ee12 : A11 6 0 = A5 6 0 := hy11.2 _ _ hS10.1.2.1 (((n6_0 hS11)).trans ((n6_0 hS10)).symm)
    try rw [← ee12]
    refine ⟨hS11.o (s6_0 hS11), ?_⟩
    refine wpM.mono (h G11 A11 ⟨L11, P11, rfl, hS11⟩) (fun rr13 G13 hr => ?_)
    obtain ⟨A13, W13, w13, ⟨L13, P13, rfl, hS13⟩, hy13, rfl, rfl, h⟩ := hr
    refine ⟨rfl, ?_⟩
    have hx13 := Xt.trans hx11 hy13
    have ee14 : A13 6 0 = A11 6 0 := hy13.2 _ _ hS11.1.2.1 (((n6_0 hS13)).trans ((n6_0 hS11)).symm)
    try rw [← ee14]
    refine ⟨hS13.o (s6_0 hS13), ?_⟩
    refine ⟨fun hc => ?_, fun hc => ?_⟩
    · have h := h.1 hc
      exact wp.mono (h G13 A13 ⟨L13, P13, rfl, hS13⟩) (fun r G' q => qx_trans hx13 q)
    · have h := h.2 hc
      refine ⟨fun hc => ?_, fun hc => ?_⟩
      · have h := h.1 hc
        exact wp.mono (h G13 A13 ⟨L13, P13, rfl, hS13⟩) (fun r G' q => qx_trans hx13 q)
      · have h := h.2 hc
        refine wpM.mono (h G13 A13 ⟨L13, P13, rfl, hS13⟩) (fun rr15 G15 hr => ?_)
        obtain ⟨A15, W15, w15, ⟨L15, P15, rfl, hS15⟩, hy15, rfl, rfl, h⟩ := hr
        refine ⟨rfl, ?_⟩
        have hx15 := Xt.trans hx13 hy15
        have ee16 : A15 6 0 = A13 6 0 := hy15.2 _ _ hS13.1.2.1 (((n6_0 hS15)).trans ((n6_0 hS13)).symm)
        try rw [← ee16]
        exact wp.mono (h G15 A15 ⟨L15, P15, rfl, hS15⟩) (fun r G' q => qx_trans hx15 q)
  · have h := h.2 hc
    exact qx_i hS1 hx1 h
theorem w_X12_check_71 {E : EE} {d : Nat} {V : VH} {K : Int32 → VH → Prop} {x1 : Int32}  (h : ∀ V1 : VH, V1 = wrI V 6 0 4 (vI V 6 0 45) → (¬ (vI V1 6 0 45) = 0 → K ((-1) - (vI V1 6 0 46)) V1) ∧ ((vI V1 6 0 45) = 0 → K 0 V1)) : vwp E d M_X12_check 71 [some (sl 6 0), some (wi x1)] [] V (zi K) := by
  intro G A hR
  obtain ⟨L, P, rfl, hS⟩ := hR
  have hx := Xt.refl (V := pl G A L P) (A := A)
  show wp E d M_X12_check 71 [some (vr (A 6 0)), some (vi x1)] [] G _
  refine v_X12_check_71 ?_
  refine ⟨hS.o (s6_0 hS), ?_⟩
  have hS1 : Sh E (sI G (A 6 0) 4 (gI G (A 6 0) 45)) A L P := Sh_sI (rfl : sI G (A 6 0) 4 (gI G (A 6 0) 45) = sI G (A 6 0) 4 (gI G (A 6 0) 45)) hS (s6_0 hS) (okT_0 rfl)
  have h := h (pl (sI G (A 6 0) 4 (gI G (A 6 0) 45)) A L P) (pl_sI (rfl : sI G (A 6 0) 4 (gI G (A 6 0) 45) = sI G (A 6 0) 4 (gI G (A 6 0) 45)) hS (s6_0 hS))
  have hx1 : Xt (pl G A L P) A (pl (sI G (A 6 0) 4 (gI G (A 6 0) 45)) A L P) A := Xt_sI (rfl : sI G (A 6 0) 4 (gI G (A 6 0) 45) = sI G (A 6 0) 4 (gI G (A 6 0) 45)) hx
  refine ⟨fun hc => ?_, fun hc => ?_⟩
  · have h := h.1 hc
    exact qx_i hS1 hx1 h
  · have h := h.2 hc
    exact qx_i hS1 hx1 h
theorem w_X12_giveAll_0 {E : EE} {d : Nat} {V : VH} {K : VH → Prop} {x1 : Int32}  (h : vwp E d M_X12_giveAll 2 [some (sl 6 0), some (wi x1), some (wi 0)] [] V (zv K)) : vMV E d M_X12_giveAll [sl 6 0, wi x1] V K := by
  intro G A hR
  obtain ⟨L, P, rfl, hS⟩ := hR
  have hx := Xt.refl (V := pl G A L P) (A := A)
  show wpM E d M_X12_giveAll [vr (A 6 0), vi x1] G _
  refine wpM_of mk_X12_giveAll (Nat.le_of_ble_eq_true rfl) ?_
  refine v_X12_giveAll_0 ?_
  exact wp.mono (h G A ⟨L, P, rfl, hS⟩) (fun r G' q => qx_trans hx q)
theorem w_X12_giveAll_2 {E : EE} {d : Nat} {V : VH} {K : VH → Prop} {x1 : Int32} {x2 : Int32}  (h0 : 0 < d) (h : vMI E (d - 1) M_X12_vars [sl 6 0, wi x1] V (fun r1 V1 => (r1 ≤ x2 → K V1) ∧ (¬ (r1 ≤ x2) → vp_in ((12 * x1) + x2) 60 ∧ (((vI V1 6 21 (Int32.toNatClampNeg ((12 * x1) + x2))) = 0 → vwp E d M_X12_giveAll 45 [some (sl 6 0), some (wi x1), some (wi x2)] [wi (-1), wi x2, sl 6 55] V1 (zv K)) ∧ (¬ ((vI V1 6 21 (Int32.toNatClampNeg ((12 * x1) + x2))) = 0) → vp_in ((12 * x1) + x2) 60 ∧ (vwp E d M_X12_giveAll 45 [some (sl 6 0), some (wi x1), some (wi x2)] [wi (vI V1 6 19 (Int32.toNatClampNeg ((12 * x1) + x2))), wi x2, sl 6 55] V1 (zv K))))))) : vwp E d M_X12_giveAll 2 [some (sl 6 0), some (wi x1), some (wi x2)] [] V (zv K) := by
  intro G A hR
  obtain ⟨L, P, rfl, hS⟩ := hR
  have hx := Xt.refl (V := pl G A L P) (A := A)
  show wp E d M_X12_giveAll 2 [some (vr (A 6 0)), some (vi x1), some (vi x2)] [] G _
  refine v_X12_giveAll_2 h0 ?_
  refine ⟨hS.o (s6_0 hS), ?_⟩
  refine wpM.mono (h G A ⟨L, P, rfl, hS⟩) (fun rr1 G1 hr => ?_)
  obtain ⟨A1, W1, w1, ⟨L1, P1, rfl, hS1⟩, hy1, rfl, r1, rfl, h⟩ := hr
  refine ⟨r1, rfl, ?_⟩
  have hx1 := Xt.trans hx hy1
  have ee2 : A1 6 0 = A 6 0 := hy1.2 _ _ hS.1.2.1 (((n6_0 hS1)).trans ((n6_0 hS)).symm)
  try rw [← ee2]
  refine ⟨fun hc => ?_, fun hc => ?_⟩
  · have h := h.1 hc
    exact qx_v hS1 hx1 h
  · have h := h.2 hc
    refine ⟨hS1.o (s6_0 hS1), ?_⟩
    rw [l6_0_83 hS1]
    rw [l6_0_24 hS1]
    refine ⟨hS1.o (s6_21 hS1), ?_⟩
    obtain ⟨hi3, h⟩ := h
    refine ⟨by first | (rw [(n6_21 hS1)]; exact hi3) | exact (congrArg (vp_in _) (n6_21 hS1)).mpr hi3 | exact hi3, ?_⟩
    refine ⟨fun hc => ?_, fun hc => ?_⟩
    · have h := h.1 hc
      exact wp.mono (h G1 A1 ⟨L1, P1, rfl, hS1⟩) (fun r G' q => qx_trans hx1 q)
    · have h := h.2 hc
      rw [l6_0_22 hS1]
      refine ⟨hS1.o (s6_19 hS1), ?_⟩
      obtain ⟨hi4, h⟩ := h
      refine ⟨by first | (rw [(n6_19 hS1)]; exact hi4) | exact (congrArg (vp_in _) (n6_19 hS1)).mpr hi4 | exact hi4, ?_⟩
      exact wp.mono (h G1 A1 ⟨L1, P1, rfl, hS1⟩) (fun r G' q => qx_trans hx1 q)
theorem w_X12_giveAll_45 {E : EE} {d : Nat} {V : VH} {K : VH → Prop} {x1 : Int32} {x2 : Int32} {a90 f90 : Nat} {t1 : Int32} {t2 : Int32} (hA90 : SL (vL V) a90 f90 14) (h : vp_in t1 (vN V a90 f90) ∧ (∀ V2 : VH, V2 = wrI V a90 f90 (Int32.toNatClampNeg t1) t2 → vwp E d M_X12_giveAll 2 [some (sl 6 0), some (wi x1), some (wi (x2 + 1))] [] V2 (zv K))) : vwp E d M_X12_giveAll 45 [some (sl 6 0), some (wi x1), some (wi x2)] [wi t2, wi t1, sl a90 f90] V (zv K) := by
  intro G A hR
  obtain ⟨L, P, rfl, hS⟩ := hR
  have hx := Xt.refl (V := pl G A L P) (A := A)
  show wp E d M_X12_giveAll 45 [some (vr (A 6 0)), some (vi x1), some (vi x2)] [vi t2, vi t1, vr (A a90 f90)] G _
  refine v_X12_giveAll_45 ?_
  refine ⟨hS.o hA90, ?_⟩
  obtain ⟨hi1, h⟩ := h
  refine ⟨hi1, ?_⟩
  have hS2 : Sh E (sI G (A a90 f90) (Int32.toNatClampNeg t1) t2) A L P := Sh_sI (rfl : sI G (A a90 f90) (Int32.toNatClampNeg t1) t2 = sI G (A a90 f90) (Int32.toNatClampNeg t1) t2) hS hA90 (okT_0 rfl)
  have h := h (pl (sI G (A a90 f90) (Int32.toNatClampNeg t1) t2) A L P) (pl_sI (rfl : sI G (A a90 f90) (Int32.toNatClampNeg t1) t2 = sI G (A a90 f90) (Int32.toNatClampNeg t1) t2) hS hA90)
  have hx2 : Xt (pl G A L P) A (pl (sI G (A a90 f90) (Int32.toNatClampNeg t1) t2) A L P) A := Xt_sI (rfl : sI G (A a90 f90) (Int32.toNatClampNeg t1) t2 = sI G (A a90 f90) (Int32.toNatClampNeg t1) t2) hx
  exact wp.mono (h (sI G (A a90 f90) (Int32.toNatClampNeg t1) t2) A ⟨L, P, rfl, hS2⟩) (fun r G' q => qx_trans hx2 q)
theorem w_X12_tree_0 {E : EE} {d : Nat} {V : VH} {K : VH → Prop} {x1 : Int32}  (h0 : 0 < d) (h : ((vI V 6 0 45) = 0 → (¬ (vI V 6 0 41) = 33 → ((vI V 6 0 41) = 46 → vwp E d M_X12_tree 132 [some (sl 6 0), some (wi x1), some (wi (vI V 6 0 43)), none] [] V (zv K)) ∧ (¬ ((vI V 6 0 41) = 46) → (¬ (vI V 6 0 41) = 60 → (¬ (vI V 6 0 41) = 1 → vMV E (d - 1) M_X12_failHere [sl 6 0] V (fun V1 => K V1)) ∧ ((vI V 6 0 41) = 1 → vMI E (d - 1) M_X12_meaning [sl 6 0, wi x1] V (fun r3 V3 => (r3 < 100 → vwp E d M_X12_tree 213 [some (sl 6 0), some (wi x1), some (wi (vI V 6 0 43)), some (wi r3)] [] V3 (zv K)) ∧ (¬ (r3 < 100) → (200 ≤ r3 → vwp E d M_X12_tree 213 [some (sl 6 0), some (wi x1), some (wi (vI V 6 0 43)), some (wi r3)] [] V3 (zv K)) ∧ (¬ (200 ≤ r3) → vp_in (r3 - 100) 12 ∧ (((vI V3 6 55 (Int32.toNatClampNeg (r3 - 100))) < 0 → vMV E (d - 1) M_X12_next [sl 6 0] V3 (fun V6 => vMV E (d - 1) M_X12_trees [sl 6 0, wi x1, wi (r3 - 100)] V6 (fun V8 => K V8))) ∧ (¬ ((vI V3 6 55 (Int32.toNatClampNeg (r3 - 100))) < 0) → vwp E d M_X12_tree 213 [some (sl 6 0), some (wi x1), some (wi (vI V 6 0 43)), some (wi r3)] [] V3 (zv K)))))))) ∧ ((vI V 6 0 41) = 60 → vwp E d M_X12_tree 132 [some (sl 6 0), some (wi x1), some (wi (vI V 6 0 43)), none] [] V (zv K)))) ∧ ((vI V 6 0 41) = 33 → vMV E (d - 1) M_X12_next [sl 6 0] V (fun V10 => ((vI V10 6 0 41) = 1 → vMI E (d - 1) M_X12_meaning [sl 6 0, wi x1] V10 (fun r12 V12 => (r12 < 200 → vwp E d M_X12_tree 77 [some (sl 6 0), some (wi x1), some (wi (vI V 6 0 43)), some (wi r12)] [] V12 (zv K)) ∧ (¬ (r12 < 200) → (300 ≤ r12 → vwp E d M_X12_tree 77 [some (sl 6 0), some (wi x1), some (wi (vI V 6 0 43)), some (wi r12)] [] V12 (zv K)) ∧ (¬ (300 ≤ r12) → vp_in (((24 * x1) + r12) - 200) 120 ∧ (((vI V12 6 24 (Int32.toNatClampNeg (((24 * x1) + r12) - 200))) = 0 → vMI E (d - 1) M_X12_breaksAlways [sl 6 0, wi x1, wi (r12 - 200)] V12 (fun r15 V15 => (¬ r15 = 0 → vwp E d M_X12_tree 107 [some (sl 6 0), some (wi x1), some (wi (vI V 6 0 43)), some (wi r12)] [] V15 (zv K)) ∧ (r15 = 0 → vMV E (d - 1) M_X12_fail [sl 6 0, wi 8, wi (vI V 6 0 43)] V15 (fun V17 => vwp E d M_X12_tree 107 [some (sl 6 0), some (wi x1), some (wi (vI V 6 0 43)), some (wi r12)] [] V17 (zv K))))) ∧ (¬ ((vI V12 6 24 (Int32.toNatClampNeg (((24 * x1) + r12) - 200))) = 0) → vwp E d M_X12_tree 77 [some (sl 6 0), some (wi x1), some (wi (vI V 6 0 43)), some (wi r12)] [] V12 (zv K))))))) ∧ (¬ ((vI V10 6 0 41) = 1) → vMV E (d - 1) M_X12_failHere [sl 6 0] V10 (fun V19 => K V19))))) ∧ (¬ ((vI V 6 0 45) = 0) → K V)) : vMV E d M_X12_tree [sl 6 0, wi x1] V K := by
  intro G A hR
  obtain ⟨L, P, rfl, hS⟩ := hR
  have hx := Xt.refl (V := pl G A L P) (A := A)
  show wpM E d M_X12_tree [vr (A 6 0), vi x1] G _
  refine wpM_of mk_X12_tree (Nat.le_of_ble_eq_true rfl) ?_
  refine v_X12_tree_0 h0 ?_
  refine ⟨hS.o (s6_0 hS), ?_⟩
  refine ⟨fun hc => ?_, fun hc => ?_⟩
  · have h := h.1 hc
    refine ⟨fun hc => ?_, fun hc => ?_⟩
    · have h := h.1 hc
      refine ⟨fun hc => ?_, fun hc => ?_⟩
      · have h := h.1 hc
        exact wp.mono (h G A ⟨L, P, rfl, hS⟩) (fun r G' q => qx_trans hx q)
      · have h := h.2 hc
        refine ⟨fun hc => ?_, fun hc => ?_⟩
        · have h := h.1 hc
          refine ⟨fun hc => ?_, fun hc => ?_⟩
          · have h := h.1 hc
            refine wpM.mono (h G A ⟨L, P, rfl, hS⟩) (fun rr1 G1 hr => ?_)
            obtain ⟨A1, W1, w1, ⟨L1, P1, rfl, hS1⟩, hy1, rfl, rfl, h⟩ := hr
            refine ⟨rfl, ?_⟩
            have hx1 := Xt.trans hx hy1
            have ee2 : A1 6 0 = A 6 0 := hy1.2 _ _ hS.1.2.1 (((n6_0 hS1)).trans ((n6_0 hS)).symm)
            try rw [← ee2]
            try rw [show gI G (A1 6 0) = gI G (A 6 0) from by rw [ee2]]
            exact qx_v hS1 hx1 h
          · have h := h.2 hc
            refine wpM.mono (h G A ⟨L, P, rfl, hS⟩) (fun rr3 G3 hr => ?_)
            obtain ⟨A3, W3, w3, ⟨L3, P3, rfl, hS3⟩, hy3, rfl, r3, rfl, h⟩ := hr
            refine ⟨r3, rfl, ?_⟩
            have hx3 := Xt.trans hx hy3
            have ee4 : A3 6 0 = A 6 0 := hy3.2 _ _ hS.1.2.1 (((n6_0 hS3)).trans ((n6_0 hS)).symm)
            try rw [← ee4]
            try rw [show gI G (A3 6 0) = gI G (A 6 0) from by rw [ee4]]
            refine ⟨fun hc => ?_, fun hc => ?_⟩
            · have h := h.1 hc
              exact wp.mono (h G3 A3 ⟨L3, P3, rfl, hS3⟩) (fun r G' q => qx_trans hx3 q)
            · have h := h.2 hc
              refine ⟨fun hc => ?_, fun hc => ?_⟩
              · have h := h.1 hc
                exact wp.mono (h G3 A3 ⟨L3, P3, rfl, hS3⟩) (fun r G' q => qx_trans hx3 q)
              · have h := h.2 hc
                refine ⟨hS3.o (s6_0 hS3), ?_⟩
                rw [l6_0_83 hS3]
                refine ⟨hS3.o (s6_55 hS3), ?_⟩
                obtain ⟨hi5, h⟩ := h
                refine ⟨by first | (rw [(n6_55 hS3)]; exact hi5) | exact (congrArg (vp_in _) (n6_55 hS3)).mpr hi5 | exact hi5, ?_⟩
                refine ⟨fun hc => ?_, fun hc => ?_⟩
                · have h := h.1 hc
                  refine wpM.mono (h G3 A3 ⟨L3, P3, rfl, hS3⟩) (fun rr6 G6 hr => ?_)
                  obtain ⟨A6, W6, w6, ⟨L6, P6, rfl, hS6⟩, hy6, rfl, rfl, h⟩ := hr
                  refine ⟨rfl, ?_⟩
                  have hx6 := Xt.trans hx3 hy6
                  have ee7 : A6 6 0 = A3 6 0 := hy6.2 _ _ hS3.1.2.1 (((n6_0 hS6)).trans ((n6_0 hS3)).symm)
                  try rw [← ee7]
                  refine ⟨hS6.o (s6_0 hS6), ?_⟩
                  refine wpM.mono (h G6 A6 ⟨L6, P6, rfl, hS6⟩) (fun rr8 G8 hr => ?_)
                  obtain ⟨A8, W8, w8, ⟨L8, P8, rfl, hS8⟩, hy8, rfl, rfl, h⟩ := hr
                  refine ⟨rfl, ?_⟩
                  have hx8 := Xt.trans hx6 hy8
                  have ee9 : A8 6 0 = A6 6 0 := hy8.2 _ _ hS6.1.2.1 (((n6_0 hS8)).trans ((n6_0 hS6)).symm)
                  try rw [← ee9]
                  exact qx_v hS8 hx8 h
                · have h := h.2 hc
                  exact wp.mono (h G3 A3 ⟨L3, P3, rfl, hS3⟩) (fun r G' q => qx_trans hx3 q)
        · have h := h.2 hc
          exact wp.mono (h G A ⟨L, P, rfl, hS⟩) (fun r G' q => qx_trans hx q)
    · have h := h.2 hc
      refine wpM.mono (h G A ⟨L, P, rfl, hS⟩) (fun rr10 G10 hr => ?_)
      obtain ⟨A10, W10, w10, ⟨L10, P10, rfl, hS10⟩, hy10, rfl, rfl, h⟩ := hr
      refine ⟨rfl, ?_⟩
      have hx10 := Xt.trans hx hy10
      have ee11 : A10 6 0 = A 6 0 := hy10.2 _ _ hS.1.2.1 (((n6_0 hS10)).trans ((n6_0 hS)).symm)
      try rw [← ee11]
      try rw [show gI G (A10 6 0) = gI G (A 6 0) from by rw [ee11]]
      refine ⟨hS10.o (s6_0 hS10), ?_⟩
      refine ⟨fun hc => ?_, fun hc => ?_⟩
      · have h := h.1 hc
        refine wpM.mono (h G10 A10 ⟨L10, P10, rfl, hS10⟩) (fun rr12 G12 hr => ?_)
        obtain ⟨A12, W12, w12, ⟨L12, P12, rfl, hS12⟩, hy12, rfl, r12, rfl, h⟩ := hr
        refine ⟨r12, rfl, ?_⟩
        have hx12 := Xt.trans hx10 hy12
        have ee13 : A12 6 0 = A10 6 0 := hy12.2 _ _ hS10.1.2.1 (((n6_0 hS12)).trans ((n6_0 hS10)).symm)
        try rw [← ee13]
        refine ⟨fun hc => ?_, fun hc => ?_⟩
        · have h := h.1 hc
          exact wp.mono (h G12 A12 ⟨L12, P12, rfl, hS12⟩) (fun r G' q => qx_trans hx12 q)
        · have h := h.2 hc
          refine ⟨fun hc => ?_, fun hc => ?_⟩
          · have h := h.1 hc
            exact wp.mono (h G12 A12 ⟨L12, P12, rfl, hS12⟩) (fun r G' q => qx_trans hx12 q)
          · have h := h.2 hc
            refine ⟨hS12.o (s6_0 hS12), ?_⟩
            rw [l6_0_27 hS12]
            refine ⟨hS12.o (s6_24 hS12), ?_⟩
            obtain ⟨hi14, h⟩ := h
            refine ⟨by first | (rw [(n6_24 hS12)]; exact hi14) | exact (congrArg (vp_in _) (n6_24 hS12)).mpr hi14 | exact hi14, ?_⟩
            refine ⟨fun hc => ?_, fun hc => ?_⟩
            · have h := h.1 hc
              refine wpM.mono (h G12 A12 ⟨L12, P12, rfl, hS12⟩) (fun rr15 G15 hr => ?_)
              obtain ⟨A15, W15, w15, ⟨L15, P15, rfl, hS15⟩, hy15, rfl, r15, rfl, h⟩ := hr
              refine ⟨r15, rfl, ?_⟩
              have hx15 := Xt.trans hx12 hy15
              have ee16 : A15 6 0 = A12 6 0 := hy15.2 _ _ hS12.1.2.1 (((n6_0 hS15)).trans ((n6_0 hS12)).symm)
              try rw [← ee16]
              refine ⟨fun hc => ?_, fun hc => ?_⟩
              · have h := h.1 hc
                exact wp.mono (h G15 A15 ⟨L15, P15, rfl, hS15⟩) (fun r G' q => qx_trans hx15 q)
              · have h := h.2 hc
                refine ⟨hS15.o (s6_0 hS15), ?_⟩
                refine wpM.mono (h G15 A15 ⟨L15, P15, rfl, hS15⟩) (fun rr17 G17 hr => ?_)
                obtain ⟨A17, W17, w17, ⟨L17, P17, rfl, hS17⟩, hy17, rfl, rfl, h⟩ := hr
                refine ⟨rfl, ?_⟩
                have hx17 := Xt.trans hx15 hy17
                have ee18 : A17 6 0 = A15 6 0 := hy17.2 _ _ hS15.1.2.1 (((n6_0 hS17)).trans ((n6_0 hS15)).symm)
                try rw [← ee18]
                exact wp.mono (h G17 A17 ⟨L17, P17, rfl, hS17⟩) (fun r G' q => qx_trans hx17 q)
            · have h := h.2 hc
              exact wp.mono (h G12 A12 ⟨L12, P12, rfl, hS12⟩) (fun r G' q => qx_trans hx12 q)
      · have h := h.2 hc
        refine wpM.mono (h G10 A10 ⟨L10, P10, rfl, hS10⟩) (fun rr19 G19 hr => ?_)
        obtain ⟨A19, W19, w19, ⟨L19, P19, rfl, hS19⟩, hy19, rfl, rfl, h⟩ := hr
        refine ⟨rfl, ?_⟩
        have hx19 := Xt.trans hx10 hy19
        have ee20 : A19 6 0 = A10 6 0 := hy19.2 _ _ hS10.1.2.1 (((n6_0 hS19)).trans ((n6_0 hS10)).symm)
        try rw [← ee20]
        exact qx_v hS19 hx19 h
  · have h := h.2 hc
    exact qx_v hS hx h
theorem w_X12_tree_77 {E : EE} {d : Nat} {V : VH} {K : VH → Prop} {x1 : Int32} {x2 : Int32} {x3 : Int32}  (h0 : 0 < d) (h : vMV E (d - 1) M_X12_fail [sl 6 0, wi 4, wi (vI V 6 0 43)] V (fun V1 => K V1)) : vwp E d M_X12_tree 77 [some (sl 6 0), some (wi x1), some (wi x2), some (wi x3)] [] V (zv K) := by
  intro G A hR
  obtain ⟨L, P, rfl, hS⟩ := hR
  have hx := Xt.refl (V := pl G A L P) (A := A)
  show wp E d M_X12_tree 77 [some (vr (A 6 0)), some (vi x1), some (vi x2), some (vi x3)] [] G _
  refine v_X12_tree_77 h0 ?_
  refine ⟨hS.o (s6_0 hS), ?_⟩
  refine wpM.mono (h G A ⟨L, P, rfl, hS⟩) (fun rr1 G1 hr => ?_)
  obtain ⟨A1, W1, w1, ⟨L1, P1, rfl, hS1⟩, hy1, rfl, rfl, h⟩ := hr
  refine ⟨rfl, ?_⟩
  have hx1 := Xt.trans hx hy1
  have ee2 : A1 6 0 = A 6 0 := hy1.2 _ _ hS.1.2.1 (((n6_0 hS1)).trans ((n6_0 hS)).symm)
  try rw [← ee2]
  exact qx_v hS1 hx1 h
theorem w_X12_tree_107 {E : EE} {d : Nat} {V : VH} {K : VH → Prop} {x1 : Int32} {x2 : Int32} {x3 : Int32}  (h0 : 0 < d) (h : vMV E (d - 1) M_X12_next [sl 6 0] V (fun V1 => K V1)) : vwp E d M_X12_tree 107 [some (sl 6 0), some (wi x1), some (wi x2), some (wi x3)] [] V (zv K) := by
  intro G A hR
  obtain ⟨L, P, rfl, hS⟩ := hR
  have hx := Xt.refl (V := pl G A L P) (A := A)
  show wp E d M_X12_tree 107 [some (vr (A 6 0)), some (vi x1), some (vi x2), some (vi x3)] [] G _
  refine v_X12_tree_107 h0 ?_
  refine ⟨hS.o (s6_0 hS), ?_⟩
  refine wpM.mono (h G A ⟨L, P, rfl, hS⟩) (fun rr1 G1 hr => ?_)
  obtain ⟨A1, W1, w1, ⟨L1, P1, rfl, hS1⟩, hy1, rfl, rfl, h⟩ := hr
  refine ⟨rfl, ?_⟩
  have hx1 := Xt.trans hx hy1
  have ee2 : A1 6 0 = A 6 0 := hy1.2 _ _ hS.1.2.1 (((n6_0 hS1)).trans ((n6_0 hS)).symm)
  try rw [← ee2]
  exact qx_v hS1 hx1 h
