/-! regions over the view (by program): X5_read X5_isWhole X5_factStatement X5_newName X5_numeral X5_varStatement X5_valuesInBraces X5_valuesFromTo X5_ruleStatement X5_test X5_either X5_both X5_unit X5_enter X5_leave X5_lists X5_groups X5_variable X5_names X5_numerals X5_sum X5_term X5_factor X5_namedFactor X5_extreme X5_comparison X5_aimStatement X11_bring X11_take X11_crash X11_byteAt X11_size X11_rows X11_load X11_freeNumber X11_save X11_known X11_below X11_above X11_prove X11_scored X11_check X11_searched X11_search X11_regret X11_isLevel X11_expected X11_show X11_robust X11_unfold X11_told X11_future X11_because X11_whyNot X11_without X11_relax X11_fewest X11_clash X11_near X11_frontPlan X11_frontAt X11_front X11_mend X11_choices X11_has X11_feasibleAt X11_feasibles X11_bestAt X11_bests X11_best X11_solve X11_hopeless X11_isLeft X11_reach X11_feasible X11_score -/
theorem w_X5_read_149 {E : EE} {d : Nat} {V : VH} {K : Int32 → VH → Prop} {g : Nat} {x2 : Int32} {x3 : Int32} (hg : PG (vL V) g) (h : (¬ x3 = 0 → vwp E d M_X5_read 35 [some (sl 0 7), some (sl g 0), some (wi (x2 + 1)), none] [] V (zi K)) ∧ (x3 = 0 → K 0 V)) : vwp E d M_X5_read 149 [some (sl 0 7), some (sl g 0), some (wi x2), some (wi x3)] [] V (zi K) := by
  intro G A hR
  obtain ⟨L, P, rfl, hS⟩ := hR
  have hx := Xt.refl (V := pl G A L P) (A := A)
  show wp E d M_X5_read 149 [some (vr (A 0 7)), some (vr (A g 0)), some (vi x2), some (vi x3)] [] G _
  refine v_X5_read_149 ?_
  refine ⟨fun hc => ?_, fun hc => ?_⟩
  · have h := h.1 hc
    exact wp.mono (h G A ⟨L, P, rfl, hS⟩) (fun r G' q => qx_trans hx q)
  · have h := h.2 hc
    exact qx_i hS hx h
theorem w_X5_isWhole_0 {E : EE} {d : Nat} {V : VH} {K : Int32 → VH → Prop}   (h : PG (vL V) (vP V) ∧ (((vI V (vP V) 5 0) ≤ 0 → vwp E d M_X5_isWhole 44 [some (sl 0 7), some (wj ((Int32.toInt64 (vI V (vP V) 5 1)) * (Int32.toInt64 (vI V 0 2 5)))), none] [] V (zi K)) ∧ (¬ ((vI V (vP V) 5 0) ≤ 0) → (20000000 < ((Int32.toInt64 (vI V (vP V) 5 1)) * (Int32.toInt64 (vI V 0 2 5))) → vwp E d M_X5_isWhole 44 [some (sl 0 7), some (wj ((Int32.toInt64 (vI V (vP V) 5 1)) * (Int32.toInt64 (vI V 0 2 5)))), none] [] V (zi K)) ∧ (¬ (20000000 < ((Int32.toInt64 (vI V (vP V) 5 1)) * (Int32.toInt64 (vI V 0 2 5)))) → K 1 V)))) : vMI E d M_X5_isWhole [sl 0 7] V K := by
  intro G A hR
  obtain ⟨L, P, rfl, hS⟩ := hR
  have hx := Xt.refl (V := pl G A L P) (A := A)
  show wpM E d M_X5_isWhole [vr (A 0 7)] G _
  refine wpM_of mk_X5_isWhole (Nat.le_of_ble_eq_true rfl) ?_
  refine v_X5_isWhole_0 ?_
  refine ⟨hS.o (s0_7 hS), ?_⟩
  rw [l0_7_1 hS]
  obtain ⟨hg1, h⟩ := h
  have hg1 : PG L (P).1 := hg1
  refine ⟨hS.o (sP_0 hg1), ?_⟩
  rw [lP_0_4 hS hg1]
  refine ⟨hS.o (sP_5 hg1), ?_⟩
  rw [l0_7_0 hS]
  refine ⟨hS.o (s0_2 hS), ?_⟩
  refine ⟨fun hc => ?_, fun hc => ?_⟩
  · have h := h.1 hc
    exact wp.mono (h G A ⟨L, P, rfl, hS⟩) (fun r G' q => qx_trans hx q)
  · have h := h.2 hc
    refine ⟨fun hc => ?_, fun hc => ?_⟩
    · have h := h.1 hc
      exact wp.mono (h G A ⟨L, P, rfl, hS⟩) (fun r G' q => qx_trans hx q)
    · have h := h.2 hc
      exact qx_i hS hx h
theorem w_X5_isWhole_44 {E : EE} {d : Nat} {V : VH} {K : Int32 → VH → Prop} {x1 : Int64}  (h0 : 0 < d) (h : vMI E (d - 1) M_X10_fail [sl 0 2, wi 6, wi (vI V 0 2 8)] V (fun r1 V1 => bz r1 ∧ K r1 V1)) : vwp E d M_X5_isWhole 44 [some (sl 0 7), some (wj x1), none] [] V (zi K) := by
  intro G A hR
  obtain ⟨L, P, rfl, hS⟩ := hR
  have hx := Xt.refl (V := pl G A L P) (A := A)
  show wp E d M_X5_isWhole 44 [some (vr (A 0 7)), some (vj x1), none] [] G _
  refine v_X5_isWhole_44 h0 ?_
  refine ⟨hS.o (s0_7 hS), ?_⟩
  rw [l0_7_0 hS]
  refine ⟨hS.o (s0_2 hS), ?_⟩
  refine wpM.mono (h G A ⟨L, P, rfl, hS⟩) (fun rr1 G1 hr => ?_)
  obtain ⟨A1, W1, w1, ⟨L1, P1, rfl, hS1⟩, hy1, rfl, r1, rfl, h⟩ := hr
  refine ⟨r1, rfl, ?_⟩
  have hx1 := Xt.trans hx hy1
  have ee2 : A1 0 7 = A 0 7 := hy1.2 _ _ hS.1.1 (((n0_7 hS1)).trans ((n0_7 hS)).symm)
  try rw [← ee2]
  exact ⟨bz_ok h.1, qx_i hS1 hx1 h.2⟩
theorem w_X5_factStatement_0 {E : EE} {d : Nat} {V : VH} {K : Int32 → VH → Prop}   (h0 : 0 < d) (h : vMI E (d - 1) M_X5_newName [sl 0 7, wi 0, wi 16] V (fun r1 V1 => (r1 = 0 → K 0 V1) ∧ (¬ (r1 = 0) → vMI E (d - 1) M_X10_accept [sl 0 2, wi 61] V1 (fun r3 V3 => (¬ r3 = 0 → vMI E (d - 1) M_X5_numeral [sl 0 7, wi 1, wi 0, wi 9999] V3 (fun r5 V5 => (r5 = 0 → K 0 V5) ∧ (¬ (r5 = 0) → vMI E (d - 1) M_X10_accept [sl 0 2, wi 59] V5 (fun r7 V7 => (¬ r7 = 0 → PG (vL V7) (vP V7) ∧ (vp_in (vI V7 (vP V7) 4 (Int32.toNatClampNeg 0)) 16 ∧ (∀ V12 : VH, V12 = wrI V7 (vP V7) 23 (Int32.toNatClampNeg (vI V7 (vP V7) 4 (Int32.toNatClampNeg 0))) (vI V7 0 7 5) → vMV E (d - 1) M_X3_tell [sl (vP V12) 0, wi 0, wj (vJ V12 0 7 3)] V12 (fun V13 => K 1 V13)))) ∧ (r7 = 0 → K 0 V7))))) ∧ (r3 = 0 → K 0 V3))))) : vMI E d M_X5_factStatement [sl 0 7] V K := by
  intro G A hR
  obtain ⟨L, P, rfl, hS⟩ := hR
  have hx := Xt.refl (V := pl G A L P) (A := A)
  show wpM E d M_X5_factStatement [vr (A 0 7)] G _
  refine wpM_of mk_X5_factStatement (Nat.le_of_ble_eq_true rfl) ?_
  refine v_X5_factStatement_0 h0 ?_
  refine ⟨hS.o (s0_7 hS), ?_⟩
  refine wpM.mono (h G A ⟨L, P, rfl, hS⟩) (fun rr1 G1 hr => ?_)
  obtain ⟨A1, W1, w1, ⟨L1, P1, rfl, hS1⟩, hy1, rfl, r1, rfl, h⟩ := hr
  refine ⟨r1, rfl, ?_⟩
  have hx1 := Xt.trans hx hy1
  have ee2 : A1 0 7 = A 0 7 := hy1.2 _ _ hS.1.1 (((n0_7 hS1)).trans ((n0_7 hS)).symm)
  try rw [← ee2]
  refine ⟨fun hc => ?_, fun hc => ?_⟩
  · have h := h.1 hc
    exact qx_i hS1 hx1 h
  · have h := h.2 hc
    refine ⟨hS1.o (s0_7 hS1), ?_⟩
    rw [l0_7_0 hS1]
    refine ⟨hS1.o (s0_2 hS1), ?_⟩
    refine wpM.mono (h G1 A1 ⟨L1, P1, rfl, hS1⟩) (fun rr3 G3 hr => ?_)
    obtain ⟨A3, W3, w3, ⟨L3, P3, rfl, hS3⟩, hy3, rfl, r3, rfl, h⟩ := hr
    refine ⟨r3, rfl, ?_⟩
    have hx3 := Xt.trans hx1 hy3
    have ee4 : A3 0 7 = A1 0 7 := hy3.2 _ _ hS1.1.1 (((n0_7 hS3)).trans ((n0_7 hS1)).symm)
    try rw [← ee4]
    refine ⟨fun hc => ?_, fun hc => ?_⟩
    · have h := h.1 hc
      refine ⟨hS3.o (s0_7 hS3), ?_⟩
      refine wpM.mono (h G3 A3 ⟨L3, P3, rfl, hS3⟩) (fun rr5 G5 hr => ?_)
      obtain ⟨A5, W5, w5, ⟨L5, P5, rfl, hS5⟩, hy5, rfl, r5, rfl, h⟩ := hr
      refine ⟨r5, rfl, ?_⟩
      have hx5 := Xt.trans hx3 hy5
      have ee6 : A5 0 7 = A3 0 7 := hy5.2 _ _ hS3.1.1 (((n0_7 hS5)).trans ((n0_7 hS3)).symm)
      try rw [← ee6]
      refine ⟨fun hc => ?_, fun hc => ?_⟩
      · have h := h.1 hc
        exact qx_i hS5 hx5 h
      · have h := h.2 hc
        refine ⟨hS5.o (s0_7 hS5), ?_⟩
        rw [l0_7_0 hS5]
        refine ⟨hS5.o (s0_2 hS5), ?_⟩
        refine wpM.mono (h G5 A5 ⟨L5, P5, rfl, hS5⟩) (fun rr7 G7 hr => ?_)
        obtain ⟨A7, W7, w7, ⟨L7, P7, rfl, hS7⟩, hy7, rfl, r7, rfl, h⟩ := hr
        refine ⟨r7, rfl, ?_⟩
        have hx7 := Xt.trans hx5 hy7
        have ee8 : A7 0 7 = A5 0 7 := hy7.2 _ _ hS5.1.1 (((n0_7 hS7)).trans ((n0_7 hS5)).symm)
        try rw [← ee8]
        refine ⟨fun hc => ?_, fun hc => ?_⟩
        · have h := h.1 hc
          refine ⟨hS7.o (s0_7 hS7), ?_⟩
          rw [l0_7_1 hS7]
          obtain ⟨hg9, h⟩ := h
          have hg9 : PG L7 (P7).1 := hg9
          refine ⟨hS7.o (sP_0 hg9), ?_⟩
          rw [lP_0_7 hS7 hg9]
          rw [lP_0_3 hS7 hg9]
          refine ⟨hS7.o (sP_4 hg9), ?_⟩
          refine ⟨by first | (rw [(nP_4 hS7 hg9)]; unfold vp_in; decide) | exact (congrArg (vp_in _) (nP_4 hS7 hg9)).mpr (by unfold vp_in; decide) | (unfold vp_in; decide), ?_⟩
          refine ⟨hS7.o (sP_23 hg9), ?_⟩
          obtain ⟨hi11, h⟩ := h
          refine ⟨by first | (rw [(nP_23 hS7 hg9)]; exact hi11) | exact (congrArg (vp_in _) (nP_23 hS7 hg9)).mpr hi11 | exact hi11, ?_⟩
          have hS12 : Sh E (sI G7 (A7 (P7).1 23) (Int32.toNatClampNeg (gI G7 (A7 (P7).1 4) (Int32.toNatClampNeg 0))) (gI G7 (A7 0 7) 5)) A7 L7 P7 := Sh_sI (rfl : sI G7 (A7 (P7).1 23) (Int32.toNatClampNeg (gI G7 (A7 (P7).1 4) (Int32.toNatClampNeg 0))) (gI G7 (A7 0 7) 5) = sI G7 (A7 (P7).1 23) (Int32.toNatClampNeg (gI G7 (A7 (P7).1 4) (Int32.toNatClampNeg 0))) (gI G7 (A7 0 7) 5)) hS7 (sP_23 hg9) (okT_0 rfl)
          have h := h (pl (sI G7 (A7 (P7).1 23) (Int32.toNatClampNeg (gI G7 (A7 (P7).1 4) (Int32.toNatClampNeg 0))) (gI G7 (A7 0 7) 5)) A7 L7 P7) (pl_sI (rfl : sI G7 (A7 (P7).1 23) (Int32.toNatClampNeg (gI G7 (A7 (P7).1 4) (Int32.toNatClampNeg 0))) (gI G7 (A7 0 7) 5) = sI G7 (A7 (P7).1 23) (Int32.toNatClampNeg (gI G7 (A7 (P7).1 4) (Int32.toNatClampNeg 0))) (gI G7 (A7 0 7) 5)) hS7 (sP_23 hg9))
          have hx12 : Xt (pl G A L P) A (pl (sI G7 (A7 (P7).1 23) (Int32.toNatClampNeg (gI G7 (A7 (P7).1 4) (Int32.toNatClampNeg 0))) (gI G7 (A7 0 7) 5)) A7 L7 P7) A7 := Xt_sI (rfl : sI G7 (A7 (P7).1 23) (Int32.toNatClampNeg (gI G7 (A7 (P7).1 4) (Int32.toNatClampNeg 0))) (gI G7 (A7 0 7) 5) = sI G7 (A7 (P7).1 23) (Int32.toNatClampNeg (gI G7 (A7 (P7).1 4) (Int32.toNatClampNeg 0))) (gI G7 (A7 0 7) 5)) hx7
          refine wpM.mono (h (sI G7 (A7 (P7).1 23) (Int32.toNatClampNeg (gI G7 (A7 (P7).1 4) (Int32.toNatClampNeg 0))) (gI G7 (A7 0 7) 5)) A7 ⟨L7, P7, rfl, hS12⟩) (fun rr13 G13 hr => ?_)
          obtain ⟨A13, W13, w13, ⟨L13, P13, rfl, hS13⟩, hy13, rfl, rfl, h⟩ := hr
          refine ⟨rfl, ?_⟩
          have hx13 := Xt.trans hx12 hy13
          have hg14 : PG L13 (P7).1 := PG.up hy13 hg9
          have ee15 : A13 0 7 = A7 0 7 := hy13.2 _ _ hS12.1.1 (((n0_7 hS13)).trans ((n0_7 hS12)).symm)
          try rw [← ee15]
          exact qx_i hS13 hx13 h
        · have h := h.2 hc
          exact qx_i hS7 hx7 h
    · have h := h.2 hc
      exact qx_i hS3 hx3 h
theorem w_X5_newName_0 {E : EE} {d : Nat} {V : VH} {K : Int32 → VH → Prop} {x1 : Int32} {x2 : Int32}  (h0 : 0 < d) (h : vMV E (d - 1) M_X10_step [sl 0 2] V (fun V1 => ((vI V1 0 2 6) = 2 → ∀ V3 : VH, V3 = wrJ V1 0 7 3 (vJ V1 0 2 7) → ∀ V4 : VH, V4 = wrI V3 0 7 4 (vI V3 0 2 8) → PG (vL V4) (vP V4) ∧ (vMI E (d - 1) M_X3_lookUp [sl (vP V4) 0, wj (vJ V4 0 7 3)] V4 (fun r6 V6 => (r6 < 0 → PG (vL V6) (vP V6) ∧ (vp_in x1 4 ∧ (((vI V6 (vP V6) 4 (Int32.toNatClampNeg x1)) < x2 → vMV E (d - 1) M_X10_step [sl 0 2] V6 (fun V11 => K 1 V11)) ∧ (¬ ((vI V6 (vP V6) 4 (Int32.toNatClampNeg x1)) < x2) → vMI E (d - 1) M_X10_fail [sl 0 2, wi 6, wi (vI V6 0 7 4)] V6 (fun r15 V15 => bz r15 ∧ K r15 V15))))) ∧ (¬ (r6 < 0) → vMI E (d - 1) M_X10_fail [sl 0 2, wi 3, wi (vI V6 0 7 4)] V6 (fun r19 V19 => bz r19 ∧ K r19 V19))))) ∧ (¬ ((vI V1 0 2 6) = 2) → vMI E (d - 1) M_X10_refuse [sl 0 2] V1 (fun r22 V22 => bz r22 ∧ K r22 V22)))) : vMI E d M_X5_newName [sl 0 7, wi x1, wi x2] V K := by
  intro G A hR
  obtain ⟨L, P, rfl, hS⟩ := hR
  have hx := Xt.refl (V := pl G A L P) (A := A)
  show wpM E d M_X5_newName [vr (A 0 7), vi x1, vi x2] G _
  refine wpM_of mk_X5_newName (Nat.le_of_ble_eq_true rfl) ?_
  refine v_X5_newName_0 h0 ?_
  refine ⟨hS.o (s0_7 hS), ?_⟩
  rw [l0_7_0 hS]
  refine ⟨hS.o (s0_2 hS), ?_⟩
  refine wpM.mono (h G A ⟨L, P, rfl, hS⟩) (fun rr1 G1 hr => ?_)
  obtain ⟨A1, W1, w1, ⟨L1, P1, rfl, hS1⟩, hy1, rfl, rfl, h⟩ := hr
  refine ⟨rfl, ?_⟩
  have hx1 := Xt.trans hx hy1
  have ee2 : A1 0 7 = A 0 7 := hy1.2 _ _ hS.1.1 (((n0_7 hS1)).trans ((n0_7 hS)).symm)
  try rw [← ee2]
  refine ⟨hS1.o (s0_7 hS1), ?_⟩
  rw [l0_7_0 hS1]
  refine ⟨hS1.o (s0_2 hS1), ?_⟩
  refine ⟨fun hc => ?_, fun hc => ?_⟩
  · have h := h.1 hc
    intro G3 eG3
    have hS3 : Sh E G3 A1 L1 P1 := Sh_sJ eG3 hS1
    have h := h (pl G3 A1 L1 P1) (pl_sJ eG3 hS1 (s0_7 hS1))
    have hx3 : Xt (pl G A L P) A (pl G3 A1 L1 P1) A1 := Xt_sJ eG3 hx1
    rw [l0_7_0 hS3]
    refine ⟨hS3.o (s0_2 hS3), ?_⟩
    intro G4 eG4
    have hS4 : Sh E G4 A1 L1 P1 := Sh_sI eG4 hS3 (s0_7 hS3) (okT_0 rfl)
    have h := h (pl G4 A1 L1 P1) (pl_sI eG4 hS3 (s0_7 hS3))
    have hx4 : Xt (pl G A L P) A (pl G4 A1 L1 P1) A1 := Xt_sI eG4 hx3
    rw [l0_7_1 hS4]
    obtain ⟨hg5, h⟩ := h
    have hg5 : PG L1 (P1).1 := hg5
    refine ⟨hS4.o (sP_0 hg5), ?_⟩
    refine wpM.mono (h G4 A1 ⟨L1, P1, rfl, hS4⟩) (fun rr6 G6 hr => ?_)
    obtain ⟨A6, W6, w6, ⟨L6, P6, rfl, hS6⟩, hy6, rfl, r6, rfl, h⟩ := hr
    refine ⟨r6, rfl, ?_⟩
    have hx6 := Xt.trans hx4 hy6
    have hg7 : PG L6 (P1).1 := PG.up hy6 hg5
    have ee8 : A6 0 7 = A1 0 7 := hy6.2 _ _ hS4.1.1 (((n0_7 hS6)).trans ((n0_7 hS4)).symm)
    try rw [← ee8]
    refine ⟨fun hc => ?_, fun hc => ?_⟩
    · have h := h.1 hc
      refine ⟨hS6.o (s0_7 hS6), ?_⟩
      rw [l0_7_1 hS6]
      obtain ⟨hg9, h⟩ := h
      have hg9 : PG L6 (P6).1 := hg9
      refine ⟨hS6.o (sP_0 hg9), ?_⟩
      rw [lP_0_3 hS6 hg9]
      refine ⟨hS6.o (sP_4 hg9), ?_⟩
      obtain ⟨hi10, h⟩ := h
      refine ⟨by first | (rw [(nP_4 hS6 hg9)]; exact hi10) | exact (congrArg (vp_in _) (nP_4 hS6 hg9)).mpr hi10 | exact hi10, ?_⟩
      refine ⟨fun hc => ?_, fun hc => ?_⟩
      · have h := h.1 hc
        rw [l0_7_0 hS6]
        refine ⟨hS6.o (s0_2 hS6), ?_⟩
        refine wpM.mono (h G6 A6 ⟨L6, P6, rfl, hS6⟩) (fun rr11 G11 hr => ?_)
        obtain ⟨A11, W11, w11, ⟨L11, P11, rfl, hS11⟩, hy11, rfl, rfl, h⟩ := hr
        refine ⟨rfl, ?_⟩
        have hx11 := Xt.trans hx6 hy11
        have hg12 : PG L11 (P1).1 := PG.up hy11 hg7
        have hg13 : PG L11 (P6).1 := PG.up hy11 hg9
        have ee14 : A11 0 7 = A6 0 7 := hy11.2 _ _ hS6.1.1 (((n0_7 hS11)).trans ((n0_7 hS6)).symm)
        try rw [← ee14]
        exact qx_i hS11 hx11 h
      · have h := h.2 hc
        rw [l0_7_0 hS6]
        refine ⟨hS6.o (s0_2 hS6), ?_⟩
        refine wpM.mono (h G6 A6 ⟨L6, P6, rfl, hS6⟩) (fun rr15 G15 hr => ?_)
        obtain ⟨A15, W15, w15, ⟨L15, P15, rfl, hS15⟩, hy15, rfl, r15, rfl, h⟩ := hr
        refine ⟨r15, rfl, ?_⟩
        have hx15 := Xt.trans hx6 hy15
        have hg16 : PG L15 (P1).1 := PG.up hy15 hg7
        have hg17 : PG L15 (P6).1 := PG.up hy15 hg9
        have ee18 : A15 0 7 = A6 0 7 := hy15.2 _ _ hS6.1.1 (((n0_7 hS15)).trans ((n0_7 hS6)).symm)
        try rw [← ee18]
        exact ⟨bz_ok h.1, qx_i hS15 hx15 h.2⟩
    · have h := h.2 hc
      refine ⟨hS6.o (s0_7 hS6), ?_⟩
      rw [l0_7_0 hS6]
      refine ⟨hS6.o (s0_2 hS6), ?_⟩
      refine wpM.mono (h G6 A6 ⟨L6, P6, rfl, hS6⟩) (fun rr19 G19 hr => ?_)
      obtain ⟨A19, W19, w19, ⟨L19, P19, rfl, hS19⟩, hy19, rfl, r19, rfl, h⟩ := hr
      refine ⟨r19, rfl, ?_⟩
      have hx19 := Xt.trans hx6 hy19
      have hg20 : PG L19 (P1).1 := PG.up hy19 hg7
      have ee21 : A19 0 7 = A6 0 7 := hy19.2 _ _ hS6.1.1 (((n0_7 hS19)).trans ((n0_7 hS6)).symm)
      try rw [← ee21]
      exact ⟨bz_ok h.1, qx_i hS19 hx19 h.2⟩
  · have h := h.2 hc
    refine wpM.mono (h G1 A1 ⟨L1, P1, rfl, hS1⟩) (fun rr22 G22 hr => ?_)
    obtain ⟨A22, W22, w22, ⟨L22, P22, rfl, hS22⟩, hy22, rfl, r22, rfl, h⟩ := hr
    refine ⟨r22, rfl, ?_⟩
    have hx22 := Xt.trans hx1 hy22
    have ee23 : A22 0 7 = A1 0 7 := hy22.2 _ _ hS1.1.1 (((n0_7 hS22)).trans ((n0_7 hS1)).symm)
    try rw [← ee23]
    exact ⟨bz_ok h.1, qx_i hS22 hx22 h.2⟩
theorem w_X5_numeral_0 {E : EE} {d : Nat} {V : VH} {K : Int32 → VH → Prop} {x1 : Int32} {x2 : Int32} {x3 : Int32}  (h0 : 0 < d) (h : (x1 = 0 → vwp E d M_X5_numeral 20 [some (sl 0 7), some (wi x1), some (wi x2), some (wi x3), none, none] [] V (zi K)) ∧ (¬ (x1 = 0) → vMI E (d - 1) M_X10_is [sl 0 2, wi 45] V (fun r1 V1 => (r1 = 0 → vwp E d M_X5_numeral 20 [some (sl 0 7), some (wi x1), some (wi x2), some (wi x3), none, none] [] V1 (zi K)) ∧ (¬ (r1 = 0) → vwp E d M_X5_numeral 21 [some (sl 0 7), some (wi x1), some (wi x2), some (wi x3), none, none] [wi 1] V1 (zi K))))) : vMI E d M_X5_numeral [sl 0 7, wi x1, wi x2, wi x3] V K := by
  intro G A hR
  obtain ⟨L, P, rfl, hS⟩ := hR
  have hx := Xt.refl (V := pl G A L P) (A := A)
  show wpM E d M_X5_numeral [vr (A 0 7), vi x1, vi x2, vi x3] G _
  refine wpM_of mk_X5_numeral (Nat.le_of_ble_eq_true rfl) ?_
  refine v_X5_numeral_0 h0 ?_
  refine ⟨fun hc => ?_, fun hc => ?_⟩
  · have h := h.1 hc
    exact wp.mono (h G A ⟨L, P, rfl, hS⟩) (fun r G' q => qx_trans hx q)
  · have h := h.2 hc
    refine ⟨hS.o (s0_7 hS), ?_⟩
    rw [l0_7_0 hS]
    refine ⟨hS.o (s0_2 hS), ?_⟩
    refine wpM.mono (h G A ⟨L, P, rfl, hS⟩) (fun rr1 G1 hr => ?_)
    obtain ⟨A1, W1, w1, ⟨L1, P1, rfl, hS1⟩, hy1, rfl, r1, rfl, h⟩ := hr
    refine ⟨r1, rfl, ?_⟩
    have hx1 := Xt.trans hx hy1
    have ee2 : A1 0 7 = A 0 7 := hy1.2 _ _ hS.1.1 (((n0_7 hS1)).trans ((n0_7 hS)).symm)
    try rw [← ee2]
    refine ⟨fun hc => ?_, fun hc => ?_⟩
    · have h := h.1 hc
      exact wp.mono (h G1 A1 ⟨L1, P1, rfl, hS1⟩) (fun r G' q => qx_trans hx1 q)
    · have h := h.2 hc
      exact wp.mono (h G1 A1 ⟨L1, P1, rfl, hS1⟩) (fun r G' q => qx_trans hx1 q)
theorem w_X5_numeral_20 {E : EE} {d : Nat} {V : VH} {K : Int32 → VH → Prop} {x1 : Int32} {x2 : Int32} {x3 : Int32}  (h : vwp E d M_X5_numeral 21 [some (sl 0 7), some (wi x1), some (wi x2), some (wi x3), none, none] [wi 0] V (zi K)) : vwp E d M_X5_numeral 20 [some (sl 0 7), some (wi x1), some (wi x2), some (wi x3), none, none] [] V (zi K) := by
  intro G A hR
  obtain ⟨L, P, rfl, hS⟩ := hR
  have hx := Xt.refl (V := pl G A L P) (A := A)
  show wp E d M_X5_numeral 20 [some (vr (A 0 7)), some (vi x1), some (vi x2), some (vi x3), none, none] [] G _
  refine v_X5_numeral_20 ?_
  exact wp.mono (h G A ⟨L, P, rfl, hS⟩) (fun r G' q => qx_trans hx q)
theorem w_X5_numeral_21 {E : EE} {d : Nat} {V : VH} {K : Int32 → VH → Prop} {x1 : Int32} {x2 : Int32} {x3 : Int32} {t0 : Int32}  (h0 : 0 < d) (h : (t0 = 0 → vwp E d M_X5_numeral 35 [some (sl 0 7), some (wi x1), some (wi x2), some (wi x3), some (wi t0), none] [] V (zi K)) ∧ (¬ (t0 = 0) → vMV E (d - 1) M_X10_step [sl 0 2] V (fun V1 => vwp E d M_X5_numeral 35 [some (sl 0 7), some (wi x1), some (wi x2), some (wi x3), some (wi t0), none] [] V1 (zi K)))) : vwp E d M_X5_numeral 21 [some (sl 0 7), some (wi x1), some (wi x2), some (wi x3), none, none] [wi t0] V (zi K) := by
  intro G A hR
  obtain ⟨L, P, rfl, hS⟩ := hR
  have hx := Xt.refl (V := pl G A L P) (A := A)
  show wp E d M_X5_numeral 21 [some (vr (A 0 7)), some (vi x1), some (vi x2), some (vi x3), none, none] [vi t0] G _
  refine v_X5_numeral_21 h0 ?_
  refine ⟨fun hc => ?_, fun hc => ?_⟩
  · have h := h.1 hc
    exact wp.mono (h G A ⟨L, P, rfl, hS⟩) (fun r G' q => qx_trans hx q)
  · have h := h.2 hc
    refine ⟨hS.o (s0_7 hS), ?_⟩
    rw [l0_7_0 hS]
    refine ⟨hS.o (s0_2 hS), ?_⟩
    refine wpM.mono (h G A ⟨L, P, rfl, hS⟩) (fun rr1 G1 hr => ?_)
    obtain ⟨A1, W1, w1, ⟨L1, P1, rfl, hS1⟩, hy1, rfl, rfl, h⟩ := hr
    refine ⟨rfl, ?_⟩
    have hx1 := Xt.trans hx hy1
    have ee2 : A1 0 7 = A 0 7 := hy1.2 _ _ hS.1.1 (((n0_7 hS1)).trans ((n0_7 hS)).symm)
    try rw [← ee2]
    exact wp.mono (h G1 A1 ⟨L1, P1, rfl, hS1⟩) (fun r G' q => qx_trans hx1 q)
theorem w_X5_numeral_35 {E : EE} {d : Nat} {V : VH} {K : Int32 → VH → Prop} {x1 : Int32} {x2 : Int32} {x3 : Int32} {x4 : Int32}  (h0 : 0 < d) (h : ((vI V 0 2 6) = 3 → ∀ V1 : VH, V1 = wrI V 0 7 6 (vI V 0 2 8) → ((Int64.toInt32 (vJ V 0 2 7)) < x2 → vwp E d M_X5_numeral 87 [some (sl 0 7), some (wi x1), some (wi x2), some (wi x3), some (wi x4), some (wi (Int64.toInt32 (vJ V 0 2 7)))] [] V1 (zi K)) ∧ (¬ ((Int64.toInt32 (vJ V 0 2 7)) < x2) → ((Int64.toInt32 (vJ V 0 2 7)) ≤ x3 → (x4 = 0 → vwp E d M_X5_numeral 114 [some (sl 0 7), some (wi x1), some (wi x2), some (wi x3), some (wi x4), some (wi (Int64.toInt32 (vJ V 0 2 7)))] [wi (Int64.toInt32 (vJ V 0 2 7)), sl 0 7] V1 (zi K)) ∧ (¬ (x4 = 0) → vwp E d M_X5_numeral 114 [some (sl 0 7), some (wi x1), some (wi x2), some (wi x3), some (wi x4), some (wi (Int64.toInt32 (vJ V 0 2 7)))] [wi (-(Int64.toInt32 (vJ V 0 2 7))), sl 0 7] V1 (zi K))) ∧ (¬ ((Int64.toInt32 (vJ V 0 2 7)) ≤ x3) → vwp E d M_X5_numeral 87 [some (sl 0 7), some (wi x1), some (wi x2), some (wi x3), some (wi x4), some (wi (Int64.toInt32 (vJ V 0 2 7)))] [] V1 (zi K)))) ∧ (¬ ((vI V 0 2 6) = 3) → vMI E (d - 1) M_X10_refuse [sl 0 2] V (fun r2 V2 => bz r2 ∧ K r2 V2))) : vwp E d M_X5_numeral 35 [some (sl 0 7), some (wi x1), some (wi x2), some (wi x3), some (wi x4), none] [] V (zi K) := by
  intro G A hR
  obtain ⟨L, P, rfl, hS⟩ := hR
  have hx := Xt.refl (V := pl G A L P) (A := A)
  show wp E d M_X5_numeral 35 [some (vr (A 0 7)), some (vi x1), some (vi x2), some (vi x3), some (vi x4), none] [] G _
  refine v_X5_numeral_35 h0 ?_
  refine ⟨hS.o (s0_7 hS), ?_⟩
  rw [l0_7_0 hS]
  refine ⟨hS.o (s0_2 hS), ?_⟩
  refine ⟨fun hc => ?_, fun hc => ?_⟩
  · have h := h.1 hc
    have hS1 : Sh E (sI G (A 0 7) 6 (gI G (A 0 2) 8)) A L P := Sh_sI (rfl : sI G (A 0 7) 6 (gI G (A 0 2) 8) = sI G (A 0 7) 6 (gI G (A 0 2) 8)) hS (s0_7 hS) (okT_0 rfl)
    have h := h (pl (sI G (A 0 7) 6 (gI G (A 0 2) 8)) A L P) (pl_sI (rfl : sI G (A 0 7) 6 (gI G (A 0 2) 8) = sI G (A 0 7) 6 (gI G (A 0 2) 8)) hS (s0_7 hS))
    have hx1 : Xt (pl G A L P) A (pl (sI G (A 0 7) 6 (gI G (A 0 2) 8)) A L P) A := Xt_sI (rfl : sI G (A 0 7) 6 (gI G (A 0 2) 8) = sI G (A 0 7) 6 (gI G (A 0 2) 8)) hx
    refine ⟨fun hc => ?_, fun hc => ?_⟩
    · have h := h.1 hc
      exact wp.mono (h (sI G (A 0 7) 6 (gI G (A 0 2) 8)) A ⟨L, P, rfl, hS1⟩) (fun r G' q => qx_trans hx1 q)
    · have h := h.2 hc
      refine ⟨fun hc => ?_, fun hc => ?_⟩
      · have h := h.1 hc
        refine ⟨fun hc => ?_, fun hc => ?_⟩
        · have h := h.1 hc
          exact wp.mono (h (sI G (A 0 7) 6 (gI G (A 0 2) 8)) A ⟨L, P, rfl, hS1⟩) (fun r G' q => qx_trans hx1 q)
        · have h := h.2 hc
          exact wp.mono (h (sI G (A 0 7) 6 (gI G (A 0 2) 8)) A ⟨L, P, rfl, hS1⟩) (fun r G' q => qx_trans hx1 q)
      · have h := h.2 hc
        exact wp.mono (h (sI G (A 0 7) 6 (gI G (A 0 2) 8)) A ⟨L, P, rfl, hS1⟩) (fun r G' q => qx_trans hx1 q)
  · have h := h.2 hc
    refine wpM.mono (h G A ⟨L, P, rfl, hS⟩) (fun rr2 G2 hr => ?_)
    obtain ⟨A2, W2, w2, ⟨L2, P2, rfl, hS2⟩, hy2, rfl, r2, rfl, h⟩ := hr
    refine ⟨r2, rfl, ?_⟩
    have hx2 := Xt.trans hx hy2
    have ee3 : A2 0 7 = A 0 7 := hy2.2 _ _ hS.1.1 (((n0_7 hS2)).trans ((n0_7 hS)).symm)
    try rw [← ee3]
    exact ⟨bz_ok h.1, qx_i hS2 hx2 h.2⟩
theorem w_X5_numeral_87 {E : EE} {d : Nat} {V : VH} {K : Int32 → VH → Prop} {x1 : Int32} {x2 : Int32} {x3 : Int32} {x4 : Int32} {x5 : Int32}  (h0 : 0 < d) (h : vMI E (d - 1) M_X10_fail [sl 0 2, wi 5, wi (vI V 0 7 6)] V (fun r1 V1 => bz r1 ∧ K r1 V1)) : vwp E d M_X5_numeral 87 [some (sl 0 7), some (wi x1), some (wi x2), some (wi x3), some (wi x4), some (wi x5)] [] V (zi K) := by
  intro G A hR
  obtain ⟨L, P, rfl, hS⟩ := hR
  have hx := Xt.refl (V := pl G A L P) (A := A)
  show wp E d M_X5_numeral 87 [some (vr (A 0 7)), some (vi x1), some (vi x2), some (vi x3), some (vi x4), some (vi x5)] [] G _
  refine v_X5_numeral_87 h0 ?_
  refine ⟨hS.o (s0_7 hS), ?_⟩
  rw [l0_7_0 hS]
  refine ⟨hS.o (s0_2 hS), ?_⟩
  refine wpM.mono (h G A ⟨L, P, rfl, hS⟩) (fun rr1 G1 hr => ?_)
  obtain ⟨A1, W1, w1, ⟨L1, P1, rfl, hS1⟩, hy1, rfl, r1, rfl, h⟩ := hr
  refine ⟨r1, rfl, ?_⟩
  have hx1 := Xt.trans hx hy1
  have ee2 : A1 0 7 = A 0 7 := hy1.2 _ _ hS.1.1 (((n0_7 hS1)).trans ((n0_7 hS)).symm)
  try rw [← ee2]
  exact ⟨bz_ok h.1, qx_i hS1 hx1 h.2⟩
theorem w_X5_numeral_114 {E : EE} {d : Nat} {V : VH} {K : Int32 → VH → Prop} {x1 : Int32} {x2 : Int32} {x3 : Int32} {x4 : Int32} {x5 : Int32} {t1 : Int32}  (h0 : 0 < d) (h : ∀ V1 : VH, V1 = wrI V 0 7 5 t1 → vMV E (d - 1) M_X10_step [sl 0 2] V1 (fun V2 => K 1 V2)) : vwp E d M_X5_numeral 114 [some (sl 0 7), some (wi x1), some (wi x2), some (wi x3), some (wi x4), some (wi x5)] [wi t1, sl 0 7] V (zi K) := by
  intro G A hR
  obtain ⟨L, P, rfl, hS⟩ := hR
  have hx := Xt.refl (V := pl G A L P) (A := A)
  show wp E d M_X5_numeral 114 [some (vr (A 0 7)), some (vi x1), some (vi x2), some (vi x3), some (vi x4), some (vi x5)] [vi t1, vr (A 0 7)] G _
  refine v_X5_numeral_114 h0 ?_
  refine ⟨hS.o (s0_7 hS), ?_⟩
  have hS1 : Sh E (sI G (A 0 7) 5 t1) A L P := Sh_sI (rfl : sI G (A 0 7) 5 t1 = sI G (A 0 7) 5 t1) hS (s0_7 hS) (okT_0 rfl)
  have h := h (pl (sI G (A 0 7) 5 t1) A L P) (pl_sI (rfl : sI G (A 0 7) 5 t1 = sI G (A 0 7) 5 t1) hS (s0_7 hS))
  have hx1 : Xt (pl G A L P) A (pl (sI G (A 0 7) 5 t1) A L P) A := Xt_sI (rfl : sI G (A 0 7) 5 t1 = sI G (A 0 7) 5 t1) hx
  refine ⟨hS1.o (s0_7 hS1), ?_⟩
  rw [l0_7_0 hS]
  refine ⟨hS1.o (s0_2 hS1), ?_⟩
  refine wpM.mono (h (sI G (A 0 7) 5 t1) A ⟨L, P, rfl, hS1⟩) (fun rr2 G2 hr => ?_)
  obtain ⟨A2, W2, w2, ⟨L2, P2, rfl, hS2⟩, hy2, rfl, rfl, h⟩ := hr
  refine ⟨rfl, ?_⟩
  have hx2 := Xt.trans hx1 hy2
  have ee3 : A2 0 7 = A 0 7 := hy2.2 _ _ hS1.1.1 (((n0_7 hS2)).trans ((n0_7 hS1)).symm)
  try rw [← ee3]
  exact qx_i hS2 hx2 h
theorem w_X5_varStatement_0 {E : EE} {d : Nat} {V : VH} {K : Int32 → VH → Prop}   (h0 : 0 < d) (h : vMI E (d - 1) M_X5_newName [sl 0 7, wi 1, wi 12] V (fun r1 V1 => (r1 = 0 → K 0 V1) ∧ (¬ (r1 = 0) → vMI E (d - 1) M_X10_accept [sl 0 2, wi 2] V1 (fun r3 V3 => (¬ r3 = 0 → ∀ V5 : VH, V5 = wrI V3 0 7 10 0 → vMI E (d - 1) M_X10_is [sl 0 2, wi 123] V5 (fun r6 V6 => (r6 = 0 → vMI E (d - 1) M_X5_valuesFromTo [sl 0 7] V6 (fun r8 V8 => vwp E d M_X5_varStatement 51 [some (sl 0 7), none] [wi r8] V8 (zi K))) ∧ (¬ (r6 = 0) → vMI E (d - 1) M_X5_valuesInBraces [sl 0 7] V6 (fun r10 V10 => vwp E d M_X5_varStatement 51 [some (sl 0 7), none] [wi r10] V10 (zi K))))) ∧ (r3 = 0 → K 0 V3))))) : vMI E d M_X5_varStatement [sl 0 7] V K := by
  intro G A hR
  obtain ⟨L, P, rfl, hS⟩ := hR
  have hx := Xt.refl (V := pl G A L P) (A := A)
  show wpM E d M_X5_varStatement [vr (A 0 7)] G _
  refine wpM_of mk_X5_varStatement (Nat.le_of_ble_eq_true rfl) ?_
  refine v_X5_varStatement_0 h0 ?_
  refine ⟨hS.o (s0_7 hS), ?_⟩
  refine wpM.mono (h G A ⟨L, P, rfl, hS⟩) (fun rr1 G1 hr => ?_)
  obtain ⟨A1, W1, w1, ⟨L1, P1, rfl, hS1⟩, hy1, rfl, r1, rfl, h⟩ := hr
  refine ⟨r1, rfl, ?_⟩
  have hx1 := Xt.trans hx hy1
  have ee2 : A1 0 7 = A 0 7 := hy1.2 _ _ hS.1.1 (((n0_7 hS1)).trans ((n0_7 hS)).symm)
  try rw [← ee2]
  refine ⟨fun hc => ?_, fun hc => ?_⟩
  · have h := h.1 hc
    exact qx_i hS1 hx1 h
  · have h := h.2 hc
    refine ⟨hS1.o (s0_7 hS1), ?_⟩
    rw [l0_7_0 hS1]
    refine ⟨hS1.o (s0_2 hS1), ?_⟩
    refine wpM.mono (h G1 A1 ⟨L1, P1, rfl, hS1⟩) (fun rr3 G3 hr => ?_)
    obtain ⟨A3, W3, w3, ⟨L3, P3, rfl, hS3⟩, hy3, rfl, r3, rfl, h⟩ := hr
    refine ⟨r3, rfl, ?_⟩
    have hx3 := Xt.trans hx1 hy3
    have ee4 : A3 0 7 = A1 0 7 := hy3.2 _ _ hS1.1.1 (((n0_7 hS3)).trans ((n0_7 hS1)).symm)
    try rw [← ee4]
    refine ⟨fun hc => ?_, fun hc => ?_⟩
    · have h := h.1 hc
      refine ⟨hS3.o (s0_7 hS3), ?_⟩
      have hS5 : Sh E (sI G3 (A3 0 7) 10 0) A3 L3 P3 := Sh_sI (rfl : sI G3 (A3 0 7) 10 0 = sI G3 (A3 0 7) 10 0) hS3 (s0_7 hS3) (okT_0 rfl)
      have h := h (pl (sI G3 (A3 0 7) 10 0) A3 L3 P3) (pl_sI (rfl : sI G3 (A3 0 7) 10 0 = sI G3 (A3 0 7) 10 0) hS3 (s0_7 hS3))
      have hx5 : Xt (pl G A L P) A (pl (sI G3 (A3 0 7) 10 0) A3 L3 P3) A3 := Xt_sI (rfl : sI G3 (A3 0 7) 10 0 = sI G3 (A3 0 7) 10 0) hx3
      rw [l0_7_0 hS3]
      refine ⟨hS5.o (s0_2 hS5), ?_⟩
      refine wpM.mono (h (sI G3 (A3 0 7) 10 0) A3 ⟨L3, P3, rfl, hS5⟩) (fun rr6 G6 hr => ?_)
      obtain ⟨A6, W6, w6, ⟨L6, P6, rfl, hS6⟩, hy6, rfl, r6, rfl, h⟩ := hr
      refine ⟨r6, rfl, ?_⟩
      have hx6 := Xt.trans hx5 hy6
      have ee7 : A6 0 7 = A3 0 7 := hy6.2 _ _ hS5.1.1 (((n0_7 hS6)).trans ((n0_7 hS5)).symm)
      try rw [← ee7]
      refine ⟨fun hc => ?_, fun hc => ?_⟩
      · have h := h.1 hc
        refine ⟨hS6.o (s0_7 hS6), ?_⟩
        refine wpM.mono (h G6 A6 ⟨L6, P6, rfl, hS6⟩) (fun rr8 G8 hr => ?_)
        obtain ⟨A8, W8, w8, ⟨L8, P8, rfl, hS8⟩, hy8, rfl, r8, rfl, h⟩ := hr
        refine ⟨r8, rfl, ?_⟩
        have hx8 := Xt.trans hx6 hy8
        have ee9 : A8 0 7 = A6 0 7 := hy8.2 _ _ hS6.1.1 (((n0_7 hS8)).trans ((n0_7 hS6)).symm)
        try rw [← ee9]
        exact wp.mono (h G8 A8 ⟨L8, P8, rfl, hS8⟩) (fun r G' q => qx_trans hx8 q)
      · have h := h.2 hc
        refine ⟨hS6.o (s0_7 hS6), ?_⟩
        refine wpM.mono (h G6 A6 ⟨L6, P6, rfl, hS6⟩) (fun rr10 G10 hr => ?_)
        obtain ⟨A10, W10, w10, ⟨L10, P10, rfl, hS10⟩, hy10, rfl, r10, rfl, h⟩ := hr
        refine ⟨r10, rfl, ?_⟩
        have hx10 := Xt.trans hx6 hy10
        have ee11 : A10 0 7 = A6 0 7 := hy10.2 _ _ hS6.1.1 (((n0_7 hS10)).trans ((n0_7 hS6)).symm)
        try rw [← ee11]
        exact wp.mono (h G10 A10 ⟨L10, P10, rfl, hS10⟩) (fun r G' q => qx_trans hx10 q)
    · have h := h.2 hc
      exact qx_i hS3 hx3 h
theorem w_X5_varStatement_51 {E : EE} {d : Nat} {V : VH} {K : Int32 → VH → Prop} {t0 : Int32}  (h0 : 0 < d) (h : (t0 = 0 → K 0 V) ∧ (¬ (t0 = 0) → vMI E (d - 1) M_X10_accept [sl 0 2, wi 59] V (fun r1 V1 => (¬ r1 = 0 → PG (vL V1) (vP V1) ∧ (vMI E (d - 1) M_X7_add [sl (vP V1) 5, sl 0 8, wi (vI V1 0 7 10)] V1 (fun r4 V4 => (¬ r4 = 0 → PG (vL V4) (vP V4) ∧ (vMV E (d - 1) M_X3_tell [sl (vP V4) 0, wi 1, wj (vJ V4 0 7 3)] V4 (fun V8 => K 1 V8))) ∧ (r4 = 0 → vMI E (d - 1) M_X10_fail [sl 0 2, wi 6, wi (vI V4 0 7 4)] V4 (fun r12 V12 => bz r12 ∧ K r12 V12))))) ∧ (r1 = 0 → K 0 V1)))) : vwp E d M_X5_varStatement 51 [some (sl 0 7), none] [wi t0] V (zi K) := by
  intro G A hR
  obtain ⟨L, P, rfl, hS⟩ := hR
  have hx := Xt.refl (V := pl G A L P) (A := A)
  show wp E d M_X5_varStatement 51 [some (vr (A 0 7)), none] [vi t0] G _
  refine v_X5_varStatement_51 h0 ?_
  refine ⟨fun hc => ?_, fun hc => ?_⟩
  · have h := h.1 hc
    exact qx_i hS hx h
  · have h := h.2 hc
    refine ⟨hS.o (s0_7 hS), ?_⟩
    rw [l0_7_0 hS]
    refine ⟨hS.o (s0_2 hS), ?_⟩
    refine wpM.mono (h G A ⟨L, P, rfl, hS⟩) (fun rr1 G1 hr => ?_)
    obtain ⟨A1, W1, w1, ⟨L1, P1, rfl, hS1⟩, hy1, rfl, r1, rfl, h⟩ := hr
    refine ⟨r1, rfl, ?_⟩
    have hx1 := Xt.trans hx hy1
    have ee2 : A1 0 7 = A 0 7 := hy1.2 _ _ hS.1.1 (((n0_7 hS1)).trans ((n0_7 hS)).symm)
    try rw [← ee2]
    refine ⟨fun hc => ?_, fun hc => ?_⟩
    · have h := h.1 hc
      refine ⟨hS1.o (s0_7 hS1), ?_⟩
      rw [l0_7_1 hS1]
      obtain ⟨hg3, h⟩ := h
      have hg3 : PG L1 (P1).1 := hg3
      refine ⟨hS1.o (sP_0 hg3), ?_⟩
      rw [lP_0_4 hS1 hg3]
      rw [l0_7_9 hS1]
      refine ⟨hS1.o (sP_5 hg3), ?_⟩
      refine wpM.mono (h G1 A1 ⟨L1, P1, rfl, hS1⟩) (fun rr4 G4 hr => ?_)
      obtain ⟨A4, W4, w4, ⟨L4, P4, rfl, hS4⟩, hy4, rfl, r4, rfl, h⟩ := hr
      refine ⟨r4, rfl, ?_⟩
      have hx4 := Xt.trans hx1 hy4
      have hg5 : PG L4 (P1).1 := PG.up hy4 hg3
      have ee6 : A4 0 7 = A1 0 7 := hy4.2 _ _ hS1.1.1 (((n0_7 hS4)).trans ((n0_7 hS1)).symm)
      try rw [← ee6]
      refine ⟨fun hc => ?_, fun hc => ?_⟩
      · have h := h.1 hc
        refine ⟨hS4.o (s0_7 hS4), ?_⟩
        rw [l0_7_1 hS4]
        obtain ⟨hg7, h⟩ := h
        have hg7 : PG L4 (P4).1 := hg7
        refine ⟨hS4.o (sP_0 hg7), ?_⟩
        refine wpM.mono (h G4 A4 ⟨L4, P4, rfl, hS4⟩) (fun rr8 G8 hr => ?_)
        obtain ⟨A8, W8, w8, ⟨L8, P8, rfl, hS8⟩, hy8, rfl, rfl, h⟩ := hr
        refine ⟨rfl, ?_⟩
        have hx8 := Xt.trans hx4 hy8
        have hg9 : PG L8 (P1).1 := PG.up hy8 hg5
        have hg10 : PG L8 (P4).1 := PG.up hy8 hg7
        have ee11 : A8 0 7 = A4 0 7 := hy8.2 _ _ hS4.1.1 (((n0_7 hS8)).trans ((n0_7 hS4)).symm)
        try rw [← ee11]
        exact qx_i hS8 hx8 h
      · have h := h.2 hc
        refine ⟨hS4.o (s0_7 hS4), ?_⟩
        rw [l0_7_0 hS4]
        refine ⟨hS4.o (s0_2 hS4), ?_⟩
        refine wpM.mono (h G4 A4 ⟨L4, P4, rfl, hS4⟩) (fun rr12 G12 hr => ?_)
        obtain ⟨A12, W12, w12, ⟨L12, P12, rfl, hS12⟩, hy12, rfl, r12, rfl, h⟩ := hr
        refine ⟨r12, rfl, ?_⟩
        have hx12 := Xt.trans hx4 hy12
        have hg13 : PG L12 (P1).1 := PG.up hy12 hg5
        have ee14 : A12 0 7 = A4 0 7 := hy12.2 _ _ hS4.1.1 (((n0_7 hS12)).trans ((n0_7 hS4)).symm)
        try rw [← ee14]
        exact ⟨bz_ok h.1, qx_i hS12 hx12 h.2⟩
    · have h := h.2 hc
      exact qx_i hS1 hx1 h
theorem w_X5_valuesInBraces_0 {E : EE} {d : Nat} {V : VH} {K : Int32 → VH → Prop}   (h : vwp E d M_X5_valuesInBraces 2 [some (sl 0 7), some (wi 0), none] [] V (zi K)) : vMI E d M_X5_valuesInBraces [sl 0 7] V K := by
  intro G A hR
  obtain ⟨L, P, rfl, hS⟩ := hR
  have hx := Xt.refl (V := pl G A L P) (A := A)
  show wpM E d M_X5_valuesInBraces [vr (A 0 7)] G _
  refine wpM_of mk_X5_valuesInBraces (Nat.le_of_ble_eq_true rfl) ?_
  refine v_X5_valuesInBraces_0 ?_
  exact wp.mono (h G A ⟨L, P, rfl, hS⟩) (fun r G' q => qx_trans hx q)
theorem w_X5_valuesInBraces_2 {E : EE} {d : Nat} {V : VH} {K : Int32 → VH → Prop} {x1 : Int32}  (h0 : 0 < d) (h : ((nI 199) < x1 → vMI E (d - 1) M_X10_refuse [sl 0 2] V (fun r1 V1 => bz r1 ∧ K r1 V1)) ∧ (¬ ((nI 199) < x1) → (x1 ≤ 0 → vwp E d M_X5_valuesInBraces 37 [some (sl 0 7), some (wi x1), none] [] V (zi K)) ∧ (¬ (x1 ≤ 0) → vMI E (d - 1) M_X10_is [sl 0 2, wi 44] V (fun r3 V3 => (¬ r3 = 0 → vwp E d M_X5_valuesInBraces 37 [some (sl 0 7), some (wi x1), none] [] V3 (zi K)) ∧ (r3 = 0 → vMI E (d - 1) M_X10_accept [sl 0 2, wi 125] V3 (fun r5 V5 => bz r5 ∧ K r5 V5)))))) : vwp E d M_X5_valuesInBraces 2 [some (sl 0 7), some (wi x1), none] [] V (zi K) := by
  intro G A hR
  obtain ⟨L, P, rfl, hS⟩ := hR
  have hx := Xt.refl (V := pl G A L P) (A := A)
  show wp E d M_X5_valuesInBraces 2 [some (vr (A 0 7)), some (vi x1), none] [] G _
  refine v_X5_valuesInBraces_2 h0 ?_
  refine ⟨hS.o (s0_7 hS), ?_⟩
  rw [l0_7_9 hS]
  refine ⟨hS.o (s0_8 hS), ?_⟩
  rw [(n0_8 hS)]
  refine ⟨fun hc => ?_, fun hc => ?_⟩
  · have h := h.1 hc
    rw [l0_7_0 hS]
    refine ⟨hS.o (s0_2 hS), ?_⟩
    refine wpM.mono (h G A ⟨L, P, rfl, hS⟩) (fun rr1 G1 hr => ?_)
    obtain ⟨A1, W1, w1, ⟨L1, P1, rfl, hS1⟩, hy1, rfl, r1, rfl, h⟩ := hr
    refine ⟨r1, rfl, ?_⟩
    have hx1 := Xt.trans hx hy1
    have ee2 : A1 0 7 = A 0 7 := hy1.2 _ _ hS.1.1 (((n0_7 hS1)).trans ((n0_7 hS)).symm)
    try rw [← ee2]
    exact ⟨bz_ok h.1, qx_i hS1 hx1 h.2⟩
  · have h := h.2 hc
    refine ⟨fun hc => ?_, fun hc => ?_⟩
    · have h := h.1 hc
      exact wp.mono (h G A ⟨L, P, rfl, hS⟩) (fun r G' q => qx_trans hx q)
    · have h := h.2 hc
      rw [l0_7_0 hS]
      refine ⟨hS.o (s0_2 hS), ?_⟩
      refine wpM.mono (h G A ⟨L, P, rfl, hS⟩) (fun rr3 G3 hr => ?_)
      obtain ⟨A3, W3, w3, ⟨L3, P3, rfl, hS3⟩, hy3, rfl, r3, rfl, h⟩ := hr
      refine ⟨r3, rfl, ?_⟩
      have hx3 := Xt.trans hx hy3
      have ee4 : A3 0 7 = A 0 7 := hy3.2 _ _ hS.1.1 (((n0_7 hS3)).trans ((n0_7 hS)).symm)
      try rw [← ee4]
      refine ⟨fun hc => ?_, fun hc => ?_⟩
      · have h := h.1 hc
        exact wp.mono (h G3 A3 ⟨L3, P3, rfl, hS3⟩) (fun r G' q => qx_trans hx3 q)
      · have h := h.2 hc
        refine ⟨hS3.o (s0_7 hS3), ?_⟩
        rw [l0_7_0 hS3]
        refine ⟨hS3.o (s0_2 hS3), ?_⟩
        refine wpM.mono (h G3 A3 ⟨L3, P3, rfl, hS3⟩) (fun rr5 G5 hr => ?_)
        obtain ⟨A5, W5, w5, ⟨L5, P5, rfl, hS5⟩, hy5, rfl, r5, rfl, h⟩ := hr
        refine ⟨r5, rfl, ?_⟩
        have hx5 := Xt.trans hx3 hy5
        have ee6 : A5 0 7 = A3 0 7 := hy5.2 _ _ hS3.1.1 (((n0_7 hS5)).trans ((n0_7 hS3)).symm)
        try rw [← ee6]
        exact ⟨bz_ok h.1, qx_i hS5 hx5 h.2⟩
theorem w_X5_valuesInBraces_37 {E : EE} {d : Nat} {V : VH} {K : Int32 → VH → Prop} {x1 : Int32}  (h0 : 0 < d) (h : vMV E (d - 1) M_X10_step [sl 0 2] V (fun V1 => vMI E (d - 1) M_X5_numeral [sl 0 7, wi 1, wi 0, wi 99] V1 (fun r3 V3 => (¬ r3 = 0 → vwp E d M_X5_valuesInBraces 59 [some (sl 0 7), some (wi x1), some (wi 0)] [] V3 (zi K)) ∧ (r3 = 0 → K 0 V3)))) : vwp E d M_X5_valuesInBraces 37 [some (sl 0 7), some (wi x1), none] [] V (zi K) := by
  intro G A hR
  obtain ⟨L, P, rfl, hS⟩ := hR
  have hx := Xt.refl (V := pl G A L P) (A := A)
  show wp E d M_X5_valuesInBraces 37 [some (vr (A 0 7)), some (vi x1), none] [] G _
  refine v_X5_valuesInBraces_37 h0 ?_
  refine ⟨hS.o (s0_7 hS), ?_⟩
  rw [l0_7_0 hS]
  refine ⟨hS.o (s0_2 hS), ?_⟩
  refine wpM.mono (h G A ⟨L, P, rfl, hS⟩) (fun rr1 G1 hr => ?_)
  obtain ⟨A1, W1, w1, ⟨L1, P1, rfl, hS1⟩, hy1, rfl, rfl, h⟩ := hr
  refine ⟨rfl, ?_⟩
  have hx1 := Xt.trans hx hy1
  have ee2 : A1 0 7 = A 0 7 := hy1.2 _ _ hS.1.1 (((n0_7 hS1)).trans ((n0_7 hS)).symm)
  try rw [← ee2]
  refine ⟨hS1.o (s0_7 hS1), ?_⟩
  refine wpM.mono (h G1 A1 ⟨L1, P1, rfl, hS1⟩) (fun rr3 G3 hr => ?_)
  obtain ⟨A3, W3, w3, ⟨L3, P3, rfl, hS3⟩, hy3, rfl, r3, rfl, h⟩ := hr
  refine ⟨r3, rfl, ?_⟩
  have hx3 := Xt.trans hx1 hy3
  have ee4 : A3 0 7 = A1 0 7 := hy3.2 _ _ hS1.1.1 (((n0_7 hS3)).trans ((n0_7 hS1)).symm)
  try rw [← ee4]
  refine ⟨fun hc => ?_, fun hc => ?_⟩
  · have h := h.1 hc
    exact wp.mono (h G3 A3 ⟨L3, P3, rfl, hS3⟩) (fun r G' q => qx_trans hx3 q)
  · have h := h.2 hc
    exact qx_i hS3 hx3 h
theorem w_X5_valuesInBraces_59 {E : EE} {d : Nat} {V : VH} {K : Int32 → VH → Prop} {x1 : Int32} {x2 : Int32}  (h0 : 0 < d) (h : ((vI V 0 7 10) ≤ x2 → ((nI 199) ≤ (vI V 0 7 10) → vwp E d M_X5_valuesInBraces 131 [some (sl 0 7), some (wi x1), some (wi x2)] [] V (zi K)) ∧ (¬ ((nI 199) ≤ (vI V 0 7 10)) → ∀ V1 : VH, V1 = wrI V 0 7 10 ((vI V 0 7 10) + 1) → vp_in (vI V 0 7 10) 199 ∧ (∀ V3 : VH, V3 = wrI V1 0 8 (Int32.toNatClampNeg (vI V 0 7 10)) (vI V1 0 7 5) → vwp E d M_X5_valuesInBraces 131 [some (sl 0 7), some (wi x1), some (wi x2)] [] V3 (zi K)))) ∧ (¬ ((vI V 0 7 10) ≤ x2) → vp_in x2 199 ∧ ((¬ (vI V 0 8 (Int32.toNatClampNeg x2)) = (vI V 0 7 5) → vwp E d M_X5_valuesInBraces 59 [some (sl 0 7), some (wi x1), some (wi (x2 + 1))] [] V (zi K)) ∧ ((vI V 0 8 (Int32.toNatClampNeg x2)) = (vI V 0 7 5) → vMI E (d - 1) M_X10_fail [sl 0 2, wi 5, wi (vI V 0 7 6)] V (fun r5 V5 => bz r5 ∧ K r5 V5))))) : vwp E d M_X5_valuesInBraces 59 [some (sl 0 7), some (wi x1), some (wi x2)] [] V (zi K) := by
  intro G A hR
  obtain ⟨L, P, rfl, hS⟩ := hR
  have hx := Xt.refl (V := pl G A L P) (A := A)
  show wp E d M_X5_valuesInBraces 59 [some (vr (A 0 7)), some (vi x1), some (vi x2)] [] G _
  refine v_X5_valuesInBraces_59 h0 ?_
  refine ⟨hS.o (s0_7 hS), ?_⟩
  refine ⟨fun hc => ?_, fun hc => ?_⟩
  · have h := h.1 hc
    rw [l0_7_9 hS]
    refine ⟨hS.o (s0_8 hS), ?_⟩
    rw [(n0_8 hS)]
    refine ⟨fun hc => ?_, fun hc => ?_⟩
    · have h := h.1 hc
      exact wp.mono (h G A ⟨L, P, rfl, hS⟩) (fun r G' q => qx_trans hx q)
    · have h := h.2 hc
      intro G1 eG1
      have hS1 : Sh E G1 A L P := Sh_sI eG1 hS (s0_7 hS) (okT_0 rfl)
      have h := h (pl G1 A L P) (pl_sI eG1 hS (s0_7 hS))
      have hx1 : Xt (pl G A L P) A (pl G1 A L P) A := Xt_sI eG1 hx
      obtain ⟨hi2, h⟩ := h
      refine ⟨by first | (rw [(n0_8 hS1)]; exact hi2) | exact (congrArg (vp_in _) (n0_8 hS1)).mpr hi2 | exact hi2, ?_⟩
      intro G3 eG3
      have hS3 : Sh E G3 A L P := Sh_sI eG3 hS1 (s0_8 hS1) (okT_0 rfl)
      have h := h (pl G3 A L P) (pl_sI eG3 hS1 (s0_8 hS1))
      have hx3 : Xt (pl G A L P) A (pl G3 A L P) A := Xt_sI eG3 hx1
      exact wp.mono (h G3 A ⟨L, P, rfl, hS3⟩) (fun r G' q => qx_trans hx3 q)
  · have h := h.2 hc
    rw [l0_7_9 hS]
    refine ⟨hS.o (s0_8 hS), ?_⟩
    obtain ⟨hi4, h⟩ := h
    refine ⟨by first | (rw [(n0_8 hS)]; exact hi4) | exact (congrArg (vp_in _) (n0_8 hS)).mpr hi4 | exact hi4, ?_⟩
    refine ⟨fun hc => ?_, fun hc => ?_⟩
    · have h := h.1 hc
      exact wp.mono (h G A ⟨L, P, rfl, hS⟩) (fun r G' q => qx_trans hx q)
    · have h := h.2 hc
      rw [l0_7_0 hS]
      refine ⟨hS.o (s0_2 hS), ?_⟩
      refine wpM.mono (h G A ⟨L, P, rfl, hS⟩) (fun rr5 G5 hr => ?_)
      obtain ⟨A5, W5, w5, ⟨L5, P5, rfl, hS5⟩, hy5, rfl, r5, rfl, h⟩ := hr
      refine ⟨r5, rfl, ?_⟩
      have hx5 := Xt.trans hx hy5
      have ee6 : A5 0 7 = A 0 7 := hy5.2 _ _ hS.1.1 (((n0_7 hS5)).trans ((n0_7 hS)).symm)
      try rw [← ee6]
      exact ⟨bz_ok h.1, qx_i hS5 hx5 h.2⟩
theorem w_X5_valuesInBraces_131 {E : EE} {d : Nat} {V : VH} {K : Int32 → VH → Prop} {x1 : Int32} {x2 : Int32}  (h : vwp E d M_X5_valuesInBraces 2 [some (sl 0 7), some (wi (x1 + 1)), none] [] V (zi K)) : vwp E d M_X5_valuesInBraces 131 [some (sl 0 7), some (wi x1), some (wi x2)] [] V (zi K) := by
  intro G A hR
  obtain ⟨L, P, rfl, hS⟩ := hR
  have hx := Xt.refl (V := pl G A L P) (A := A)
  show wp E d M_X5_valuesInBraces 131 [some (vr (A 0 7)), some (vi x1), some (vi x2)] [] G _
  refine v_X5_valuesInBraces_131 ?_
  exact wp.mono (h G A ⟨L, P, rfl, hS⟩) (fun r G' q => qx_trans hx q)
theorem w_X5_valuesFromTo_0 {E : EE} {d : Nat} {V : VH} {K : Int32 → VH → Prop}   (h0 : 0 < d) (h : vMI E (d - 1) M_X5_numeral [sl 0 7, wi 1, wi 0, wi 99] V (fun r1 V1 => (¬ r1 = 0 → vMI E (d - 1) M_X10_accept [sl 0 2, wi 11822] V1 (fun r3 V3 => (r3 = 0 → K 0 V3) ∧ (¬ (r3 = 0) → vMI E (d - 1) M_X5_numeral [sl 0 7, wi 1, wi 0, wi 99] V3 (fun r5 V5 => (¬ r5 = 0 → ((vI V1 0 7 5) ≤ (vI V5 0 7 5) → vwp E d M_X5_valuesFromTo 67 [some (sl 0 7), some (wi (vI V1 0 7 5)), some (wi (vI V1 0 7 5))] [] V5 (zi K)) ∧ (¬ ((vI V1 0 7 5) ≤ (vI V5 0 7 5)) → vMI E (d - 1) M_X10_fail [sl 0 2, wi 5, wi (vI V5 0 7 6)] V5 (fun r7 V7 => bz r7 ∧ K r7 V7))) ∧ (r5 = 0 → K 0 V5))))) ∧ (r1 = 0 → K 0 V1))) : vMI E d M_X5_valuesFromTo [sl 0 7] V K := by
  intro G A hR
  obtain ⟨L, P, rfl, hS⟩ := hR
  have hx := Xt.refl (V := pl G A L P) (A := A)
  show wpM E d M_X5_valuesFromTo [vr (A 0 7)] G _
  refine wpM_of mk_X5_valuesFromTo (Nat.le_of_ble_eq_true rfl) ?_
  refine v_X5_valuesFromTo_0 h0 ?_
  refine ⟨hS.o (s0_7 hS), ?_⟩
  refine wpM.mono (h G A ⟨L, P, rfl, hS⟩) (fun rr1 G1 hr => ?_)
  obtain ⟨A1, W1, w1, ⟨L1, P1, rfl, hS1⟩, hy1, rfl, r1, rfl, h⟩ := hr
  refine ⟨r1, rfl, ?_⟩
  have hx1 := Xt.trans hx hy1
  have ee2 : A1 0 7 = A 0 7 := hy1.2 _ _ hS.1.1 (((n0_7 hS1)).trans ((n0_7 hS)).symm)
  try rw [← ee2]
  refine ⟨fun hc => ?_, fun hc => ?_⟩
  · have h := h.1 hc
    refine ⟨hS1.o (s0_7 hS1), ?_⟩
    rw [l0_7_0 hS1]
    refine ⟨hS1.o (s0_2 hS1), ?_⟩
    refine wpM.mono (h G1 A1 ⟨L1, P1, rfl, hS1⟩) (fun rr3 G3 hr => ?_)
    obtain ⟨A3, W3, w3, ⟨L3, P3, rfl, hS3⟩, hy3, rfl, r3, rfl, h⟩ := hr
    refine ⟨r3, rfl, ?_⟩
    have hx3 := Xt.trans hx1 hy3
    have ee4 : A3 0 7 = A1 0 7 := hy3.2 _ _ hS1.1.1 (((n0_7 hS3)).trans ((n0_7 hS1)).symm)
    try rw [← ee4]
    try rw [show gI G1 (A3 0 7) = gI G1 (A1 0 7) from by rw [ee4]]
    refine ⟨fun hc => ?_, fun hc => ?_⟩
    · have h := h.1 hc
      exact qx_i hS3 hx3 h
    · have h := h.2 hc
      refine ⟨hS3.o (s0_7 hS3), ?_⟩
      refine wpM.mono (h G3 A3 ⟨L3, P3, rfl, hS3⟩) (fun rr5 G5 hr => ?_)
      obtain ⟨A5, W5, w5, ⟨L5, P5, rfl, hS5⟩, hy5, rfl, r5, rfl, h⟩ := hr
      refine ⟨r5, rfl, ?_⟩
      have hx5 := Xt.trans hx3 hy5
      have ee6 : A5 0 7 = A3 0 7 := hy5.2 _ _ hS3.1.1 (((n0_7 hS5)).trans ((n0_7 hS3)).symm)
      try rw [← ee6]
      refine ⟨fun hc => ?_, fun hc => ?_⟩
      · have h := h.1 hc
        refine ⟨hS5.o (s0_7 hS5), ?_⟩
        refine ⟨fun hc => ?_, fun hc => ?_⟩
        · have h := h.1 hc
          exact wp.mono (h G5 A5 ⟨L5, P5, rfl, hS5⟩) (fun r G' q => qx_trans hx5 q)
        · have h := h.2 hc
          rw [l0_7_0 hS5]
          refine ⟨hS5.o (s0_2 hS5), ?_⟩
          refine wpM.mono (h G5 A5 ⟨L5, P5, rfl, hS5⟩) (fun rr7 G7 hr => ?_)
          obtain ⟨A7, W7, w7, ⟨L7, P7, rfl, hS7⟩, hy7, rfl, r7, rfl, h⟩ := hr
          refine ⟨r7, rfl, ?_⟩
          have hx7 := Xt.trans hx5 hy7
          have ee8 : A7 0 7 = A5 0 7 := hy7.2 _ _ hS5.1.1 (((n0_7 hS7)).trans ((n0_7 hS5)).symm)
          try rw [← ee8]
          exact ⟨bz_ok h.1, qx_i hS7 hx7 h.2⟩
      · have h := h.2 hc
        exact qx_i hS5 hx5 h
  · have h := h.2 hc
    exact qx_i hS1 hx1 h
theorem w_X5_valuesFromTo_67 {E : EE} {d : Nat} {V : VH} {K : Int32 → VH → Prop} {x1 : Int32} {x2 : Int32}  (h : ((vI V 0 7 5) < x2 → K 1 V) ∧ (¬ ((vI V 0 7 5) < x2) → ((nI 199) ≤ (vI V 0 7 10) → K 1 V) ∧ (¬ ((nI 199) ≤ (vI V 0 7 10)) → ∀ V1 : VH, V1 = wrI V 0 7 10 ((vI V 0 7 10) + 1) → vp_in (vI V 0 7 10) 199 ∧ (∀ V3 : VH, V3 = wrI V1 0 8 (Int32.toNatClampNeg (vI V 0 7 10)) x2 → vwp E d M_X5_valuesFromTo 67 [some (sl 0 7), some (wi x1), some (wi (x2 + 1))] [] V3 (zi K))))) : vwp E d M_X5_valuesFromTo 67 [some (sl 0 7), some (wi x1), some (wi x2)] [] V (zi K) := by
  intro G A hR
  obtain ⟨L, P, rfl, hS⟩ := hR
  have hx := Xt.refl (V := pl G A L P) (A := A)
  show wp E d M_X5_valuesFromTo 67 [some (vr (A 0 7)), some (vi x1), some (vi x2)] [] G _
  refine v_X5_valuesFromTo_67 ?_
  refine ⟨hS.o (s0_7 hS), ?_⟩
  refine ⟨fun hc => ?_, fun hc => ?_⟩
  · have h := h.1 hc
    exact qx_i hS hx h
  · have h := h.2 hc
    rw [l0_7_9 hS]
    refine ⟨hS.o (s0_8 hS), ?_⟩
    rw [(n0_8 hS)]
    refine ⟨fun hc => ?_, fun hc => ?_⟩
    · have h := h.1 hc
      exact qx_i hS hx h
    · have h := h.2 hc
      intro G1 eG1
      have hS1 : Sh E G1 A L P := Sh_sI eG1 hS (s0_7 hS) (okT_0 rfl)
      have h := h (pl G1 A L P) (pl_sI eG1 hS (s0_7 hS))
      have hx1 : Xt (pl G A L P) A (pl G1 A L P) A := Xt_sI eG1 hx
      obtain ⟨hi2, h⟩ := h
      refine ⟨by first | (rw [(n0_8 hS1)]; exact hi2) | exact (congrArg (vp_in _) (n0_8 hS1)).mpr hi2 | exact hi2, ?_⟩
      intro G3 eG3
      have hS3 : Sh E G3 A L P := Sh_sI eG3 hS1 (s0_8 hS1) (okT_0 rfl)
      have h := h (pl G3 A L P) (pl_sI eG3 hS1 (s0_8 hS1))
      have hx3 : Xt (pl G A L P) A (pl G3 A L P) A := Xt_sI eG3 hx1
      exact wp.mono (h G3 A ⟨L, P, rfl, hS3⟩) (fun r G' q => qx_trans hx3 q)
theorem w_X5_ruleStatement_0 {E : EE} {d : Nat} {V : VH} {K : Int32 → VH → Prop}   (h0 : 0 < d) (h : vMI E (d - 1) M_X5_newName [sl 0 7, wi 2, wi 24] V (fun r1 V1 => (r1 = 0 → K 0 V1) ∧ (¬ (r1 = 0) → vMI E (d - 1) M_X10_accept [sl 0 2, wi 4] V1 (fun r3 V3 => (¬ r3 = 0 → vMI E (d - 1) M_X5_numeral [sl 0 7, wi 0, wi 0, wi 2] V3 (fun r5 V5 => (¬ r5 = 0 → (¬ (vI V5 0 7 5) = 0 → vwp E d M_X5_ruleStatement 73 [some (sl 0 7), some (wi (vI V5 0 7 5)), none, none] [] V5 (zi K)) ∧ ((vI V5 0 7 5) = 0 → PG (vL V5) (vQ V5) ∧ (vMI E (d - 1) M_J6_bitCount_0f7a4 [wi (vI V5 (vQ V5) 9 0)] V5 (fun r8 V8 => (r8 < 12 → vwp E d M_X5_ruleStatement 73 [some (sl 0 7), some (wi (vI V5 0 7 5)), none, none] [] V8 (zi K)) ∧ (¬ (r8 < 12) → vMI E (d - 1) M_X10_fail [sl 0 2, wi 6, wi (vI V8 0 7 6)] V8 (fun r11 V11 => bz r11 ∧ K r11 V11)))))) ∧ (r5 = 0 → K 0 V5))) ∧ (r3 = 0 → K 0 V3))))) : vMI E d M_X5_ruleStatement [sl 0 7] V K := by
  intro G A hR
  obtain ⟨L, P, rfl, hS⟩ := hR
  have hx := Xt.refl (V := pl G A L P) (A := A)
  show wpM E d M_X5_ruleStatement [vr (A 0 7)] G _
  refine wpM_of mk_X5_ruleStatement (Nat.le_of_ble_eq_true rfl) ?_
  refine v_X5_ruleStatement_0 h0 ?_
  refine ⟨hS.o (s0_7 hS), ?_⟩
  refine wpM.mono (h G A ⟨L, P, rfl, hS⟩) (fun rr1 G1 hr => ?_)
  obtain ⟨A1, W1, w1, ⟨L1, P1, rfl, hS1⟩, hy1, rfl, r1, rfl, h⟩ := hr
  refine ⟨r1, rfl, ?_⟩
  have hx1 := Xt.trans hx hy1
  have ee2 : A1 0 7 = A 0 7 := hy1.2 _ _ hS.1.1 (((n0_7 hS1)).trans ((n0_7 hS)).symm)
  try rw [← ee2]
  refine ⟨fun hc => ?_, fun hc => ?_⟩
  · have h := h.1 hc
    exact qx_i hS1 hx1 h
  · have h := h.2 hc
    refine ⟨hS1.o (s0_7 hS1), ?_⟩
    rw [l0_7_0 hS1]
    refine ⟨hS1.o (s0_2 hS1), ?_⟩
    refine wpM.mono (h G1 A1 ⟨L1, P1, rfl, hS1⟩) (fun rr3 G3 hr => ?_)
    obtain ⟨A3, W3, w3, ⟨L3, P3, rfl, hS3⟩, hy3, rfl, r3, rfl, h⟩ := hr
    refine ⟨r3, rfl, ?_⟩
    have hx3 := Xt.trans hx1 hy3
    have ee4 : A3 0 7 = A1 0 7 := hy3.2 _ _ hS1.1.1 (((n0_7 hS3)).trans ((n0_7 hS1)).symm)
    try rw [← ee4]
    refine ⟨fun hc => ?_, fun hc => ?_⟩
    · have h := h.1 hc
      refine ⟨hS3.o (s0_7 hS3), ?_⟩
      refine wpM.mono (h G3 A3 ⟨L3, P3, rfl, hS3⟩) (fun rr5 G5 hr => ?_)
      obtain ⟨A5, W5, w5, ⟨L5, P5, rfl, hS5⟩, hy5, rfl, r5, rfl, h⟩ := hr
      refine ⟨r5, rfl, ?_⟩
      have hx5 := Xt.trans hx3 hy5
      have ee6 : A5 0 7 = A3 0 7 := hy5.2 _ _ hS3.1.1 (((n0_7 hS5)).trans ((n0_7 hS3)).symm)
      try rw [← ee6]
      refine ⟨fun hc => ?_, fun hc => ?_⟩
      · have h := h.1 hc
        refine ⟨hS5.o (s0_7 hS5), ?_⟩
        refine ⟨fun hc => ?_, fun hc => ?_⟩
        · have h := h.1 hc
          exact wp.mono (h G5 A5 ⟨L5, P5, rfl, hS5⟩) (fun r G' q => qx_trans hx5 q)
        · have h := h.2 hc
          rw [l0_7_2 hS5]
          obtain ⟨hg7, h⟩ := h
          have hg7 : PG L5 (P5).2 := hg7
          refine ⟨hS5.o (sP_9 hg7), ?_⟩
          refine wpM.mono (h G5 A5 ⟨L5, P5, rfl, hS5⟩) (fun rr8 G8 hr => ?_)
          obtain ⟨A8, W8, w8, ⟨L8, P8, rfl, hS8⟩, hy8, rfl, r8, rfl, h⟩ := hr
          refine ⟨r8, rfl, ?_⟩
          have hx8 := Xt.trans hx5 hy8
          have hg9 : PG L8 (P5).2 := PG.up hy8 hg7
          have ee10 : A8 0 7 = A5 0 7 := hy8.2 _ _ hS5.1.1 (((n0_7 hS8)).trans ((n0_7 hS5)).symm)
          try rw [← ee10]
          try rw [show gI G5 (A8 0 7) = gI G5 (A5 0 7) from by rw [ee10]]
          refine ⟨fun hc => ?_, fun hc => ?_⟩
          · have h := h.1 hc
            exact wp.mono (h G8 A8 ⟨L8, P8, rfl, hS8⟩) (fun r G' q => qx_trans hx8 q)
          · have h := h.2 hc
            refine ⟨hS8.o (s0_7 hS8), ?_⟩
            rw [l0_7_0 hS8]
            refine ⟨hS8.o (s0_2 hS8), ?_⟩
            refine wpM.mono (h G8 A8 ⟨L8, P8, rfl, hS8⟩) (fun rr11 G11 hr => ?_)
            obtain ⟨A11, W11, w11, ⟨L11, P11, rfl, hS11⟩, hy11, rfl, r11, rfl, h⟩ := hr
            refine ⟨r11, rfl, ?_⟩
            have hx11 := Xt.trans hx8 hy11
            have hg12 : PG L11 (P5).2 := PG.up hy11 hg9
            have ee13 : A11 0 7 = A8 0 7 := hy11.2 _ _ hS8.1.1 (((n0_7 hS11)).trans ((n0_7 hS8)).symm)
            try rw [← ee13]
            exact ⟨bz_ok h.1, qx_i hS11 hx11 h.2⟩
      · have h := h.2 hc
        exact qx_i hS5 hx5 h
    · have h := h.2 hc
      exact qx_i hS3 hx3 h
theorem w_X5_ruleStatement_73 {E : EE} {d : Nat} {V : VH} {K : Int32 → VH → Prop} {x1 : Int32}  (h0 : 0 < d) (h : vMI E (d - 1) M_X10_accept [sl 0 2, wi 42] V (fun r1 V1 => (r1 = 0 → K 0 V1) ∧ (¬ (r1 = 0) → vMI E (d - 1) M_X5_numeral [sl 0 7, wi 0, wi 1, wi 1000] V1 (fun r3 V3 => (r3 = 0 → K 0 V3) ∧ (¬ (r3 = 0) → vMI E (d - 1) M_X10_accept [sl 0 2, wi 58] V3 (fun r5 V5 => (¬ r5 = 0 → PG (vL V5) (vP V5) ∧ (∀ V9 : VH, V9 = wrI V5 0 7 8 0 → PG (vL V9) (vQ V9) ∧ (vMV E (d - 1) M_X2_begin [sl (vQ V9) 9, wi (vI V5 (vP V5) 4 (Int32.toNatClampNeg 2))] V9 (fun V11 => vMI E (d - 1) M_X5_test [sl 0 7] V11 (fun r15 V15 => (r15 = 0 → K 0 V15) ∧ (¬ (r15 = 0) → vMI E (d - 1) M_X10_accept [sl 0 2, wi 59] V15 (fun r19 V19 => (¬ r19 = 0 → PG (vL V19) (vQ V19) ∧ (vMV E (d - 1) M_X2_finish [sl (vQ V19) 9, wi (vI V5 (vP V5) 4 (Int32.toNatClampNeg 2)), wi x1] V19 (fun V24 => PG (vL V24) (vQ V24) ∧ (vMV E (d - 1) M_X2_describe [sl (vQ V24) 9, wi (vI V5 (vP V5) 4 (Int32.toNatClampNeg 2)), wi (vI V5 0 7 5), wi (vI V24 0 7 8)] V24 (fun V30 => PG (vL V30) (vP V30) ∧ (vMV E (d - 1) M_X3_tell [sl (vP V30) 0, wi 2, wj (vJ V30 0 7 3)] V30 (fun V37 => K 1 V37))))))) ∧ (r19 = 0 → K 0 V19)))))))) ∧ (r5 = 0 → K 0 V5))))))) : vwp E d M_X5_ruleStatement 73 [some (sl 0 7), some (wi x1), none, none] [] V (zi K) := by
  intro G A hR
  obtain ⟨L, P, rfl, hS⟩ := hR
  have hx := Xt.refl (V := pl G A L P) (A := A)
  show wp E d M_X5_ruleStatement 73 [some (vr (A 0 7)), some (vi x1), none, none] [] G _
  refine v_X5_ruleStatement_73 h0 ?_
  refine ⟨hS.o (s0_7 hS), ?_⟩
  rw [l0_7_0 hS]
  refine ⟨hS.o (s0_2 hS), ?_⟩
  refine wpM.mono (h G A ⟨L, P, rfl, hS⟩) (fun rr1 G1 hr => ?_)
  obtain ⟨A1, W1, w1, ⟨L1, P1, rfl, hS1⟩, hy1, rfl, r1, rfl, h⟩ := hr
  refine ⟨r1, rfl, ?_⟩
  have hx1 := Xt.trans hx hy1
  have ee2 : A1 0 7 = A 0 7 := hy1.2 _ _ hS.1.1 (((n0_7 hS1)).trans ((n0_7 hS)).symm)
  try rw [← ee2]
  refine ⟨fun hc => ?_, fun hc => ?_⟩
  · have h := h.1 hc
    exact qx_i hS1 hx1 h
  · have h := h.2 hc
    refine ⟨hS1.o (s0_7 hS1), ?_⟩
    refine wpM.mono (h G1 A1 ⟨L1, P1, rfl, hS1⟩) (fun rr3 G3 hr => ?_)
    obtain ⟨A3, W3, w3, ⟨L3, P3, rfl, hS3⟩, hy3, rfl, r3, rfl, h⟩ := hr
    refine ⟨r3, rfl, ?_⟩
    have hx3 := Xt.trans hx1 hy3
    have ee4 : A3 0 7 = A1 0 7 := hy3.2 _ _ hS1.1.1 (((n0_7 hS3)).trans ((n0_7 hS1)).symm)
    try rw [← ee4]
    refine ⟨fun hc => ?_, fun hc => ?_⟩
    · have h := h.1 hc
      exact qx_i hS3 hx3 h
    · have h := h.2 hc
      refine ⟨hS3.o (s0_7 hS3), ?_⟩
      rw [l0_7_0 hS3]
      refine ⟨hS3.o (s0_2 hS3), ?_⟩
      refine wpM.mono (h G3 A3 ⟨L3, P3, rfl, hS3⟩) (fun rr5 G5 hr => ?_)
      obtain ⟨A5, W5, w5, ⟨L5, P5, rfl, hS5⟩, hy5, rfl, r5, rfl, h⟩ := hr
      refine ⟨r5, rfl, ?_⟩
      have hx5 := Xt.trans hx3 hy5
      have ee6 : A5 0 7 = A3 0 7 := hy5.2 _ _ hS3.1.1 (((n0_7 hS5)).trans ((n0_7 hS3)).symm)
      try rw [← ee6]
      refine ⟨fun hc => ?_, fun hc => ?_⟩
      · have h := h.1 hc
        refine ⟨hS5.o (s0_7 hS5), ?_⟩
        rw [l0_7_1 hS5]
        obtain ⟨hg7, h⟩ := h
        have hg7 : PG L5 (P5).1 := hg7
        refine ⟨hS5.o (sP_0 hg7), ?_⟩
        rw [lP_0_3 hS5 hg7]
        refine ⟨hS5.o (sP_4 hg7), ?_⟩
        refine ⟨by first | (rw [(nP_4 hS5 hg7)]; unfold vp_in; decide) | exact (congrArg (vp_in _) (nP_4 hS5 hg7)).mpr (by unfold vp_in; decide) | (unfold vp_in; decide), ?_⟩
        have hS9 : Sh E (sI G5 (A5 0 7) 8 0) A5 L5 P5 := Sh_sI (rfl : sI G5 (A5 0 7) 8 0 = sI G5 (A5 0 7) 8 0) hS5 (s0_7 hS5) (okT_0 rfl)
        have h := h (pl (sI G5 (A5 0 7) 8 0) A5 L5 P5) (pl_sI (rfl : sI G5 (A5 0 7) 8 0 = sI G5 (A5 0 7) 8 0) hS5 (s0_7 hS5))
        have hx9 : Xt (pl G A L P) A (pl (sI G5 (A5 0 7) 8 0) A5 L5 P5) A5 := Xt_sI (rfl : sI G5 (A5 0 7) 8 0 = sI G5 (A5 0 7) 8 0) hx5
        rw [l0_7_2 hS5]
        obtain ⟨hg10, h⟩ := h
        have hg10 : PG L5 (P5).2 := hg10
        refine ⟨hS9.o (sP_9 hg10), ?_⟩
        refine wpM.mono (h (sI G5 (A5 0 7) 8 0) A5 ⟨L5, P5, rfl, hS9⟩) (fun rr11 G11 hr => ?_)
        obtain ⟨A11, W11, w11, ⟨L11, P11, rfl, hS11⟩, hy11, rfl, rfl, h⟩ := hr
        refine ⟨rfl, ?_⟩
        have hx11 := Xt.trans hx9 hy11
        have hg12 : PG L11 (P5).1 := PG.up hy11 hg7
        have hg13 : PG L11 (P5).2 := PG.up hy11 hg10
        have ee14 : A11 0 7 = A5 0 7 := hy11.2 _ _ hS9.1.1 (((n0_7 hS11)).trans ((n0_7 hS9)).symm)
        try rw [← ee14]
        try rw [show gI G5 (A11 0 7) = gI G5 (A5 0 7) from by rw [ee14]]
        refine ⟨hS11.o (s0_7 hS11), ?_⟩
        refine wpM.mono (h G11 A11 ⟨L11, P11, rfl, hS11⟩) (fun rr15 G15 hr => ?_)
        obtain ⟨A15, W15, w15, ⟨L15, P15, rfl, hS15⟩, hy15, rfl, r15, rfl, h⟩ := hr
        refine ⟨r15, rfl, ?_⟩
        have hx15 := Xt.trans hx11 hy15
        have hg16 : PG L15 (P5).1 := PG.up hy15 hg12
        have hg17 : PG L15 (P5).2 := PG.up hy15 hg13
        have ee18 : A15 0 7 = A11 0 7 := hy15.2 _ _ hS11.1.1 (((n0_7 hS15)).trans ((n0_7 hS11)).symm)
        try rw [← ee18]
        refine ⟨fun hc => ?_, fun hc => ?_⟩
        · have h := h.1 hc
          exact qx_i hS15 hx15 h
        · have h := h.2 hc
          refine ⟨hS15.o (s0_7 hS15), ?_⟩
          rw [l0_7_0 hS15]
          refine ⟨hS15.o (s0_2 hS15), ?_⟩
          refine wpM.mono (h G15 A15 ⟨L15, P15, rfl, hS15⟩) (fun rr19 G19 hr => ?_)
          obtain ⟨A19, W19, w19, ⟨L19, P19, rfl, hS19⟩, hy19, rfl, r19, rfl, h⟩ := hr
          refine ⟨r19, rfl, ?_⟩
          have hx19 := Xt.trans hx15 hy19
          have hg20 : PG L19 (P5).1 := PG.up hy19 hg16
          have hg21 : PG L19 (P5).2 := PG.up hy19 hg17
          have ee22 : A19 0 7 = A15 0 7 := hy19.2 _ _ hS15.1.1 (((n0_7 hS19)).trans ((n0_7 hS15)).symm)
          try rw [← ee22]
          refine ⟨fun hc => ?_, fun hc => ?_⟩
          · have h := h.1 hc
            refine ⟨hS19.o (s0_7 hS19), ?_⟩
            rw [l0_7_2 hS19]
            obtain ⟨hg23, h⟩ := h
            have hg23 : PG L19 (P19).2 := hg23
            refine ⟨hS19.o (sP_9 hg23), ?_⟩
            refine wpM.mono (h G19 A19 ⟨L19, P19, rfl, hS19⟩) (fun rr24 G24 hr => ?_)
            obtain ⟨A24, W24, w24, ⟨L24, P24, rfl, hS24⟩, hy24, rfl, rfl, h⟩ := hr
            refine ⟨rfl, ?_⟩
            have hx24 := Xt.trans hx19 hy24
            have hg25 : PG L24 (P5).1 := PG.up hy24 hg20
            have hg26 : PG L24 (P5).2 := PG.up hy24 hg21
            have hg27 : PG L24 (P19).2 := PG.up hy24 hg23
            have ee28 : A24 0 7 = A19 0 7 := hy24.2 _ _ hS19.1.1 (((n0_7 hS24)).trans ((n0_7 hS19)).symm)
            try rw [← ee28]
            refine ⟨hS24.o (s0_7 hS24), ?_⟩
            rw [l0_7_2 hS24]
            obtain ⟨hg29, h⟩ := h
            have hg29 : PG L24 (P24).2 := hg29
            refine ⟨hS24.o (sP_9 hg29), ?_⟩
            refine wpM.mono (h G24 A24 ⟨L24, P24, rfl, hS24⟩) (fun rr30 G30 hr => ?_)
            obtain ⟨A30, W30, w30, ⟨L30, P30, rfl, hS30⟩, hy30, rfl, rfl, h⟩ := hr
            refine ⟨rfl, ?_⟩
            have hx30 := Xt.trans hx24 hy30
            have hg31 : PG L30 (P5).1 := PG.up hy30 hg25
            have hg32 : PG L30 (P5).2 := PG.up hy30 hg26
            have hg33 : PG L30 (P19).2 := PG.up hy30 hg27
            have hg34 : PG L30 (P24).2 := PG.up hy30 hg29
            have ee35 : A30 0 7 = A24 0 7 := hy30.2 _ _ hS24.1.1 (((n0_7 hS30)).trans ((n0_7 hS24)).symm)
            try rw [← ee35]
            refine ⟨hS30.o (s0_7 hS30), ?_⟩
            rw [l0_7_1 hS30]
            obtain ⟨hg36, h⟩ := h
            have hg36 : PG L30 (P30).1 := hg36
            refine ⟨hS30.o (sP_0 hg36), ?_⟩
            refine wpM.mono (h G30 A30 ⟨L30, P30, rfl, hS30⟩) (fun rr37 G37 hr => ?_)
            obtain ⟨A37, W37, w37, ⟨L37, P37, rfl, hS37⟩, hy37, rfl, rfl, h⟩ := hr
            refine ⟨rfl, ?_⟩
            have hx37 := Xt.trans hx30 hy37
            have hg38 : PG L37 (P5).1 := PG.up hy37 hg31
            have hg39 : PG L37 (P5).2 := PG.up hy37 hg32
            have hg40 : PG L37 (P19).2 := PG.up hy37 hg33
            have hg41 : PG L37 (P24).2 := PG.up hy37 hg34
            have hg42 : PG L37 (P30).1 := PG.up hy37 hg36
            have ee43 : A37 0 7 = A30 0 7 := hy37.2 _ _ hS30.1.1 (((n0_7 hS37)).trans ((n0_7 hS30)).symm)
            try rw [← ee43]
            exact qx_i hS37 hx37 h
          · have h := h.2 hc
            exact qx_i hS19 hx19 h
      · have h := h.2 hc
        exact qx_i hS5 hx5 h
theorem w_X5_test_0 {E : EE} {d : Nat} {V : VH} {K : Int32 → VH → Prop}   (h0 : 0 < d) (h : vMI E (d - 1) M_X5_either [sl 0 7] V (fun r1 V1 => (¬ r1 = 0 → vMI E (d - 1) M_X10_is [sl 0 2, wi 11582] V1 (fun r3 V3 => (¬ r3 = 0 → vMI E (d - 1) M_X5_enter [sl 0 7, wi 11582] V3 (fun r5 V5 => (r5 = 0 → K 0 V5) ∧ (¬ (r5 = 0) → vMI E (d - 1) M_X5_test [sl 0 7] V5 (fun r7 V7 => (¬ r7 = 0 → ∀ V9 : VH, V9 = wrI V7 0 7 7 ((vI V7 0 7 7) - 1) → PG (vL V9) (vQ V9) ∧ (vMI E (d - 1) M_X2_emit [sl (vQ V9) 9, wi 21, wi 0] V9 (fun r11 V11 => bz r11 ∧ K r11 V11))) ∧ (r7 = 0 → K 0 V7))))) ∧ (r3 = 0 → K 1 V3))) ∧ (r1 = 0 → K 0 V1))) : vMI E d M_X5_test [sl 0 7] V K := by
  intro G A hR
  obtain ⟨L, P, rfl, hS⟩ := hR
  have hx := Xt.refl (V := pl G A L P) (A := A)
  show wpM E d M_X5_test [vr (A 0 7)] G _
  refine wpM_of mk_X5_test (Nat.le_of_ble_eq_true rfl) ?_
  refine v_X5_test_0 h0 ?_
  refine ⟨hS.o (s0_7 hS), ?_⟩
  refine wpM.mono (h G A ⟨L, P, rfl, hS⟩) (fun rr1 G1 hr => ?_)
  obtain ⟨A1, W1, w1, ⟨L1, P1, rfl, hS1⟩, hy1, rfl, r1, rfl, h⟩ := hr
  refine ⟨r1, rfl, ?_⟩
  have hx1 := Xt.trans hx hy1
  have ee2 : A1 0 7 = A 0 7 := hy1.2 _ _ hS.1.1 (((n0_7 hS1)).trans ((n0_7 hS)).symm)
  try rw [← ee2]
  refine ⟨fun hc => ?_, fun hc => ?_⟩
  · have h := h.1 hc
    refine ⟨hS1.o (s0_7 hS1), ?_⟩
    rw [l0_7_0 hS1]
    refine ⟨hS1.o (s0_2 hS1), ?_⟩
    refine wpM.mono (h G1 A1 ⟨L1, P1, rfl, hS1⟩) (fun rr3 G3 hr => ?_)
    obtain ⟨A3, W3, w3, ⟨L3, P3, rfl, hS3⟩, hy3, rfl, r3, rfl, h⟩ := hr
    refine ⟨r3, rfl, ?_⟩
    have hx3 := Xt.trans hx1 hy3
    have ee4 : A3 0 7 = A1 0 7 := hy3.2 _ _ hS1.1.1 (((n0_7 hS3)).trans ((n0_7 hS1)).symm)
    try rw [← ee4]
    refine ⟨fun hc => ?_, fun hc => ?_⟩
    · have h := h.1 hc
      refine ⟨hS3.o (s0_7 hS3), ?_⟩
      refine wpM.mono (h G3 A3 ⟨L3, P3, rfl, hS3⟩) (fun rr5 G5 hr => ?_)
      obtain ⟨A5, W5, w5, ⟨L5, P5, rfl, hS5⟩, hy5, rfl, r5, rfl, h⟩ := hr
      refine ⟨r5, rfl, ?_⟩
      have hx5 := Xt.trans hx3 hy5
      have ee6 : A5 0 7 = A3 0 7 := hy5.2 _ _ hS3.1.1 (((n0_7 hS5)).trans ((n0_7 hS3)).symm)
      try rw [← ee6]
      refine ⟨fun hc => ?_, fun hc => ?_⟩
      · have h := h.1 hc
        exact qx_i hS5 hx5 h
      · have h := h.2 hc
        refine ⟨hS5.o (s0_7 hS5), ?_⟩
        refine wpM.mono (h G5 A5 ⟨L5, P5, rfl, hS5⟩) (fun rr7 G7 hr => ?_)
        obtain ⟨A7, W7, w7, ⟨L7, P7, rfl, hS7⟩, hy7, rfl, r7, rfl, h⟩ := hr
        refine ⟨r7, rfl, ?_⟩
        have hx7 := Xt.trans hx5 hy7
        have ee8 : A7 0 7 = A5 0 7 := hy7.2 _ _ hS5.1.1 (((n0_7 hS7)).trans ((n0_7 hS5)).symm)
        try rw [← ee8]
        refine ⟨fun hc => ?_, fun hc => ?_⟩
        · have h := h.1 hc
          refine ⟨hS7.o (s0_7 hS7), ?_⟩
          have hS9 : Sh E (sI G7 (A7 0 7) 7 ((gI G7 (A7 0 7) 7) - 1)) A7 L7 P7 := Sh_sI (rfl : sI G7 (A7 0 7) 7 ((gI G7 (A7 0 7) 7) - 1) = sI G7 (A7 0 7) 7 ((gI G7 (A7 0 7) 7) - 1)) hS7 (s0_7 hS7) (okT_0 rfl)
          have h := h (pl (sI G7 (A7 0 7) 7 ((gI G7 (A7 0 7) 7) - 1)) A7 L7 P7) (pl_sI (rfl : sI G7 (A7 0 7) 7 ((gI G7 (A7 0 7) 7) - 1) = sI G7 (A7 0 7) 7 ((gI G7 (A7 0 7) 7) - 1)) hS7 (s0_7 hS7))
          have hx9 : Xt (pl G A L P) A (pl (sI G7 (A7 0 7) 7 ((gI G7 (A7 0 7) 7) - 1)) A7 L7 P7) A7 := Xt_sI (rfl : sI G7 (A7 0 7) 7 ((gI G7 (A7 0 7) 7) - 1) = sI G7 (A7 0 7) 7 ((gI G7 (A7 0 7) 7) - 1)) hx7
          rw [l0_7_2 hS7]
          obtain ⟨hg10, h⟩ := h
          have hg10 : PG L7 (P7).2 := hg10
          refine ⟨hS9.o (sP_9 hg10), ?_⟩
          refine wpM.mono (h (sI G7 (A7 0 7) 7 ((gI G7 (A7 0 7) 7) - 1)) A7 ⟨L7, P7, rfl, hS9⟩) (fun rr11 G11 hr => ?_)
          obtain ⟨A11, W11, w11, ⟨L11, P11, rfl, hS11⟩, hy11, rfl, r11, rfl, h⟩ := hr
          refine ⟨r11, rfl, ?_⟩
          have hx11 := Xt.trans hx9 hy11
          have hg12 : PG L11 (P7).2 := PG.up hy11 hg10
          have ee13 : A11 0 7 = A7 0 7 := hy11.2 _ _ hS9.1.1 (((n0_7 hS11)).trans ((n0_7 hS9)).symm)
          try rw [← ee13]
          exact ⟨bz_ok h.1, qx_i hS11 hx11 h.2⟩
        · have h := h.2 hc
          exact qx_i hS7 hx7 h
    · have h := h.2 hc
      exact qx_i hS3 hx3 h
  · have h := h.2 hc
    exact qx_i hS1 hx1 h
theorem w_X5_either_0 {E : EE} {d : Nat} {V : VH} {K : Int32 → VH → Prop}   (h0 : 0 < d) (h : vMI E (d - 1) M_X5_both [sl 0 7] V (fun r1 V1 => (¬ r1 = 0 → vwp E d M_X5_either 11 [some (sl 0 7), some (wi 0)] [] V1 (zi K)) ∧ (r1 = 0 → K 0 V1))) : vMI E d M_X5_either [sl 0 7] V K := by
  intro G A hR
  obtain ⟨L, P, rfl, hS⟩ := hR
  have hx := Xt.refl (V := pl G A L P) (A := A)
  show wpM E d M_X5_either [vr (A 0 7)] G _
  refine wpM_of mk_X5_either (Nat.le_of_ble_eq_true rfl) ?_
  refine v_X5_either_0 h0 ?_
  refine ⟨hS.o (s0_7 hS), ?_⟩
  refine wpM.mono (h G A ⟨L, P, rfl, hS⟩) (fun rr1 G1 hr => ?_)
  obtain ⟨A1, W1, w1, ⟨L1, P1, rfl, hS1⟩, hy1, rfl, r1, rfl, h⟩ := hr
  refine ⟨r1, rfl, ?_⟩
  have hx1 := Xt.trans hx hy1
  have ee2 : A1 0 7 = A 0 7 := hy1.2 _ _ hS.1.1 (((n0_7 hS1)).trans ((n0_7 hS)).symm)
  try rw [← ee2]
  refine ⟨fun hc => ?_, fun hc => ?_⟩
  · have h := h.1 hc
    exact wp.mono (h G1 A1 ⟨L1, P1, rfl, hS1⟩) (fun r G' q => qx_trans hx1 q)
  · have h := h.2 hc
    exact qx_i hS1 hx1 h
theorem w_X5_either_11 {E : EE} {d : Nat} {V : VH} {K : Int32 → VH → Prop} {x1 : Int32}  (h0 : 0 < d) (h : (20000 ≤ x1 → K 1 V) ∧ (¬ (20000 ≤ x1) → vMI E (d - 1) M_X10_is [sl 0 2, wi 124] V (fun r1 V1 => (r1 = 0 → K 1 V1) ∧ (¬ (r1 = 0) → vMV E (d - 1) M_X10_step [sl 0 2] V1 (fun V3 => vMI E (d - 1) M_X5_both [sl 0 7] V3 (fun r5 V5 => (¬ r5 = 0 → PG (vL V5) (vQ V5) ∧ (vMI E (d - 1) M_X2_emit [sl (vQ V5) 9, wi 20, wi 0] V5 (fun r8 V8 => vwp E d M_X5_either 11 [some (sl 0 7), some (wi (x1 + 1))] [] V8 (zi K)))) ∧ (r5 = 0 → K 0 V5))))))) : vwp E d M_X5_either 11 [some (sl 0 7), some (wi x1)] [] V (zi K) := by
  intro G A hR
  obtain ⟨L, P, rfl, hS⟩ := hR
  have hx := Xt.refl (V := pl G A L P) (A := A)
  show wp E d M_X5_either 11 [some (vr (A 0 7)), some (vi x1)] [] G _
  refine v_X5_either_11 h0 ?_
  refine ⟨fun hc => ?_, fun hc => ?_⟩
  · have h := h.1 hc
    exact qx_i hS hx h
  · have h := h.2 hc
    refine ⟨hS.o (s0_7 hS), ?_⟩
    rw [l0_7_0 hS]
    refine ⟨hS.o (s0_2 hS), ?_⟩
    refine wpM.mono (h G A ⟨L, P, rfl, hS⟩) (fun rr1 G1 hr => ?_)
    obtain ⟨A1, W1, w1, ⟨L1, P1, rfl, hS1⟩, hy1, rfl, r1, rfl, h⟩ := hr
    refine ⟨r1, rfl, ?_⟩
    have hx1 := Xt.trans hx hy1
    have ee2 : A1 0 7 = A 0 7 := hy1.2 _ _ hS.1.1 (((n0_7 hS1)).trans ((n0_7 hS)).symm)
    try rw [← ee2]
    refine ⟨fun hc => ?_, fun hc => ?_⟩
    · have h := h.1 hc
      exact qx_i hS1 hx1 h
    · have h := h.2 hc
      refine ⟨hS1.o (s0_7 hS1), ?_⟩
      rw [l0_7_0 hS1]
      refine ⟨hS1.o (s0_2 hS1), ?_⟩
      refine wpM.mono (h G1 A1 ⟨L1, P1, rfl, hS1⟩) (fun rr3 G3 hr => ?_)
      obtain ⟨A3, W3, w3, ⟨L3, P3, rfl, hS3⟩, hy3, rfl, rfl, h⟩ := hr
      refine ⟨rfl, ?_⟩
      have hx3 := Xt.trans hx1 hy3
      have ee4 : A3 0 7 = A1 0 7 := hy3.2 _ _ hS1.1.1 (((n0_7 hS3)).trans ((n0_7 hS1)).symm)
      try rw [← ee4]
      refine ⟨hS3.o (s0_7 hS3), ?_⟩
      refine wpM.mono (h G3 A3 ⟨L3, P3, rfl, hS3⟩) (fun rr5 G5 hr => ?_)
      obtain ⟨A5, W5, w5, ⟨L5, P5, rfl, hS5⟩, hy5, rfl, r5, rfl, h⟩ := hr
      refine ⟨r5, rfl, ?_⟩
      have hx5 := Xt.trans hx3 hy5
      have ee6 : A5 0 7 = A3 0 7 := hy5.2 _ _ hS3.1.1 (((n0_7 hS5)).trans ((n0_7 hS3)).symm)
      try rw [← ee6]
      refine ⟨fun hc => ?_, fun hc => ?_⟩
      · have h := h.1 hc
        refine ⟨hS5.o (s0_7 hS5), ?_⟩
        rw [l0_7_2 hS5]
        obtain ⟨hg7, h⟩ := h
        have hg7 : PG L5 (P5).2 := hg7
        refine ⟨hS5.o (sP_9 hg7), ?_⟩
        refine wpM.mono (h G5 A5 ⟨L5, P5, rfl, hS5⟩) (fun rr8 G8 hr => ?_)
        obtain ⟨A8, W8, w8, ⟨L8, P8, rfl, hS8⟩, hy8, rfl, r8, rfl, h⟩ := hr
        refine ⟨r8, rfl, ?_⟩
        have hx8 := Xt.trans hx5 hy8
        have hg9 : PG L8 (P5).2 := PG.up hy8 hg7
        have ee10 : A8 0 7 = A5 0 7 := hy8.2 _ _ hS5.1.1 (((n0_7 hS8)).trans ((n0_7 hS5)).symm)
        try rw [← ee10]
        exact wp.mono (h G8 A8 ⟨L8, P8, rfl, hS8⟩) (fun r G' q => qx_trans hx8 q)
      · have h := h.2 hc
        exact qx_i hS5 hx5 h
theorem w_X5_both_0 {E : EE} {d : Nat} {V : VH} {K : Int32 → VH → Prop}   (h0 : 0 < d) (h : vMI E (d - 1) M_X5_unit [sl 0 7] V (fun r1 V1 => (¬ r1 = 0 → vwp E d M_X5_both 11 [some (sl 0 7), some (wi 0)] [] V1 (zi K)) ∧ (r1 = 0 → K 0 V1))) : vMI E d M_X5_both [sl 0 7] V K := by
  intro G A hR
  obtain ⟨L, P, rfl, hS⟩ := hR
  have hx := Xt.refl (V := pl G A L P) (A := A)
  show wpM E d M_X5_both [vr (A 0 7)] G _
  refine wpM_of mk_X5_both (Nat.le_of_ble_eq_true rfl) ?_
  refine v_X5_both_0 h0 ?_
  refine ⟨hS.o (s0_7 hS), ?_⟩
  refine wpM.mono (h G A ⟨L, P, rfl, hS⟩) (fun rr1 G1 hr => ?_)
  obtain ⟨A1, W1, w1, ⟨L1, P1, rfl, hS1⟩, hy1, rfl, r1, rfl, h⟩ := hr
  refine ⟨r1, rfl, ?_⟩
  have hx1 := Xt.trans hx hy1
  have ee2 : A1 0 7 = A 0 7 := hy1.2 _ _ hS.1.1 (((n0_7 hS1)).trans ((n0_7 hS)).symm)
  try rw [← ee2]
  refine ⟨fun hc => ?_, fun hc => ?_⟩
  · have h := h.1 hc
    exact wp.mono (h G1 A1 ⟨L1, P1, rfl, hS1⟩) (fun r G' q => qx_trans hx1 q)
  · have h := h.2 hc
    exact qx_i hS1 hx1 h
theorem w_X5_both_11 {E : EE} {d : Nat} {V : VH} {K : Int32 → VH → Prop} {x1 : Int32}  (h0 : 0 < d) (h : (20000 ≤ x1 → K 1 V) ∧ (¬ (20000 ≤ x1) → vMI E (d - 1) M_X10_is [sl 0 2, wi 38] V (fun r1 V1 => (r1 = 0 → K 1 V1) ∧ (¬ (r1 = 0) → vMV E (d - 1) M_X10_step [sl 0 2] V1 (fun V3 => vMI E (d - 1) M_X5_unit [sl 0 7] V3 (fun r5 V5 => (¬ r5 = 0 → PG (vL V5) (vQ V5) ∧ (vMI E (d - 1) M_X2_emit [sl (vQ V5) 9, wi 19, wi 0] V5 (fun r8 V8 => vwp E d M_X5_both 11 [some (sl 0 7), some (wi (x1 + 1))] [] V8 (zi K)))) ∧ (r5 = 0 → K 0 V5))))))) : vwp E d M_X5_both 11 [some (sl 0 7), some (wi x1)] [] V (zi K) := by
  intro G A hR
  obtain ⟨L, P, rfl, hS⟩ := hR
  have hx := Xt.refl (V := pl G A L P) (A := A)
  show wp E d M_X5_both 11 [some (vr (A 0 7)), some (vi x1)] [] G _
  refine v_X5_both_11 h0 ?_
  refine ⟨fun hc => ?_, fun hc => ?_⟩
  · have h := h.1 hc
    exact qx_i hS hx h
  · have h := h.2 hc
    refine ⟨hS.o (s0_7 hS), ?_⟩
    rw [l0_7_0 hS]
    refine ⟨hS.o (s0_2 hS), ?_⟩
    refine wpM.mono (h G A ⟨L, P, rfl, hS⟩) (fun rr1 G1 hr => ?_)
    obtain ⟨A1, W1, w1, ⟨L1, P1, rfl, hS1⟩, hy1, rfl, r1, rfl, h⟩ := hr
    refine ⟨r1, rfl, ?_⟩
    have hx1 := Xt.trans hx hy1
    have ee2 : A1 0 7 = A 0 7 := hy1.2 _ _ hS.1.1 (((n0_7 hS1)).trans ((n0_7 hS)).symm)
    try rw [← ee2]
    refine ⟨fun hc => ?_, fun hc => ?_⟩
    · have h := h.1 hc
      exact qx_i hS1 hx1 h
    · have h := h.2 hc
      refine ⟨hS1.o (s0_7 hS1), ?_⟩
      rw [l0_7_0 hS1]
      refine ⟨hS1.o (s0_2 hS1), ?_⟩
      refine wpM.mono (h G1 A1 ⟨L1, P1, rfl, hS1⟩) (fun rr3 G3 hr => ?_)
      obtain ⟨A3, W3, w3, ⟨L3, P3, rfl, hS3⟩, hy3, rfl, rfl, h⟩ := hr
      refine ⟨rfl, ?_⟩
      have hx3 := Xt.trans hx1 hy3
      have ee4 : A3 0 7 = A1 0 7 := hy3.2 _ _ hS1.1.1 (((n0_7 hS3)).trans ((n0_7 hS1)).symm)
      try rw [← ee4]
      refine ⟨hS3.o (s0_7 hS3), ?_⟩
      refine wpM.mono (h G3 A3 ⟨L3, P3, rfl, hS3⟩) (fun rr5 G5 hr => ?_)
      obtain ⟨A5, W5, w5, ⟨L5, P5, rfl, hS5⟩, hy5, rfl, r5, rfl, h⟩ := hr
      refine ⟨r5, rfl, ?_⟩
      have hx5 := Xt.trans hx3 hy5
      have ee6 : A5 0 7 = A3 0 7 := hy5.2 _ _ hS3.1.1 (((n0_7 hS5)).trans ((n0_7 hS3)).symm)
      try rw [← ee6]
      refine ⟨fun hc => ?_, fun hc => ?_⟩
      · have h := h.1 hc
        refine ⟨hS5.o (s0_7 hS5), ?_⟩
        rw [l0_7_2 hS5]
        obtain ⟨hg7, h⟩ := h
        have hg7 : PG L5 (P5).2 := hg7
        refine ⟨hS5.o (sP_9 hg7), ?_⟩
        refine wpM.mono (h G5 A5 ⟨L5, P5, rfl, hS5⟩) (fun rr8 G8 hr => ?_)
        obtain ⟨A8, W8, w8, ⟨L8, P8, rfl, hS8⟩, hy8, rfl, r8, rfl, h⟩ := hr
        refine ⟨r8, rfl, ?_⟩
        have hx8 := Xt.trans hx5 hy8
        have hg9 : PG L8 (P5).2 := PG.up hy8 hg7
        have ee10 : A8 0 7 = A5 0 7 := hy8.2 _ _ hS5.1.1 (((n0_7 hS8)).trans ((n0_7 hS5)).symm)
        try rw [← ee10]
        exact wp.mono (h G8 A8 ⟨L8, P8, rfl, hS8⟩) (fun r G' q => qx_trans hx8 q)
      · have h := h.2 hc
        exact qx_i hS5 hx5 h
theorem w_X5_unit_0 {E : EE} {d : Nat} {V : VH} {K : Int32 → VH → Prop}   (h0 : 0 < d) (h : vMI E (d - 1) M_X10_is [sl 0 2, wi 126] V (fun r1 V1 => (r1 = 0 → vMI E (d - 1) M_X10_is [sl 0 2, wi 123] V1 (fun r3 V3 => (r3 = 0 → (¬ (vI V3 0 2 6) = 4 → vwp E d M_X5_unit 209 [some (sl 0 7), none] [] V3 (zi K)) ∧ ((vI V3 0 2 6) = 4 → ((vJ V3 0 2 7) < 6 → vwp E d M_X5_unit 209 [some (sl 0 7), none] [] V3 (zi K)) ∧ (¬ ((vJ V3 0 2 7) < 6) → (12 < (vJ V3 0 2 7) → vwp E d M_X5_unit 209 [some (sl 0 7), none] [] V3 (zi K)) ∧ (¬ (12 < (vJ V3 0 2 7)) → vMV E (d - 1) M_X10_step [sl 0 2] V3 (fun V5 => PG (vL V5) (vQ V5) ∧ (vMI E (d - 1) M_X2_emit [sl (vQ V5) 9, wi ((22 + (Int64.toInt32 (vJ V3 0 2 7))) - 6), wi (vI V5 (vQ V5) 9 3)] V5 (fun r8 V8 => vMI E (d - 1) M_X10_accept [sl 0 2, wi 40] V8 (fun r11 V11 => (r11 = 0 → K 0 V11) ∧ (¬ (r11 = 0) → vMI E (d - 1) M_X5_lists [sl 0 7, wi ((22 + (Int64.toInt32 (vJ V3 0 2 7))) - 6)] V11 (fun r14 V14 => (r14 = 0 → K 0 V14) ∧ (¬ (r14 = 0) → vMI E (d - 1) M_X10_accept [sl 0 2, wi 41] V14 (fun r17 V17 => (r17 = 0 → K 0 V17) ∧ (¬ (r17 = 0) → K 1 V17))))))))))))) ∧ (¬ (r3 = 0) → vMI E (d - 1) M_X5_enter [sl 0 7, wi 123] V3 (fun r20 V20 => (r20 = 0 → K 0 V20) ∧ (¬ (r20 = 0) → vMI E (d - 1) M_X5_test [sl 0 7] V20 (fun r22 V22 => (r22 = 0 → K 0 V22) ∧ (¬ (r22 = 0) → vMI E (d - 1) M_X5_leave [sl 0 7, wi 125] V22 (fun r24 V24 => (r24 = 0 → K 0 V24) ∧ (¬ (r24 = 0) → K 1 V24))))))))) ∧ (¬ (r1 = 0) → vMI E (d - 1) M_X5_enter [sl 0 7, wi 126] V1 (fun r26 V26 => (r26 = 0 → K 0 V26) ∧ (¬ (r26 = 0) → vMI E (d - 1) M_X5_unit [sl 0 7] V26 (fun r28 V28 => (¬ r28 = 0 → ∀ V30 : VH, V30 = wrI V28 0 7 7 ((vI V28 0 7 7) - 1) → PG (vL V30) (vQ V30) ∧ (vMI E (d - 1) M_X2_emit [sl (vQ V30) 9, wi 6, wi 0] V30 (fun r32 V32 => bz r32 ∧ K r32 V32))) ∧ (r28 = 0 → K 0 V28))))))) : vMI E d M_X5_unit [sl 0 7] V K := by
  intro G A hR
  obtain ⟨L, P, rfl, hS⟩ := hR
  have hx := Xt.refl (V := pl G A L P) (A := A)
  show wpM E d M_X5_unit [vr (A 0 7)] G _
  refine wpM_of mk_X5_unit (Nat.le_of_ble_eq_true rfl) ?_
  refine v_X5_unit_0 h0 ?_
  refine ⟨hS.o (s0_7 hS), ?_⟩
  rw [l0_7_0 hS]
  refine ⟨hS.o (s0_2 hS), ?_⟩
  refine wpM.mono (h G A ⟨L, P, rfl, hS⟩) (fun rr1 G1 hr => ?_)
  obtain ⟨A1, W1, w1, ⟨L1, P1, rfl, hS1⟩, hy1, rfl, r1, rfl, h⟩ := hr
  refine ⟨r1, rfl, ?_⟩
  have hx1 := Xt.trans hx hy1
  have ee2 : A1 0 7 = A 0 7 := hy1.2 _ _ hS.1.1 (((n0_7 hS1)).trans ((n0_7 hS)).symm)
  try rw [← ee2]
  refine ⟨fun hc => ?_, fun hc => ?_⟩
  · have h := h.1 hc
    refine ⟨hS1.o (s0_7 hS1), ?_⟩
    rw [l0_7_0 hS1]
    refine ⟨hS1.o (s0_2 hS1), ?_⟩
    refine wpM.mono (h G1 A1 ⟨L1, P1, rfl, hS1⟩) (fun rr3 G3 hr => ?_)
    obtain ⟨A3, W3, w3, ⟨L3, P3, rfl, hS3⟩, hy3, rfl, r3, rfl, h⟩ := hr
    refine ⟨r3, rfl, ?_⟩
    have hx3 := Xt.trans hx1 hy3
    have ee4 : A3 0 7 = A1 0 7 := hy3.2 _ _ hS1.1.1 (((n0_7 hS3)).trans ((n0_7 hS1)).symm)
    try rw [← ee4]
    refine ⟨fun hc => ?_, fun hc => ?_⟩
    · have h := h.1 hc
      refine ⟨hS3.o (s0_7 hS3), ?_⟩
      rw [l0_7_0 hS3]
      refine ⟨hS3.o (s0_2 hS3), ?_⟩
      refine ⟨fun hc => ?_, fun hc => ?_⟩
      · have h := h.1 hc
        exact wp.mono (h G3 A3 ⟨L3, P3, rfl, hS3⟩) (fun r G' q => qx_trans hx3 q)
      · have h := h.2 hc
        refine ⟨fun hc => ?_, fun hc => ?_⟩
        · have h := h.1 hc
          exact wp.mono (h G3 A3 ⟨L3, P3, rfl, hS3⟩) (fun r G' q => qx_trans hx3 q)
        · have h := h.2 hc
          refine ⟨fun hc => ?_, fun hc => ?_⟩
          · have h := h.1 hc
            exact wp.mono (h G3 A3 ⟨L3, P3, rfl, hS3⟩) (fun r G' q => qx_trans hx3 q)
          · have h := h.2 hc
            refine wpM.mono (h G3 A3 ⟨L3, P3, rfl, hS3⟩) (fun rr5 G5 hr => ?_)
            obtain ⟨A5, W5, w5, ⟨L5, P5, rfl, hS5⟩, hy5, rfl, rfl, h⟩ := hr
            refine ⟨rfl, ?_⟩
            have hx5 := Xt.trans hx3 hy5
            have ee6 : A5 0 7 = A3 0 7 := hy5.2 _ _ hS3.1.1 (((n0_7 hS5)).trans ((n0_7 hS3)).symm)
            try rw [← ee6]
            refine ⟨hS5.o (s0_7 hS5), ?_⟩
            rw [l0_7_2 hS5]
            obtain ⟨hg7, h⟩ := h
            have hg7 : PG L5 (P5).2 := hg7
            refine ⟨hS5.o (sP_9 hg7), ?_⟩
            refine wpM.mono (h G5 A5 ⟨L5, P5, rfl, hS5⟩) (fun rr8 G8 hr => ?_)
            obtain ⟨A8, W8, w8, ⟨L8, P8, rfl, hS8⟩, hy8, rfl, r8, rfl, h⟩ := hr
            refine ⟨r8, rfl, ?_⟩
            have hx8 := Xt.trans hx5 hy8
            have hg9 : PG L8 (P5).2 := PG.up hy8 hg7
            have ee10 : A8 0 7 = A5 0 7 := hy8.2 _ _ hS5.1.1 (((n0_7 hS8)).trans ((n0_7 hS5)).symm)
            try rw [← ee10]
            refine ⟨hS8.o (s0_7 hS8), ?_⟩
            rw [l0_7_0 hS8]
            refine ⟨hS8.o (s0_2 hS8), ?_⟩
            refine wpM.mono (h G8 A8 ⟨L8, P8, rfl, hS8⟩) (fun rr11 G11 hr => ?_)
            obtain ⟨A11, W11, w11, ⟨L11, P11, rfl, hS11⟩, hy11, rfl, r11, rfl, h⟩ := hr
            refine ⟨r11, rfl, ?_⟩
            have hx11 := Xt.trans hx8 hy11
            have hg12 : PG L11 (P5).2 := PG.up hy11 hg9
            have ee13 : A11 0 7 = A8 0 7 := hy11.2 _ _ hS8.1.1 (((n0_7 hS11)).trans ((n0_7 hS8)).symm)
            try rw [← ee13]
            refine ⟨fun hc => ?_, fun hc => ?_⟩
            · have h := h.1 hc
              exact qx_i hS11 hx11 h
            · have h := h.2 hc
              refine ⟨hS11.o (s0_7 hS11), ?_⟩
              refine wpM.mono (h G11 A11 ⟨L11, P11, rfl, hS11⟩) (fun rr14 G14 hr => ?_)
              obtain ⟨A14, W14, w14, ⟨L14, P14, rfl, hS14⟩, hy14, rfl, r14, rfl, h⟩ := hr
              refine ⟨r14, rfl, ?_⟩
              have hx14 := Xt.trans hx11 hy14
              have hg15 : PG L14 (P5).2 := PG.up hy14 hg12
              have ee16 : A14 0 7 = A11 0 7 := hy14.2 _ _ hS11.1.1 (((n0_7 hS14)).trans ((n0_7 hS11)).symm)
              try rw [← ee16]
              refine ⟨fun hc => ?_, fun hc => ?_⟩
              · have h := h.1 hc
                exact qx_i hS14 hx14 h
              · have h := h.2 hc
                refine ⟨hS14.o (s0_7 hS14), ?_⟩
                rw [l0_7_0 hS14]
                refine ⟨hS14.o (s0_2 hS14), ?_⟩
                refine wpM.mono (h G14 A14 ⟨L14, P14, rfl, hS14⟩) (fun rr17 G17 hr => ?_)
                obtain ⟨A17, W17, w17, ⟨L17, P17, rfl, hS17⟩, hy17, rfl, r17, rfl, h⟩ := hr
                refine ⟨r17, rfl, ?_⟩
                have hx17 := Xt.trans hx14 hy17
                have hg18 : PG L17 (P5).2 := PG.up hy17 hg15
                have ee19 : A17 0 7 = A14 0 7 := hy17.2 _ _ hS14.1.1 (((n0_7 hS17)).trans ((n0_7 hS14)).symm)
                try rw [← ee19]
                refine ⟨fun hc => ?_, fun hc => ?_⟩
                · have h := h.1 hc
                  exact qx_i hS17 hx17 h
                · have h := h.2 hc
                  exact qx_i hS17 hx17 h
    · have h := h.2 hc
      refine ⟨hS3.o (s0_7 hS3), ?_⟩
      refine wpM.mono (h G3 A3 ⟨L3, P3, rfl, hS3⟩) (fun rr20 G20 hr => ?_)
      obtain ⟨A20, W20, w20, ⟨L20, P20, rfl, hS20⟩, hy20, rfl, r20, rfl, h⟩ := hr
      refine ⟨r20, rfl, ?_⟩
      have hx20 := Xt.trans hx3 hy20
      have ee21 : A20 0 7 = A3 0 7 := hy20.2 _ _ hS3.1.1 (((n0_7 hS20)).trans ((n0_7 hS3)).symm)
      try rw [← ee21]
      refine ⟨fun hc => ?_, fun hc => ?_⟩
      · have h := h.1 hc
        exact qx_i hS20 hx20 h
      · have h := h.2 hc
        refine ⟨hS20.o (s0_7 hS20), ?_⟩
        refine wpM.mono (h G20 A20 ⟨L20, P20, rfl, hS20⟩) (fun rr22 G22 hr => ?_)
        obtain ⟨A22, W22, w22, ⟨L22, P22, rfl, hS22⟩, hy22, rfl, r22, rfl, h⟩ := hr
        refine ⟨r22, rfl, ?_⟩
        have hx22 := Xt.trans hx20 hy22
        have ee23 : A22 0 7 = A20 0 7 := hy22.2 _ _ hS20.1.1 (((n0_7 hS22)).trans ((n0_7 hS20)).symm)
        try rw [← ee23]
        refine ⟨fun hc => ?_, fun hc => ?_⟩
        · have h := h.1 hc
          exact qx_i hS22 hx22 h
        · have h := h.2 hc
          refine ⟨hS22.o (s0_7 hS22), ?_⟩
          refine wpM.mono (h G22 A22 ⟨L22, P22, rfl, hS22⟩) (fun rr24 G24 hr => ?_)
          obtain ⟨A24, W24, w24, ⟨L24, P24, rfl, hS24⟩, hy24, rfl, r24, rfl, h⟩ := hr
          refine ⟨r24, rfl, ?_⟩
          have hx24 := Xt.trans hx22 hy24
          have ee25 : A24 0 7 = A22 0 7 := hy24.2 _ _ hS22.1.1 (((n0_7 hS24)).trans ((n0_7 hS22)).symm)
          try rw [← ee25]
          refine ⟨fun hc => ?_, fun hc => ?_⟩
          · have h := h.1 hc
            exact qx_i hS24 hx24 h
          · have h := h.2 hc
            exact qx_i hS24 hx24 h
  · have h := h.2 hc
    refine ⟨hS1.o (s0_7 hS1), ?_⟩
    refine wpM.mono (h G1 A1 ⟨L1, P1, rfl, hS1⟩) (fun rr26 G26 hr => ?_)
    obtain ⟨A26, W26, w26, ⟨L26, P26, rfl, hS26⟩, hy26, rfl, r26, rfl, h⟩ := hr
    refine ⟨r26, rfl, ?_⟩
    have hx26 := Xt.trans hx1 hy26
    have ee27 : A26 0 7 = A1 0 7 := hy26.2 _ _ hS1.1.1 (((n0_7 hS26)).trans ((n0_7 hS1)).symm)
    try rw [← ee27]
    refine ⟨fun hc => ?_, fun hc => ?_⟩
    · have h := h.1 hc
      exact qx_i hS26 hx26 h
    · have h := h.2 hc
      refine ⟨hS26.o (s0_7 hS26), ?_⟩
      refine wpM.mono (h G26 A26 ⟨L26, P26, rfl, hS26⟩) (fun rr28 G28 hr => ?_)
      obtain ⟨A28, W28, w28, ⟨L28, P28, rfl, hS28⟩, hy28, rfl, r28, rfl, h⟩ := hr
      refine ⟨r28, rfl, ?_⟩
      have hx28 := Xt.trans hx26 hy28
      have ee29 : A28 0 7 = A26 0 7 := hy28.2 _ _ hS26.1.1 (((n0_7 hS28)).trans ((n0_7 hS26)).symm)
      try rw [← ee29]
      refine ⟨fun hc => ?_, fun hc => ?_⟩
      · have h := h.1 hc
        refine ⟨hS28.o (s0_7 hS28), ?_⟩
        have hS30 : Sh E (sI G28 (A28 0 7) 7 ((gI G28 (A28 0 7) 7) - 1)) A28 L28 P28 := Sh_sI (rfl : sI G28 (A28 0 7) 7 ((gI G28 (A28 0 7) 7) - 1) = sI G28 (A28 0 7) 7 ((gI G28 (A28 0 7) 7) - 1)) hS28 (s0_7 hS28) (okT_0 rfl)
        have h := h (pl (sI G28 (A28 0 7) 7 ((gI G28 (A28 0 7) 7) - 1)) A28 L28 P28) (pl_sI (rfl : sI G28 (A28 0 7) 7 ((gI G28 (A28 0 7) 7) - 1) = sI G28 (A28 0 7) 7 ((gI G28 (A28 0 7) 7) - 1)) hS28 (s0_7 hS28))
        have hx30 : Xt (pl G A L P) A (pl (sI G28 (A28 0 7) 7 ((gI G28 (A28 0 7) 7) - 1)) A28 L28 P28) A28 := Xt_sI (rfl : sI G28 (A28 0 7) 7 ((gI G28 (A28 0 7) 7) - 1) = sI G28 (A28 0 7) 7 ((gI G28 (A28 0 7) 7) - 1)) hx28
        rw [l0_7_2 hS28]
        obtain ⟨hg31, h⟩ := h
        have hg31 : PG L28 (P28).2 := hg31
        refine ⟨hS30.o (sP_9 hg31), ?_⟩
        refine wpM.mono (h (sI G28 (A28 0 7) 7 ((gI G28 (A28 0 7) 7) - 1)) A28 ⟨L28, P28, rfl, hS30⟩) (fun rr32 G32 hr => ?_)
        obtain ⟨A32, W32, w32, ⟨L32, P32, rfl, hS32⟩, hy32, rfl, r32, rfl, h⟩ := hr
        refine ⟨r32, rfl, ?_⟩
        have hx32 := Xt.trans hx30 hy32
        have hg33 : PG L32 (P28).2 := PG.up hy32 hg31
        have ee34 : A32 0 7 = A28 0 7 := hy32.2 _ _ hS30.1.1 (((n0_7 hS32)).trans ((n0_7 hS30)).symm)
        try rw [← ee34]
        exact ⟨bz_ok h.1, qx_i hS32 hx32 h.2⟩
      · have h := h.2 hc
        exact qx_i hS28 hx28 h
theorem w_X5_unit_209 {E : EE} {d : Nat} {V : VH} {K : Int32 → VH → Prop}   (h0 : 0 < d) (h : vMI E (d - 1) M_X5_sum [sl 0 7] V (fun r1 V1 => (¬ r1 = 0 → vMI E (d - 1) M_X5_comparison [sl 0 7] V1 (fun r3 V3 => (0 ≤ r3 → vMV E (d - 1) M_X10_step [sl 0 2] V3 (fun V5 => vMI E (d - 1) M_X5_sum [sl 0 7] V5 (fun r7 V7 => (r7 = 0 → K 0 V7) ∧ (¬ (r7 = 0) → PG (vL V7) (vQ V7) ∧ (vMI E (d - 1) M_X2_emit [sl (vQ V7) 9, wi r3, wi 0] V7 (fun r10 V10 => (r10 = 0 → K 0 V10) ∧ (¬ (r10 = 0) → K 1 V10))))))) ∧ (¬ (0 ≤ r3) → vMI E (d - 1) M_X10_refuse [sl 0 2] V3 (fun r13 V13 => bz r13 ∧ K r13 V13)))) ∧ (r1 = 0 → K 0 V1))) : vwp E d M_X5_unit 209 [some (sl 0 7), none] [] V (zi K) := by
  intro G A hR
  obtain ⟨L, P, rfl, hS⟩ := hR
  have hx := Xt.refl (V := pl G A L P) (A := A)
  show wp E d M_X5_unit 209 [some (vr (A 0 7)), none] [] G _
  refine v_X5_unit_209 h0 ?_
  refine ⟨hS.o (s0_7 hS), ?_⟩
  refine wpM.mono (h G A ⟨L, P, rfl, hS⟩) (fun rr1 G1 hr => ?_)
  obtain ⟨A1, W1, w1, ⟨L1, P1, rfl, hS1⟩, hy1, rfl, r1, rfl, h⟩ := hr
  refine ⟨r1, rfl, ?_⟩
  have hx1 := Xt.trans hx hy1
  have ee2 : A1 0 7 = A 0 7 := hy1.2 _ _ hS.1.1 (((n0_7 hS1)).trans ((n0_7 hS)).symm)
  try rw [← ee2]
  refine ⟨fun hc => ?_, fun hc => ?_⟩
  · have h := h.1 hc
    refine ⟨hS1.o (s0_7 hS1), ?_⟩
    refine wpM.mono (h G1 A1 ⟨L1, P1, rfl, hS1⟩) (fun rr3 G3 hr => ?_)
    obtain ⟨A3, W3, w3, ⟨L3, P3, rfl, hS3⟩, hy3, rfl, r3, rfl, h⟩ := hr
    refine ⟨r3, rfl, ?_⟩
    have hx3 := Xt.trans hx1 hy3
    have ee4 : A3 0 7 = A1 0 7 := hy3.2 _ _ hS1.1.1 (((n0_7 hS3)).trans ((n0_7 hS1)).symm)
    try rw [← ee4]
    refine ⟨fun hc => ?_, fun hc => ?_⟩
    · have h := h.1 hc
      refine ⟨hS3.o (s0_7 hS3), ?_⟩
      rw [l0_7_0 hS3]
      refine ⟨hS3.o (s0_2 hS3), ?_⟩
      refine wpM.mono (h G3 A3 ⟨L3, P3, rfl, hS3⟩) (fun rr5 G5 hr => ?_)
      obtain ⟨A5, W5, w5, ⟨L5, P5, rfl, hS5⟩, hy5, rfl, rfl, h⟩ := hr
      refine ⟨rfl, ?_⟩
      have hx5 := Xt.trans hx3 hy5
      have ee6 : A5 0 7 = A3 0 7 := hy5.2 _ _ hS3.1.1 (((n0_7 hS5)).trans ((n0_7 hS3)).symm)
      try rw [← ee6]
      refine ⟨hS5.o (s0_7 hS5), ?_⟩
      refine wpM.mono (h G5 A5 ⟨L5, P5, rfl, hS5⟩) (fun rr7 G7 hr => ?_)
      obtain ⟨A7, W7, w7, ⟨L7, P7, rfl, hS7⟩, hy7, rfl, r7, rfl, h⟩ := hr
      refine ⟨r7, rfl, ?_⟩
      have hx7 := Xt.trans hx5 hy7
      have ee8 : A7 0 7 = A5 0 7 := hy7.2 _ _ hS5.1.1 (((n0_7 hS7)).trans ((n0_7 hS5)).symm)
      try rw [← ee8]
      refine ⟨fun hc => ?_, fun hc => ?_⟩
      · have h := h.1 hc
        exact qx_i hS7 hx7 h
      · have h := h.2 hc
        refine ⟨hS7.o (s0_7 hS7), ?_⟩
        rw [l0_7_2 hS7]
        obtain ⟨hg9, h⟩ := h
        have hg9 : PG L7 (P7).2 := hg9
        refine ⟨hS7.o (sP_9 hg9), ?_⟩
        refine wpM.mono (h G7 A7 ⟨L7, P7, rfl, hS7⟩) (fun rr10 G10 hr => ?_)
        obtain ⟨A10, W10, w10, ⟨L10, P10, rfl, hS10⟩, hy10, rfl, r10, rfl, h⟩ := hr
        refine ⟨r10, rfl, ?_⟩
        have hx10 := Xt.trans hx7 hy10
        have hg11 : PG L10 (P7).2 := PG.up hy10 hg9
        have ee12 : A10 0 7 = A7 0 7 := hy10.2 _ _ hS7.1.1 (((n0_7 hS10)).trans ((n0_7 hS7)).symm)
        try rw [← ee12]
        refine ⟨fun hc => ?_, fun hc => ?_⟩
        · have h := h.1 hc
          exact qx_i hS10 hx10 h
        · have h := h.2 hc
          exact qx_i hS10 hx10 h
    · have h := h.2 hc
      refine ⟨hS3.o (s0_7 hS3), ?_⟩
      rw [l0_7_0 hS3]
      refine ⟨hS3.o (s0_2 hS3), ?_⟩
      refine wpM.mono (h G3 A3 ⟨L3, P3, rfl, hS3⟩) (fun rr13 G13 hr => ?_)
      obtain ⟨A13, W13, w13, ⟨L13, P13, rfl, hS13⟩, hy13, rfl, r13, rfl, h⟩ := hr
      refine ⟨r13, rfl, ?_⟩
      have hx13 := Xt.trans hx3 hy13
      have ee14 : A13 0 7 = A3 0 7 := hy13.2 _ _ hS3.1.1 (((n0_7 hS13)).trans ((n0_7 hS3)).symm)
      try rw [← ee14]
      exact ⟨bz_ok h.1, qx_i hS13 hx13 h.2⟩
  · have h := h.2 hc
    exact qx_i hS1 hx1 h
theorem w_X5_enter_0 {E : EE} {d : Nat} {V : VH} {K : Int32 → VH → Prop} {x1 : Int32}  (h0 : 0 < d) (h : vMI E (d - 1) M_X10_is [sl 0 2, wi x1] V (fun r1 V1 => (¬ r1 = 0 → ((vI V1 0 7 7) < 12 → ∀ V3 : VH, V3 = wrI V1 0 7 7 ((vI V1 0 7 7) + 1) → vMV E (d - 1) M_X10_step [sl 0 2] V3 (fun V4 => K 1 V4)) ∧ (¬ ((vI V1 0 7 7) < 12) → vMI E (d - 1) M_X10_fail [sl 0 2, wi 7, wi (vI V1 0 2 8)] V1 (fun r6 V6 => bz r6 ∧ K r6 V6))) ∧ (r1 = 0 → vMI E (d - 1) M_X10_refuse [sl 0 2] V1 (fun r8 V8 => bz r8 ∧ K r8 V8)))) : vMI E d M_X5_enter [sl 0 7, wi x1] V K := by
  intro G A hR
  obtain ⟨L, P, rfl, hS⟩ := hR
  have hx := Xt.refl (V := pl G A L P) (A := A)
  show wpM E d M_X5_enter [vr (A 0 7), vi x1] G _
  refine wpM_of mk_X5_enter (Nat.le_of_ble_eq_true rfl) ?_
  refine v_X5_enter_0 h0 ?_
  refine ⟨hS.o (s0_7 hS), ?_⟩
  rw [l0_7_0 hS]
  refine ⟨hS.o (s0_2 hS), ?_⟩
  refine wpM.mono (h G A ⟨L, P, rfl, hS⟩) (fun rr1 G1 hr => ?_)
  obtain ⟨A1, W1, w1, ⟨L1, P1, rfl, hS1⟩, hy1, rfl, r1, rfl, h⟩ := hr
  refine ⟨r1, rfl, ?_⟩
  have hx1 := Xt.trans hx hy1
  have ee2 : A1 0 7 = A 0 7 := hy1.2 _ _ hS.1.1 (((n0_7 hS1)).trans ((n0_7 hS)).symm)
  try rw [← ee2]
  refine ⟨fun hc => ?_, fun hc => ?_⟩
  · have h := h.1 hc
    refine ⟨hS1.o (s0_7 hS1), ?_⟩
    refine ⟨fun hc => ?_, fun hc => ?_⟩
    · have h := h.1 hc
      have hS3 : Sh E (sI G1 (A1 0 7) 7 ((gI G1 (A1 0 7) 7) + 1)) A1 L1 P1 := Sh_sI (rfl : sI G1 (A1 0 7) 7 ((gI G1 (A1 0 7) 7) + 1) = sI G1 (A1 0 7) 7 ((gI G1 (A1 0 7) 7) + 1)) hS1 (s0_7 hS1) (okT_0 rfl)
      have h := h (pl (sI G1 (A1 0 7) 7 ((gI G1 (A1 0 7) 7) + 1)) A1 L1 P1) (pl_sI (rfl : sI G1 (A1 0 7) 7 ((gI G1 (A1 0 7) 7) + 1) = sI G1 (A1 0 7) 7 ((gI G1 (A1 0 7) 7) + 1)) hS1 (s0_7 hS1))
      have hx3 : Xt (pl G A L P) A (pl (sI G1 (A1 0 7) 7 ((gI G1 (A1 0 7) 7) + 1)) A1 L1 P1) A1 := Xt_sI (rfl : sI G1 (A1 0 7) 7 ((gI G1 (A1 0 7) 7) + 1) = sI G1 (A1 0 7) 7 ((gI G1 (A1 0 7) 7) + 1)) hx1
      rw [l0_7_0 hS1]
      refine ⟨hS3.o (s0_2 hS3), ?_⟩
      refine wpM.mono (h (sI G1 (A1 0 7) 7 ((gI G1 (A1 0 7) 7) + 1)) A1 ⟨L1, P1, rfl, hS3⟩) (fun rr4 G4 hr => ?_)
      obtain ⟨A4, W4, w4, ⟨L4, P4, rfl, hS4⟩, hy4, rfl, rfl, h⟩ := hr
      refine ⟨rfl, ?_⟩
      have hx4 := Xt.trans hx3 hy4
      have ee5 : A4 0 7 = A1 0 7 := hy4.2 _ _ hS3.1.1 (((n0_7 hS4)).trans ((n0_7 hS3)).symm)
      try rw [← ee5]
      exact qx_i hS4 hx4 h
    · have h := h.2 hc
      rw [l0_7_0 hS1]
      refine ⟨hS1.o (s0_2 hS1), ?_⟩
      refine wpM.mono (h G1 A1 ⟨L1, P1, rfl, hS1⟩) (fun rr6 G6 hr => ?_)
      obtain ⟨A6, W6, w6, ⟨L6, P6, rfl, hS6⟩, hy6, rfl, r6, rfl, h⟩ := hr
      refine ⟨r6, rfl, ?_⟩
      have hx6 := Xt.trans hx1 hy6
      have ee7 : A6 0 7 = A1 0 7 := hy6.2 _ _ hS1.1.1 (((n0_7 hS6)).trans ((n0_7 hS1)).symm)
      try rw [← ee7]
      exact ⟨bz_ok h.1, qx_i hS6 hx6 h.2⟩
  · have h := h.2 hc
    refine ⟨hS1.o (s0_7 hS1), ?_⟩
    rw [l0_7_0 hS1]
    refine ⟨hS1.o (s0_2 hS1), ?_⟩
    refine wpM.mono (h G1 A1 ⟨L1, P1, rfl, hS1⟩) (fun rr8 G8 hr => ?_)
    obtain ⟨A8, W8, w8, ⟨L8, P8, rfl, hS8⟩, hy8, rfl, r8, rfl, h⟩ := hr
    refine ⟨r8, rfl, ?_⟩
    have hx8 := Xt.trans hx1 hy8
    have ee9 : A8 0 7 = A1 0 7 := hy8.2 _ _ hS1.1.1 (((n0_7 hS8)).trans ((n0_7 hS1)).symm)
    try rw [← ee9]
    exact ⟨bz_ok h.1, qx_i hS8 hx8 h.2⟩
theorem w_X5_leave_0 {E : EE} {d : Nat} {V : VH} {K : Int32 → VH → Prop} {x1 : Int32}  (h0 : 0 < d) (h : ∀ V1 : VH, V1 = wrI V 0 7 7 ((vI V 0 7 7) - 1) → vMI E (d - 1) M_X10_accept [sl 0 2, wi x1] V1 (fun r2 V2 => bz r2 ∧ K r2 V2)) : vMI E d M_X5_leave [sl 0 7, wi x1] V K := by
  intro G A hR
  obtain ⟨L, P, rfl, hS⟩ := hR
  have hx := Xt.refl (V := pl G A L P) (A := A)
  show wpM E d M_X5_leave [vr (A 0 7), vi x1] G _
  refine wpM_of mk_X5_leave (Nat.le_of_ble_eq_true rfl) ?_
  refine v_X5_leave_0 h0 ?_
  refine ⟨hS.o (s0_7 hS), ?_⟩
  have hS1 : Sh E (sI G (A 0 7) 7 ((gI G (A 0 7) 7) - 1)) A L P := Sh_sI (rfl : sI G (A 0 7) 7 ((gI G (A 0 7) 7) - 1) = sI G (A 0 7) 7 ((gI G (A 0 7) 7) - 1)) hS (s0_7 hS) (okT_0 rfl)
  have h := h (pl (sI G (A 0 7) 7 ((gI G (A 0 7) 7) - 1)) A L P) (pl_sI (rfl : sI G (A 0 7) 7 ((gI G (A 0 7) 7) - 1) = sI G (A 0 7) 7 ((gI G (A 0 7) 7) - 1)) hS (s0_7 hS))
  have hx1 : Xt (pl G A L P) A (pl (sI G (A 0 7) 7 ((gI G (A 0 7) 7) - 1)) A L P) A := Xt_sI (rfl : sI G (A 0 7) 7 ((gI G (A 0 7) 7) - 1) = sI G (A 0 7) 7 ((gI G (A 0 7) 7) - 1)) hx
  rw [l0_7_0 hS]
  refine ⟨hS1.o (s0_2 hS1), ?_⟩
  refine wpM.mono (h (sI G (A 0 7) 7 ((gI G (A 0 7) 7) - 1)) A ⟨L, P, rfl, hS1⟩) (fun rr2 G2 hr => ?_)
  obtain ⟨A2, W2, w2, ⟨L2, P2, rfl, hS2⟩, hy2, rfl, r2, rfl, h⟩ := hr
  refine ⟨r2, rfl, ?_⟩
  have hx2 := Xt.trans hx1 hy2
  have ee3 : A2 0 7 = A 0 7 := hy2.2 _ _ hS1.1.1 (((n0_7 hS2)).trans ((n0_7 hS1)).symm)
  try rw [← ee3]
  exact ⟨bz_ok h.1, qx_i hS2 hx2 h.2⟩
theorem w_X5_lists_0 {E : EE} {d : Nat} {V : VH} {K : Int32 → VH → Prop} {x1 : Int32}  (h0 : 0 < d) (h : (¬ x1 = 28 → (¬ x1 = 27 → vMI E (d - 1) M_X5_names [sl 0 7, wi 1, wi 12] V (fun r1 V1 => (0 ≤ r1 → (x1 = 22 → K 1 V1) ∧ (¬ (x1 = 22) → (¬ x1 = 25 → vMI E (d - 1) M_X10_accept [sl 0 2, wi 58] V1 (fun r3 V3 => (¬ r3 = 0 → (¬ x1 = 24 → (¬ x1 = 23 → vMI E (d - 1) M_X5_groups [sl 0 7, wt 3, wi 3] V3 (fun r5 V5 => (r5 = 0 → K 0 V5) ∧ (¬ (r5 = 0) → vMI E (d - 1) M_X10_accept [sl 0 2, wi 58] V5 (fun r7 V7 => (r7 = 0 → K 0 V7) ∧ (¬ (r7 = 0) → vMI E (d - 1) M_X5_numerals [sl 0 7, wi 0, wi 10, wi 9] V7 (fun r9 V9 => (r9 = 0 → K 0 V9) ∧ (¬ (r9 = 0) → K 1 V9))))))) ∧ (x1 = 23 → vMI E (d - 1) M_X5_groups [sl 0 7, wt 2, wi r1] V3 (fun r11 V11 => bz r11 ∧ K r11 V11))) ∧ (x1 = 24 → vMI E (d - 1) M_X5_names [sl 0 7, wi r1, wi r1] V3 (fun r13 V13 => (¬ r13 = r1 → K 0 V13) ∧ (r13 = r1 → K 1 V13)))) ∧ (r3 = 0 → K 0 V3))) ∧ (x1 = 25 → K 1 V1))) ∧ (¬ (0 ≤ r1) → K 0 V1))) ∧ (x1 = 27 → vMI E (d - 1) M_X5_numeral [sl 0 7, wi 0, wi 0, wi 9999] V (fun r15 V15 => (¬ r15 = 0 → PG (vL V15) (vQ V15) ∧ (vMI E (d - 1) M_X2_note [sl (vQ V15) 9, wi (vI V15 0 7 5)] V15 (fun r18 V18 => vMI E (d - 1) M_X10_accept [sl 0 2, wi 58] V18 (fun r21 V21 => (r21 = 0 → K 0 V21) ∧ (¬ (r21 = 0) → vMI E (d - 1) M_X5_groups [sl 0 7, wt 1, wi 3] V21 (fun r24 V24 => (r24 = 0 → K 0 V24) ∧ (¬ (r24 = 0) → K 1 V24))))))) ∧ (r15 = 0 → K 0 V15)))) ∧ (x1 = 28 → vMI E (d - 1) M_X5_groups [sl 0 7, wt 0, wi 4] V (fun r27 V27 => bz r27 ∧ K r27 V27))) : vMI E d M_X5_lists [sl 0 7, wi x1] V K := by
  intro G A hR
  obtain ⟨L, P, rfl, hS⟩ := hR
  have hx := Xt.refl (V := pl G A L P) (A := A)
  show wpM E d M_X5_lists [vr (A 0 7), vi x1] G _
  refine wpM_of mk_X5_lists (Nat.le_of_ble_eq_true rfl) ?_
  refine v_X5_lists_0 h0 ?_
  refine ⟨fun hc => ?_, fun hc => ?_⟩
  · have h := h.1 hc
    refine ⟨fun hc => ?_, fun hc => ?_⟩
    · have h := h.1 hc
      refine ⟨hS.o (s0_7 hS), ?_⟩
      refine wpM.mono (h G A ⟨L, P, rfl, hS⟩) (fun rr1 G1 hr => ?_)
      obtain ⟨A1, W1, w1, ⟨L1, P1, rfl, hS1⟩, hy1, rfl, r1, rfl, h⟩ := hr
      refine ⟨r1, rfl, ?_⟩
      have hx1 := Xt.trans hx hy1
      have ee2 : A1 0 7 = A 0 7 := hy1.2 _ _ hS.1.1 (((n0_7 hS1)).trans ((n0_7 hS)).symm)
      try rw [← ee2]
      refine ⟨fun hc => ?_, fun hc => ?_⟩
      · have h := h.1 hc
        refine ⟨fun hc => ?_, fun hc => ?_⟩
        · have h := h.1 hc
          exact qx_i hS1 hx1 h
        · have h := h.2 hc
          refine ⟨fun hc => ?_, fun hc => ?_⟩
          · have h := h.1 hc
            refine ⟨hS1.o (s0_7 hS1), ?_⟩
            rw [l0_7_0 hS1]
            refine ⟨hS1.o (s0_2 hS1), ?_⟩
            refine wpM.mono (h G1 A1 ⟨L1, P1, rfl, hS1⟩) (fun rr3 G3 hr => ?_)
            obtain ⟨A3, W3, w3, ⟨L3, P3, rfl, hS3⟩, hy3, rfl, r3, rfl, h⟩ := hr
            refine ⟨r3, rfl, ?_⟩
            have hx3 := Xt.trans hx1 hy3
            have ee4 : A3 0 7 = A1 0 7 := hy3.2 _ _ hS1.1.1 (((n0_7 hS3)).trans ((n0_7 hS1)).symm)
            try rw [← ee4]
            refine ⟨fun hc => ?_, fun hc => ?_⟩
            · have h := h.1 hc
              refine ⟨fun hc => ?_, fun hc => ?_⟩
              · have h := h.1 hc
                refine ⟨fun hc => ?_, fun hc => ?_⟩
                · have h := h.1 hc
                  refine ⟨hS3.o (s0_7 hS3), ?_⟩
                  refine wpM.mono (h G3 A3 ⟨L3, P3, rfl, hS3⟩) (fun rr5 G5 hr => ?_)
                  obtain ⟨A5, W5, w5, ⟨L5, P5, rfl, hS5⟩, hy5, rfl, r5, rfl, h⟩ := hr
                  refine ⟨r5, rfl, ?_⟩
                  have hx5 := Xt.trans hx3 hy5
                  have ee6 : A5 0 7 = A3 0 7 := hy5.2 _ _ hS3.1.1 (((n0_7 hS5)).trans ((n0_7 hS3)).symm)
                  try rw [← ee6]
                  refine ⟨fun hc => ?_, fun hc => ?_⟩
                  · have h := h.1 hc
                    exact qx_i hS5 hx5 h
                  · have h := h.2 hc
                    refine ⟨hS5.o (s0_7 hS5), ?_⟩
                    rw [l0_7_0 hS5]
                    refine ⟨hS5.o (s0_2 hS5), ?_⟩
                    refine wpM.mono (h G5 A5 ⟨L5, P5, rfl, hS5⟩) (fun rr7 G7 hr => ?_)
                    obtain ⟨A7, W7, w7, ⟨L7, P7, rfl, hS7⟩, hy7, rfl, r7, rfl, h⟩ := hr
                    refine ⟨r7, rfl, ?_⟩
                    have hx7 := Xt.trans hx5 hy7
                    have ee8 : A7 0 7 = A5 0 7 := hy7.2 _ _ hS5.1.1 (((n0_7 hS7)).trans ((n0_7 hS5)).symm)
                    try rw [← ee8]
                    refine ⟨fun hc => ?_, fun hc => ?_⟩
                    · have h := h.1 hc
                      exact qx_i hS7 hx7 h
                    · have h := h.2 hc
                      refine ⟨hS7.o (s0_7 hS7), ?_⟩
                      refine wpM.mono (h G7 A7 ⟨L7, P7, rfl, hS7⟩) (fun rr9 G9 hr => ?_)
                      obtain ⟨A9, W9, w9, ⟨L9, P9, rfl, hS9⟩, hy9, rfl, r9, rfl, h⟩ := hr
                      refine ⟨r9, rfl, ?_⟩
                      have hx9 := Xt.trans hx7 hy9
                      have ee10 : A9 0 7 = A7 0 7 := hy9.2 _ _ hS7.1.1 (((n0_7 hS9)).trans ((n0_7 hS7)).symm)
                      try rw [← ee10]
                      refine ⟨fun hc => ?_, fun hc => ?_⟩
                      · have h := h.1 hc
                        exact qx_i hS9 hx9 h
                      · have h := h.2 hc
                        exact qx_i hS9 hx9 h
                · have h := h.2 hc
                  refine ⟨hS3.o (s0_7 hS3), ?_⟩
                  refine wpM.mono (h G3 A3 ⟨L3, P3, rfl, hS3⟩) (fun rr11 G11 hr => ?_)
                  obtain ⟨A11, W11, w11, ⟨L11, P11, rfl, hS11⟩, hy11, rfl, r11, rfl, h⟩ := hr
                  refine ⟨r11, rfl, ?_⟩
                  have hx11 := Xt.trans hx3 hy11
                  have ee12 : A11 0 7 = A3 0 7 := hy11.2 _ _ hS3.1.1 (((n0_7 hS11)).trans ((n0_7 hS3)).symm)
                  try rw [← ee12]
                  exact ⟨bz_ok h.1, qx_i hS11 hx11 h.2⟩
              · have h := h.2 hc
                refine ⟨hS3.o (s0_7 hS3), ?_⟩
                refine wpM.mono (h G3 A3 ⟨L3, P3, rfl, hS3⟩) (fun rr13 G13 hr => ?_)
                obtain ⟨A13, W13, w13, ⟨L13, P13, rfl, hS13⟩, hy13, rfl, r13, rfl, h⟩ := hr
                refine ⟨r13, rfl, ?_⟩
                have hx13 := Xt.trans hx3 hy13
                have ee14 : A13 0 7 = A3 0 7 := hy13.2 _ _ hS3.1.1 (((n0_7 hS13)).trans ((n0_7 hS3)).symm)
                try rw [← ee14]
                refine ⟨fun hc => ?_, fun hc => ?_⟩
                · have h := h.1 hc
                  exact qx_i hS13 hx13 h
                · have h := h.2 hc
                  exact qx_i hS13 hx13 h
            · have h := h.2 hc
              exact qx_i hS3 hx3 h
          · have h := h.2 hc
            exact qx_i hS1 hx1 h
      · have h := h.2 hc
        exact qx_i hS1 hx1 h
    · have h := h.2 hc
      refine ⟨hS.o (s0_7 hS), ?_⟩
      refine wpM.mono (h G A ⟨L, P, rfl, hS⟩) (fun rr15 G15 hr => ?_)
      obtain ⟨A15, W15, w15, ⟨L15, P15, rfl, hS15⟩, hy15, rfl, r15, rfl, h⟩ := hr
      refine ⟨r15, rfl, ?_⟩
      have hx15 := Xt.trans hx hy15
      have ee16 : A15 0 7 = A 0 7 := hy15.2 _ _ hS.1.1 (((n0_7 hS15)).trans ((n0_7 hS)).symm)
      try rw [← ee16]
      refine ⟨fun hc => ?_, fun hc => ?_⟩
      · have h := h.1 hc
        refine ⟨hS15.o (s0_7 hS15), ?_⟩
        rw [l0_7_2 hS15]
        obtain ⟨hg17, h⟩ := h
        have hg17 : PG L15 (P15).2 := hg17
        refine ⟨hS15.o (sP_9 hg17), ?_⟩
        refine wpM.mono (h G15 A15 ⟨L15, P15, rfl, hS15⟩) (fun rr18 G18 hr => ?_)
        obtain ⟨A18, W18, w18, ⟨L18, P18, rfl, hS18⟩, hy18, rfl, r18, rfl, h⟩ := hr
        refine ⟨r18, rfl, ?_⟩
        have hx18 := Xt.trans hx15 hy18
        have hg19 : PG L18 (P15).2 := PG.up hy18 hg17
        have ee20 : A18 0 7 = A15 0 7 := hy18.2 _ _ hS15.1.1 (((n0_7 hS18)).trans ((n0_7 hS15)).symm)
        try rw [← ee20]
        refine ⟨hS18.o (s0_7 hS18), ?_⟩
        rw [l0_7_0 hS18]
        refine ⟨hS18.o (s0_2 hS18), ?_⟩
        refine wpM.mono (h G18 A18 ⟨L18, P18, rfl, hS18⟩) (fun rr21 G21 hr => ?_)
        obtain ⟨A21, W21, w21, ⟨L21, P21, rfl, hS21⟩, hy21, rfl, r21, rfl, h⟩ := hr
        refine ⟨r21, rfl, ?_⟩
        have hx21 := Xt.trans hx18 hy21
        have hg22 : PG L21 (P15).2 := PG.up hy21 hg19
        have ee23 : A21 0 7 = A18 0 7 := hy21.2 _ _ hS18.1.1 (((n0_7 hS21)).trans ((n0_7 hS18)).symm)
        try rw [← ee23]
        refine ⟨fun hc => ?_, fun hc => ?_⟩
        · have h := h.1 hc
          exact qx_i hS21 hx21 h
        · have h := h.2 hc
          refine ⟨hS21.o (s0_7 hS21), ?_⟩
          refine wpM.mono (h G21 A21 ⟨L21, P21, rfl, hS21⟩) (fun rr24 G24 hr => ?_)
          obtain ⟨A24, W24, w24, ⟨L24, P24, rfl, hS24⟩, hy24, rfl, r24, rfl, h⟩ := hr
          refine ⟨r24, rfl, ?_⟩
          have hx24 := Xt.trans hx21 hy24
          have hg25 : PG L24 (P15).2 := PG.up hy24 hg22
          have ee26 : A24 0 7 = A21 0 7 := hy24.2 _ _ hS21.1.1 (((n0_7 hS24)).trans ((n0_7 hS21)).symm)
          try rw [← ee26]
          refine ⟨fun hc => ?_, fun hc => ?_⟩
          · have h := h.1 hc
            exact qx_i hS24 hx24 h
          · have h := h.2 hc
            exact qx_i hS24 hx24 h
      · have h := h.2 hc
        exact qx_i hS15 hx15 h
  · have h := h.2 hc
    refine ⟨hS.o (s0_7 hS), ?_⟩
    refine wpM.mono (h G A ⟨L, P, rfl, hS⟩) (fun rr27 G27 hr => ?_)
    obtain ⟨A27, W27, w27, ⟨L27, P27, rfl, hS27⟩, hy27, rfl, r27, rfl, h⟩ := hr
    refine ⟨r27, rfl, ?_⟩
    have hx27 := Xt.trans hx hy27
    have ee28 : A27 0 7 = A 0 7 := hy27.2 _ _ hS.1.1 (((n0_7 hS27)).trans ((n0_7 hS)).symm)
    try rw [← ee28]
    exact ⟨bz_ok h.1, qx_i hS27 hx27 h.2⟩
theorem w_X5_groups_0 {E : EE} {d : Nat} {V : VH} {K : Int32 → VH → Prop} {x1 : Nat} {x2 : Int32}  (h0 : 0 < d) (h : PG (vL V) (vQ V) ∧ (vMI E (d - 1) M_X2_note [sl (vQ V) 9, wi 0] V (fun r2 V2 => vwp E d M_X5_groups 12 [some (sl 0 7), some (wt x1), some (wi x2), some (wi r2), some (wi 1), none, none] [] V2 (zi K)))) : vMI E d M_X5_groups [sl 0 7, wt x1, wi x2] V K := by
  intro G A hR
  obtain ⟨L, P, rfl, hS⟩ := hR
  have hx := Xt.refl (V := pl G A L P) (A := A)
  show wpM E d M_X5_groups [vr (A 0 7), vs (eK E x1), vi x2] G _
  refine wpM_of mk_X5_groups (Nat.le_of_ble_eq_true rfl) ?_
  refine v_X5_groups_0 h0 ?_
  refine ⟨hS.o (s0_7 hS), ?_⟩
  rw [l0_7_2 hS]
  obtain ⟨hg1, h⟩ := h
  have hg1 : PG L (P).2 := hg1
  refine ⟨hS.o (sP_9 hg1), ?_⟩
  refine wpM.mono (h G A ⟨L, P, rfl, hS⟩) (fun rr2 G2 hr => ?_)
  obtain ⟨A2, W2, w2, ⟨L2, P2, rfl, hS2⟩, hy2, rfl, r2, rfl, h⟩ := hr
  refine ⟨r2, rfl, ?_⟩
  have hx2 := Xt.trans hx hy2
  have hg3 : PG L2 (P).2 := PG.up hy2 hg1
  have ee4 : A2 0 7 = A 0 7 := hy2.2 _ _ hS.1.1 (((n0_7 hS2)).trans ((n0_7 hS)).symm)
  try rw [← ee4]
  exact wp.mono (h G2 A2 ⟨L2, P2, rfl, hS2⟩) (fun r G' q => qx_trans hx2 q)
theorem w_X5_groups_12 {E : EE} {d : Nat} {V : VH} {K : Int32 → VH → Prop} {x1 : Nat} {x2 : Int32} {x3 : Int32} {x4 : Int32}  (h : (40 < x4 → K 1 V) ∧ (¬ (40 < x4) → vwp E d M_X5_groups 22 [some (sl 0 7), some (wt x1), some (wi x2), some (wi x3), some (wi x4), some (wi 0), none] [] V (zi K))) : vwp E d M_X5_groups 12 [some (sl 0 7), some (wt x1), some (wi x2), some (wi x3), some (wi x4), none, none] [] V (zi K) := by
  intro G A hR
  obtain ⟨L, P, rfl, hS⟩ := hR
  have hx := Xt.refl (V := pl G A L P) (A := A)
  show wp E d M_X5_groups 12 [some (vr (A 0 7)), some (vs (eK E x1)), some (vi x2), some (vi x3), some (vi x4), none, none] [] G _
  refine v_X5_groups_12 ?_
  refine ⟨fun hc => ?_, fun hc => ?_⟩
  · have h := h.1 hc
    exact qx_i hS hx h
  · have h := h.2 hc
    exact wp.mono (h G A ⟨L, P, rfl, hS⟩) (fun r G' q => qx_trans hx q)
theorem w_X5_groups_22 {E : EE} {d : Nat} {V : VH} {K : Int32 → VH → Prop} {x1 : Nat} {x2 : Int32} {x3 : Int32} {x4 : Int32} {x5 : Int32}  (h0 : 0 < d) (h : (x2 ≤ x5 → vMI E (d - 1) M_X10_accept [sl 0 2, wi 41] V (fun r1 V1 => (¬ r1 = 0 → PG (vL V1) (vQ V1) ∧ (vMV E (d - 1) M_X2_amend [sl (vQ V1) 9, wi x3, wi x4] V1 (fun V4 => (x4 = 40 → K 1 V4) ∧ (¬ (x4 = 40) → vMI E (d - 1) M_X10_is [sl 0 2, wi 44] V4 (fun r7 V7 => (¬ r7 = 0 → vMV E (d - 1) M_X10_step [sl 0 2] V7 (fun V10 => vwp E d M_X5_groups 12 [some (sl 0 7), some (wt x1), some (wi x2), some (wi x3), some (wi (x4 + 1)), none, none] [] V10 (zi K))) ∧ (r7 = 0 → K 1 V7)))))) ∧ (r1 = 0 → K 0 V1))) ∧ (¬ (x2 ≤ x5) → x1 < 22 ∧ (vMI E (d - 1) M_J0_length_8abf5 [wt x1] V (fun r14 V14 => vMI E (d - 1) M_J0_charAt_5068e [wt x1, wi (imin x5 (r14 - 1))] V14 (fun r16 V16 => (¬ x5 = 0 → vwp E d M_X5_groups 61 [some (sl 0 7), some (wt x1), some (wi x2), some (wi x3), some (wi x4), some (wi x5), some (wi r16)] [wi 44, sl 0 2] V16 (zi K)) ∧ (x5 = 0 → vwp E d M_X5_groups 61 [some (sl 0 7), some (wt x1), some (wi x2), some (wi x3), some (wi x4), some (wi x5), some (wi r16)] [wi 40, sl 0 2] V16 (zi K))))))) : vwp E d M_X5_groups 22 [some (sl 0 7), some (wt x1), some (wi x2), some (wi x3), some (wi x4), some (wi x5), none] [] V (zi K) := by
  intro G A hR
  obtain ⟨L, P, rfl, hS⟩ := hR
  have hx := Xt.refl (V := pl G A L P) (A := A)
  show wp E d M_X5_groups 22 [some (vr (A 0 7)), some (vs (eK E x1)), some (vi x2), some (vi x3), some (vi x4), some (vi x5), none] [] G _
  refine v_X5_groups_22 h0 ?_
  refine ⟨fun hc => ?_, fun hc => ?_⟩
  · have h := h.1 hc
    refine ⟨hS.o (s0_7 hS), ?_⟩
    rw [l0_7_0 hS]
    refine ⟨hS.o (s0_2 hS), ?_⟩
    refine wpM.mono (h G A ⟨L, P, rfl, hS⟩) (fun rr1 G1 hr => ?_)
    obtain ⟨A1, W1, w1, ⟨L1, P1, rfl, hS1⟩, hy1, rfl, r1, rfl, h⟩ := hr
    refine ⟨r1, rfl, ?_⟩
    have hx1 := Xt.trans hx hy1
    have ee2 : A1 0 7 = A 0 7 := hy1.2 _ _ hS.1.1 (((n0_7 hS1)).trans ((n0_7 hS)).symm)
    try rw [← ee2]
    refine ⟨fun hc => ?_, fun hc => ?_⟩
    · have h := h.1 hc
      refine ⟨hS1.o (s0_7 hS1), ?_⟩
      rw [l0_7_2 hS1]
      obtain ⟨hg3, h⟩ := h
      have hg3 : PG L1 (P1).2 := hg3
      refine ⟨hS1.o (sP_9 hg3), ?_⟩
      refine wpM.mono (h G1 A1 ⟨L1, P1, rfl, hS1⟩) (fun rr4 G4 hr => ?_)
      obtain ⟨A4, W4, w4, ⟨L4, P4, rfl, hS4⟩, hy4, rfl, rfl, h⟩ := hr
      refine ⟨rfl, ?_⟩
      have hx4 := Xt.trans hx1 hy4
      have hg5 : PG L4 (P1).2 := PG.up hy4 hg3
      have ee6 : A4 0 7 = A1 0 7 := hy4.2 _ _ hS1.1.1 (((n0_7 hS4)).trans ((n0_7 hS1)).symm)
      try rw [← ee6]
      refine ⟨fun hc => ?_, fun hc => ?_⟩
      · have h := h.1 hc
        exact qx_i hS4 hx4 h
      · have h := h.2 hc
        refine ⟨hS4.o (s0_7 hS4), ?_⟩
        rw [l0_7_0 hS4]
        refine ⟨hS4.o (s0_2 hS4), ?_⟩
        refine wpM.mono (h G4 A4 ⟨L4, P4, rfl, hS4⟩) (fun rr7 G7 hr => ?_)
        obtain ⟨A7, W7, w7, ⟨L7, P7, rfl, hS7⟩, hy7, rfl, r7, rfl, h⟩ := hr
        refine ⟨r7, rfl, ?_⟩
        have hx7 := Xt.trans hx4 hy7
        have hg8 : PG L7 (P1).2 := PG.up hy7 hg5
        have ee9 : A7 0 7 = A4 0 7 := hy7.2 _ _ hS4.1.1 (((n0_7 hS7)).trans ((n0_7 hS4)).symm)
        try rw [← ee9]
        refine ⟨fun hc => ?_, fun hc => ?_⟩
        · have h := h.1 hc
          refine ⟨hS7.o (s0_7 hS7), ?_⟩
          rw [l0_7_0 hS7]
          refine ⟨hS7.o (s0_2 hS7), ?_⟩
          refine wpM.mono (h G7 A7 ⟨L7, P7, rfl, hS7⟩) (fun rr10 G10 hr => ?_)
          obtain ⟨A10, W10, w10, ⟨L10, P10, rfl, hS10⟩, hy10, rfl, rfl, h⟩ := hr
          refine ⟨rfl, ?_⟩
          have hx10 := Xt.trans hx7 hy10
          have hg11 : PG L10 (P1).2 := PG.up hy10 hg8
          have ee12 : A10 0 7 = A7 0 7 := hy10.2 _ _ hS7.1.1 (((n0_7 hS10)).trans ((n0_7 hS7)).symm)
          try rw [← ee12]
          exact wp.mono (h G10 A10 ⟨L10, P10, rfl, hS10⟩) (fun r G' q => qx_trans hx10 q)
        · have h := h.2 hc
          exact qx_i hS7 hx7 h
    · have h := h.2 hc
      exact qx_i hS1 hx1 h
  · have h := h.2 hc
    obtain ⟨ht13, h⟩ := h
    refine ⟨ht13, ?_⟩
    refine wpM.mono (h G A ⟨L, P, rfl, hS⟩) (fun rr14 G14 hr => ?_)
    obtain ⟨A14, W14, w14, ⟨L14, P14, rfl, hS14⟩, hy14, rfl, r14, rfl, h⟩ := hr
    refine ⟨r14, rfl, ?_⟩
    have hx14 := Xt.trans hx hy14
    have ee15 : A14 0 7 = A 0 7 := hy14.2 _ _ hS.1.1 (((n0_7 hS14)).trans ((n0_7 hS)).symm)
    try rw [← ee15]
    refine wpM.mono (h G14 A14 ⟨L14, P14, rfl, hS14⟩) (fun rr16 G16 hr => ?_)
    obtain ⟨A16, W16, w16, ⟨L16, P16, rfl, hS16⟩, hy16, rfl, r16, rfl, h⟩ := hr
    refine ⟨r16, rfl, ?_⟩
    have hx16 := Xt.trans hx14 hy16
    have ee17 : A16 0 7 = A14 0 7 := hy16.2 _ _ hS14.1.1 (((n0_7 hS16)).trans ((n0_7 hS14)).symm)
    try rw [← ee17]
    refine ⟨hS16.o (s0_7 hS16), ?_⟩
    rw [l0_7_0 hS16]
    refine ⟨fun hc => ?_, fun hc => ?_⟩
    · have h := h.1 hc
      exact wp.mono (h G16 A16 ⟨L16, P16, rfl, hS16⟩) (fun r G' q => qx_trans hx16 q)
    · have h := h.2 hc
      exact wp.mono (h G16 A16 ⟨L16, P16, rfl, hS16⟩) (fun r G' q => qx_trans hx16 q)
theorem w_X5_groups_61 {E : EE} {d : Nat} {V : VH} {K : Int32 → VH → Prop} {x1 : Nat} {x2 : Int32} {x3 : Int32} {x4 : Int32} {x5 : Int32} {x6 : Int32} {t1 : Int32}  (h0 : 0 < d) (h : vMI E (d - 1) M_X10_accept [sl 0 2, wi t1] V (fun r1 V1 => (¬ r1 = 0 → (¬ x6 = 118 → (¬ x6 = 105 → vwp E d M_X5_groups 99 [some (sl 0 7), some (wt x1), some (wi x2), some (wi x3), some (wi x4), some (wi x5), some (wi x6)] [wi 0, sl 0 7] V1 (zi K)) ∧ (x6 = 105 → vwp E d M_X5_groups 99 [some (sl 0 7), some (wt x1), some (wi x2), some (wi x3), some (wi x4), some (wi x5), some (wi x6)] [wi 1, sl 0 7] V1 (zi K))) ∧ (x6 = 118 → vMI E (d - 1) M_X5_variable [sl 0 7] V1 (fun r3 V3 => (r3 = 0 → K 0 V3) ∧ (¬ (r3 = 0) → vwp E d M_X5_groups 123 [some (sl 0 7), some (wt x1), some (wi x2), some (wi x3), some (wi x4), some (wi x5), some (wi x6)] [] V3 (zi K))))) ∧ (r1 = 0 → K 0 V1))) : vwp E d M_X5_groups 61 [some (sl 0 7), some (wt x1), some (wi x2), some (wi x3), some (wi x4), some (wi x5), some (wi x6)] [wi t1, sl 0 2] V (zi K) := by
  intro G A hR
  obtain ⟨L, P, rfl, hS⟩ := hR
  have hx := Xt.refl (V := pl G A L P) (A := A)
  show wp E d M_X5_groups 61 [some (vr (A 0 7)), some (vs (eK E x1)), some (vi x2), some (vi x3), some (vi x4), some (vi x5), some (vi x6)] [vi t1, vr (A 0 2)] G _
  refine v_X5_groups_61 h0 ?_
  refine ⟨hS.o (s0_2 hS), ?_⟩
  refine wpM.mono (h G A ⟨L, P, rfl, hS⟩) (fun rr1 G1 hr => ?_)
  obtain ⟨A1, W1, w1, ⟨L1, P1, rfl, hS1⟩, hy1, rfl, r1, rfl, h⟩ := hr
  refine ⟨r1, rfl, ?_⟩
  have hx1 := Xt.trans hx hy1
  have ee2 : A1 0 7 = A 0 7 := hy1.2 _ _ hS.1.1 (((n0_7 hS1)).trans ((n0_7 hS)).symm)
  try rw [← ee2]
  refine ⟨fun hc => ?_, fun hc => ?_⟩
  · have h := h.1 hc
    refine ⟨fun hc => ?_, fun hc => ?_⟩
    · have h := h.1 hc
      refine ⟨fun hc => ?_, fun hc => ?_⟩
      · have h := h.1 hc
        exact wp.mono (h G1 A1 ⟨L1, P1, rfl, hS1⟩) (fun r G' q => qx_trans hx1 q)
      · have h := h.2 hc
        exact wp.mono (h G1 A1 ⟨L1, P1, rfl, hS1⟩) (fun r G' q => qx_trans hx1 q)
    · have h := h.2 hc
      refine ⟨hS1.o (s0_7 hS1), ?_⟩
      refine wpM.mono (h G1 A1 ⟨L1, P1, rfl, hS1⟩) (fun rr3 G3 hr => ?_)
      obtain ⟨A3, W3, w3, ⟨L3, P3, rfl, hS3⟩, hy3, rfl, r3, rfl, h⟩ := hr
      refine ⟨r3, rfl, ?_⟩
      have hx3 := Xt.trans hx1 hy3
      have ee4 : A3 0 7 = A1 0 7 := hy3.2 _ _ hS1.1.1 (((n0_7 hS3)).trans ((n0_7 hS1)).symm)
      try rw [← ee4]
      refine ⟨fun hc => ?_, fun hc => ?_⟩
      · have h := h.1 hc
        exact qx_i hS3 hx3 h
      · have h := h.2 hc
        exact wp.mono (h G3 A3 ⟨L3, P3, rfl, hS3⟩) (fun r G' q => qx_trans hx3 q)
  · have h := h.2 hc
    exact qx_i hS1 hx1 h
theorem w_X5_groups_99 {E : EE} {d : Nat} {V : VH} {K : Int32 → VH → Prop} {x1 : Nat} {x2 : Int32} {x3 : Int32} {x4 : Int32} {x5 : Int32} {x6 : Int32} {t1 : Int32}  (h : (¬ x6 = 115 → vwp E d M_X5_groups 115 [some (sl 0 7), some (wt x1), some (wi x2), some (wi x3), some (wi x4), some (wi x5), some (wi x6)] [wi 9999, wi 0, wi t1, sl 0 7] V (zi K)) ∧ (x6 = 115 → vwp E d M_X5_groups 115 [some (sl 0 7), some (wt x1), some (wi x2), some (wi x3), some (wi x4), some (wi x5), some (wi x6)] [wi 9, wi 0, wi t1, sl 0 7] V (zi K))) : vwp E d M_X5_groups 99 [some (sl 0 7), some (wt x1), some (wi x2), some (wi x3), some (wi x4), some (wi x5), some (wi x6)] [wi t1, sl 0 7] V (zi K) := by
  intro G A hR
  obtain ⟨L, P, rfl, hS⟩ := hR
  have hx := Xt.refl (V := pl G A L P) (A := A)
  show wp E d M_X5_groups 99 [some (vr (A 0 7)), some (vs (eK E x1)), some (vi x2), some (vi x3), some (vi x4), some (vi x5), some (vi x6)] [vi t1, vr (A 0 7)] G _
  refine v_X5_groups_99 ?_
  refine ⟨fun hc => ?_, fun hc => ?_⟩
  · have h := h.1 hc
    exact wp.mono (h G A ⟨L, P, rfl, hS⟩) (fun r G' q => qx_trans hx q)
  · have h := h.2 hc
    exact wp.mono (h G A ⟨L, P, rfl, hS⟩) (fun r G' q => qx_trans hx q)
theorem w_X5_groups_115 {E : EE} {d : Nat} {V : VH} {K : Int32 → VH → Prop} {x1 : Nat} {x2 : Int32} {x3 : Int32} {x4 : Int32} {x5 : Int32} {x6 : Int32} {t1 : Int32} {t2 : Int32} {t3 : Int32}  (h0 : 0 < d) (h : vMI E (d - 1) M_X5_numeral [sl 0 7, wi t1, wi t2, wi t3] V (fun r1 V1 => (¬ r1 = 0 → vwp E d M_X5_groups 123 [some (sl 0 7), some (wt x1), some (wi x2), some (wi x3), some (wi x4), some (wi x5), some (wi x6)] [] V1 (zi K)) ∧ (r1 = 0 → K 0 V1))) : vwp E d M_X5_groups 115 [some (sl 0 7), some (wt x1), some (wi x2), some (wi x3), some (wi x4), some (wi x5), some (wi x6)] [wi t3, wi t2, wi t1, sl 0 7] V (zi K) := by
  intro G A hR
  obtain ⟨L, P, rfl, hS⟩ := hR
  have hx := Xt.refl (V := pl G A L P) (A := A)
  show wp E d M_X5_groups 115 [some (vr (A 0 7)), some (vs (eK E x1)), some (vi x2), some (vi x3), some (vi x4), some (vi x5), some (vi x6)] [vi t3, vi t2, vi t1, vr (A 0 7)] G _
  refine v_X5_groups_115 h0 ?_
  refine ⟨hS.o (s0_7 hS), ?_⟩
  refine wpM.mono (h G A ⟨L, P, rfl, hS⟩) (fun rr1 G1 hr => ?_)
  obtain ⟨A1, W1, w1, ⟨L1, P1, rfl, hS1⟩, hy1, rfl, r1, rfl, h⟩ := hr
  refine ⟨r1, rfl, ?_⟩
  have hx1 := Xt.trans hx hy1
  have ee2 : A1 0 7 = A 0 7 := hy1.2 _ _ hS.1.1 (((n0_7 hS1)).trans ((n0_7 hS)).symm)
  try rw [← ee2]
  refine ⟨fun hc => ?_, fun hc => ?_⟩
  · have h := h.1 hc
    exact wp.mono (h G1 A1 ⟨L1, P1, rfl, hS1⟩) (fun r G' q => qx_trans hx1 q)
  · have h := h.2 hc
    exact qx_i hS1 hx1 h
theorem w_X5_groups_123 {E : EE} {d : Nat} {V : VH} {K : Int32 → VH → Prop} {x1 : Nat} {x2 : Int32} {x3 : Int32} {x4 : Int32} {x5 : Int32} {x6 : Int32}  (h0 : 0 < d) (h : (x6 = 118 → vwp E d M_X5_groups 142 [some (sl 0 7), some (wt x1), some (wi x2), some (wi x3), some (wi x4), some (wi x5), some (wi x6)] [] V (zi K)) ∧ (¬ (x6 = 118) → PG (vL V) (vQ V) ∧ (vMI E (d - 1) M_X2_note [sl (vQ V) 9, wi (vI V 0 7 5)] V (fun r2 V2 => vwp E d M_X5_groups 142 [some (sl 0 7), some (wt x1), some (wi x2), some (wi x3), some (wi x4), some (wi x5), some (wi x6)] [] V2 (zi K))))) : vwp E d M_X5_groups 123 [some (sl 0 7), some (wt x1), some (wi x2), some (wi x3), some (wi x4), some (wi x5), some (wi x6)] [] V (zi K) := by
  intro G A hR
  obtain ⟨L, P, rfl, hS⟩ := hR
  have hx := Xt.refl (V := pl G A L P) (A := A)
  show wp E d M_X5_groups 123 [some (vr (A 0 7)), some (vs (eK E x1)), some (vi x2), some (vi x3), some (vi x4), some (vi x5), some (vi x6)] [] G _
  refine v_X5_groups_123 h0 ?_
  refine ⟨fun hc => ?_, fun hc => ?_⟩
  · have h := h.1 hc
    exact wp.mono (h G A ⟨L, P, rfl, hS⟩) (fun r G' q => qx_trans hx q)
  · have h := h.2 hc
    refine ⟨hS.o (s0_7 hS), ?_⟩
    rw [l0_7_2 hS]
    obtain ⟨hg1, h⟩ := h
    have hg1 : PG L (P).2 := hg1
    refine ⟨hS.o (sP_9 hg1), ?_⟩
    refine wpM.mono (h G A ⟨L, P, rfl, hS⟩) (fun rr2 G2 hr => ?_)
    obtain ⟨A2, W2, w2, ⟨L2, P2, rfl, hS2⟩, hy2, rfl, r2, rfl, h⟩ := hr
    refine ⟨r2, rfl, ?_⟩
    have hx2 := Xt.trans hx hy2
    have hg3 : PG L2 (P).2 := PG.up hy2 hg1
    have ee4 : A2 0 7 = A 0 7 := hy2.2 _ _ hS.1.1 (((n0_7 hS2)).trans ((n0_7 hS)).symm)
    try rw [← ee4]
    exact wp.mono (h G2 A2 ⟨L2, P2, rfl, hS2⟩) (fun r G' q => qx_trans hx2 q)
theorem w_X5_groups_142 {E : EE} {d : Nat} {V : VH} {K : Int32 → VH → Prop} {x1 : Nat} {x2 : Int32} {x3 : Int32} {x4 : Int32} {x5 : Int32} {x6 : Int32}  (h : vwp E d M_X5_groups 22 [some (sl 0 7), some (wt x1), some (wi x2), some (wi x3), some (wi x4), some (wi (x5 + 1)), none] [] V (zi K)) : vwp E d M_X5_groups 142 [some (sl 0 7), some (wt x1), some (wi x2), some (wi x3), some (wi x4), some (wi x5), some (wi x6)] [] V (zi K) := by
  intro G A hR
  obtain ⟨L, P, rfl, hS⟩ := hR
  have hx := Xt.refl (V := pl G A L P) (A := A)
  show wp E d M_X5_groups 142 [some (vr (A 0 7)), some (vs (eK E x1)), some (vi x2), some (vi x3), some (vi x4), some (vi x5), some (vi x6)] [] G _
  refine v_X5_groups_142 ?_
  exact wp.mono (h G A ⟨L, P, rfl, hS⟩) (fun r G' q => qx_trans hx q)
theorem w_X5_variable_0 {E : EE} {d : Nat} {V : VH} {K : Int32 → VH → Prop}   (h0 : 0 < d) (h : ((vI V 0 2 6) = 2 → PG (vL V) (vP V) ∧ (vMI E (d - 1) M_X3_lookUp [sl (vP V) 0, wj (vJ V 0 2 7)] V (fun r2 V2 => (r2 < 0 → vwp E d M_X5_variable 46 [some (sl 0 7), some (wi r2), none] [] V2 (zi K)) ∧ (¬ (r2 < 0) → ((r2 / 24) = 1 → ∀ V5 : VH, V5 = wrI V2 0 7 8 ((vI V2 0 7 8) ||| (1 <<< ((r2 - r2 / 24 * 24) &&& 31))) → PG (vL V5) (vQ V5) ∧ (vMI E (d - 1) M_X2_note [sl (vQ V5) 9, wi (r2 - r2 / 24 * 24)] V5 (fun r7 V7 => vMV E (d - 1) M_X10_step [sl 0 2] V7 (fun V11 => K 1 V11)))) ∧ (¬ ((r2 / 24) = 1) → vwp E d M_X5_variable 46 [some (sl 0 7), some (wi r2), none] [] V2 (zi K)))))) ∧ (¬ ((vI V 0 2 6) = 2) → vMI E (d - 1) M_X10_refuse [sl 0 2] V (fun r15 V15 => bz r15 ∧ K r15 V15))) : vMI E d M_X5_variable [sl 0 7] V K := by
  intro G A hR
  obtain ⟨L, P, rfl, hS⟩ := hR
  have hx := Xt.refl (V := pl G A L P) (A := A)
  show wpM E d M_X5_variable [vr (A 0 7)] G _
  refine wpM_of mk_X5_variable (Nat.le_of_ble_eq_true rfl) ?_
  refine v_X5_variable_0 h0 ?_
  refine ⟨hS.o (s0_7 hS), ?_⟩
  rw [l0_7_0 hS]
  refine ⟨hS.o (s0_2 hS), ?_⟩
  refine ⟨fun hc => ?_, fun hc => ?_⟩
  · have h := h.1 hc
    rw [l0_7_1 hS]
    obtain ⟨hg1, h⟩ := h
    have hg1 : PG L (P).1 := hg1
    refine ⟨hS.o (sP_0 hg1), ?_⟩
    refine wpM.mono (h G A ⟨L, P, rfl, hS⟩) (fun rr2 G2 hr => ?_)
    obtain ⟨A2, W2, w2, ⟨L2, P2, rfl, hS2⟩, hy2, rfl, r2, rfl, h⟩ := hr
    refine ⟨r2, rfl, ?_⟩
    have hx2 := Xt.trans hx hy2
    have hg3 : PG L2 (P).1 := PG.up hy2 hg1
    have ee4 : A2 0 7 = A 0 7 := hy2.2 _ _ hS.1.1 (((n0_7 hS2)).trans ((n0_7 hS)).symm)
    try rw [← ee4]
    refine ⟨fun hc => ?_, fun hc => ?_⟩
    · have h := h.1 hc
      exact wp.mono (h G2 A2 ⟨L2, P2, rfl, hS2⟩) (fun r G' q => qx_trans hx2 q)
    · have h := h.2 hc
      refine ⟨fun hc => ?_, fun hc => ?_⟩
      · have h := h.1 hc
        refine ⟨hS2.o (s0_7 hS2), ?_⟩
        have hS5 : Sh E (sI G2 (A2 0 7) 8 ((gI G2 (A2 0 7) 8) ||| (1 <<< ((r2 - r2 / 24 * 24) &&& 31)))) A2 L2 P2 := Sh_sI (rfl : sI G2 (A2 0 7) 8 ((gI G2 (A2 0 7) 8) ||| (1 <<< ((r2 - r2 / 24 * 24) &&& 31))) = sI G2 (A2 0 7) 8 ((gI G2 (A2 0 7) 8) ||| (1 <<< ((r2 - r2 / 24 * 24) &&& 31)))) hS2 (s0_7 hS2) (okT_0 rfl)
        have h := h (pl (sI G2 (A2 0 7) 8 ((gI G2 (A2 0 7) 8) ||| (1 <<< ((r2 - r2 / 24 * 24) &&& 31)))) A2 L2 P2) (pl_sI (rfl : sI G2 (A2 0 7) 8 ((gI G2 (A2 0 7) 8) ||| (1 <<< ((r2 - r2 / 24 * 24) &&& 31))) = sI G2 (A2 0 7) 8 ((gI G2 (A2 0 7) 8) ||| (1 <<< ((r2 - r2 / 24 * 24) &&& 31)))) hS2 (s0_7 hS2))
        have hx5 : Xt (pl G A L P) A (pl (sI G2 (A2 0 7) 8 ((gI G2 (A2 0 7) 8) ||| (1 <<< ((r2 - r2 / 24 * 24) &&& 31)))) A2 L2 P2) A2 := Xt_sI (rfl : sI G2 (A2 0 7) 8 ((gI G2 (A2 0 7) 8) ||| (1 <<< ((r2 - r2 / 24 * 24) &&& 31))) = sI G2 (A2 0 7) 8 ((gI G2 (A2 0 7) 8) ||| (1 <<< ((r2 - r2 / 24 * 24) &&& 31)))) hx2
        rw [l0_7_2 hS2]
        obtain ⟨hg6, h⟩ := h
        have hg6 : PG L2 (P2).2 := hg6
        refine ⟨hS5.o (sP_9 hg6), ?_⟩
        refine wpM.mono (h (sI G2 (A2 0 7) 8 ((gI G2 (A2 0 7) 8) ||| (1 <<< ((r2 - r2 / 24 * 24) &&& 31)))) A2 ⟨L2, P2, rfl, hS5⟩) (fun rr7 G7 hr => ?_)
        obtain ⟨A7, W7, w7, ⟨L7, P7, rfl, hS7⟩, hy7, rfl, r7, rfl, h⟩ := hr
        refine ⟨r7, rfl, ?_⟩
        have hx7 := Xt.trans hx5 hy7
        have hg8 : PG L7 (P).1 := PG.up hy7 hg3
        have hg9 : PG L7 (P2).2 := PG.up hy7 hg6
        have ee10 : A7 0 7 = A2 0 7 := hy7.2 _ _ hS5.1.1 (((n0_7 hS7)).trans ((n0_7 hS5)).symm)
        try rw [← ee10]
        refine ⟨hS7.o (s0_7 hS7), ?_⟩
        rw [l0_7_0 hS7]
        refine ⟨hS7.o (s0_2 hS7), ?_⟩
        refine wpM.mono (h G7 A7 ⟨L7, P7, rfl, hS7⟩) (fun rr11 G11 hr => ?_)
        obtain ⟨A11, W11, w11, ⟨L11, P11, rfl, hS11⟩, hy11, rfl, rfl, h⟩ := hr
        refine ⟨rfl, ?_⟩
        have hx11 := Xt.trans hx7 hy11
        have hg12 : PG L11 (P).1 := PG.up hy11 hg8
        have hg13 : PG L11 (P2).2 := PG.up hy11 hg9
        have ee14 : A11 0 7 = A7 0 7 := hy11.2 _ _ hS7.1.1 (((n0_7 hS11)).trans ((n0_7 hS7)).symm)
        try rw [← ee14]
        exact qx_i hS11 hx11 h
      · have h := h.2 hc
        exact wp.mono (h G2 A2 ⟨L2, P2, rfl, hS2⟩) (fun r G' q => qx_trans hx2 q)
  · have h := h.2 hc
    refine wpM.mono (h G A ⟨L, P, rfl, hS⟩) (fun rr15 G15 hr => ?_)
    obtain ⟨A15, W15, w15, ⟨L15, P15, rfl, hS15⟩, hy15, rfl, r15, rfl, h⟩ := hr
    refine ⟨r15, rfl, ?_⟩
    have hx15 := Xt.trans hx hy15
    have ee16 : A15 0 7 = A 0 7 := hy15.2 _ _ hS.1.1 (((n0_7 hS15)).trans ((n0_7 hS)).symm)
    try rw [← ee16]
    exact ⟨bz_ok h.1, qx_i hS15 hx15 h.2⟩
theorem w_X5_variable_46 {E : EE} {d : Nat} {V : VH} {K : Int32 → VH → Prop} {x1 : Int32}  (h0 : 0 < d) (h : vMI E (d - 1) M_X10_fail [sl 0 2, wi 4, wi (vI V 0 2 8)] V (fun r1 V1 => bz r1 ∧ K r1 V1)) : vwp E d M_X5_variable 46 [some (sl 0 7), some (wi x1), none] [] V (zi K) := by
  intro G A hR
  obtain ⟨L, P, rfl, hS⟩ := hR
  have hx := Xt.refl (V := pl G A L P) (A := A)
  show wp E d M_X5_variable 46 [some (vr (A 0 7)), some (vi x1), none] [] G _
  refine v_X5_variable_46 h0 ?_
  refine ⟨hS.o (s0_7 hS), ?_⟩
  rw [l0_7_0 hS]
  refine ⟨hS.o (s0_2 hS), ?_⟩
  refine wpM.mono (h G A ⟨L, P, rfl, hS⟩) (fun rr1 G1 hr => ?_)
  obtain ⟨A1, W1, w1, ⟨L1, P1, rfl, hS1⟩, hy1, rfl, r1, rfl, h⟩ := hr
  refine ⟨r1, rfl, ?_⟩
  have hx1 := Xt.trans hx hy1
  have ee2 : A1 0 7 = A 0 7 := hy1.2 _ _ hS.1.1 (((n0_7 hS1)).trans ((n0_7 hS)).symm)
  try rw [← ee2]
  exact ⟨bz_ok h.1, qx_i hS1 hx1 h.2⟩
theorem w_X5_names_0 {E : EE} {d : Nat} {V : VH} {K : Int32 → VH → Prop} {x1 : Int32} {x2 : Int32}  (h0 : 0 < d) (h : PG (vL V) (vQ V) ∧ (vMI E (d - 1) M_X2_note [sl (vQ V) 9, wi 0] V (fun r2 V2 => vwp E d M_X5_names 12 [some (sl 0 7), some (wi x1), some (wi x2), some (wi r2), some (wi 1)] [] V2 (zi K)))) : vMI E d M_X5_names [sl 0 7, wi x1, wi x2] V K := by
  intro G A hR
  obtain ⟨L, P, rfl, hS⟩ := hR
  have hx := Xt.refl (V := pl G A L P) (A := A)
  show wpM E d M_X5_names [vr (A 0 7), vi x1, vi x2] G _
  refine wpM_of mk_X5_names (Nat.le_of_ble_eq_true rfl) ?_
  refine v_X5_names_0 h0 ?_
  refine ⟨hS.o (s0_7 hS), ?_⟩
  rw [l0_7_2 hS]
  obtain ⟨hg1, h⟩ := h
  have hg1 : PG L (P).2 := hg1
  refine ⟨hS.o (sP_9 hg1), ?_⟩
  refine wpM.mono (h G A ⟨L, P, rfl, hS⟩) (fun rr2 G2 hr => ?_)
  obtain ⟨A2, W2, w2, ⟨L2, P2, rfl, hS2⟩, hy2, rfl, r2, rfl, h⟩ := hr
  refine ⟨r2, rfl, ?_⟩
  have hx2 := Xt.trans hx hy2
  have hg3 : PG L2 (P).2 := PG.up hy2 hg1
  have ee4 : A2 0 7 = A 0 7 := hy2.2 _ _ hS.1.1 (((n0_7 hS2)).trans ((n0_7 hS)).symm)
  try rw [← ee4]
  exact wp.mono (h G2 A2 ⟨L2, P2, rfl, hS2⟩) (fun r G' q => qx_trans hx2 q)
theorem w_X5_names_12 {E : EE} {d : Nat} {V : VH} {K : Int32 → VH → Prop} {x1 : Int32} {x2 : Int32} {x3 : Int32} {x4 : Int32}  (h0 : 0 < d) (h : (x2 < x4 → K (-1) V) ∧ (¬ (x2 < x4) → vMI E (d - 1) M_X5_variable [sl 0 7] V (fun r1 V1 => (¬ r1 = 0 → PG (vL V1) (vQ V1) ∧ (vMV E (d - 1) M_X2_amend [sl (vQ V1) 9, wi x3, wi x4] V1 (fun V4 => (x4 = x2 → K x4 V4) ∧ (¬ (x4 = x2) → (x4 < x1 → vwp E d M_X5_names 64 [some (sl 0 7), some (wi x1), some (wi x2), some (wi x3), some (wi x4)] [] V4 (zi K)) ∧ (¬ (x4 < x1) → vMI E (d - 1) M_X10_is [sl 0 2, wi 44] V4 (fun r7 V7 => (¬ r7 = 0 → vwp E d M_X5_names 64 [some (sl 0 7), some (wi x1), some (wi x2), some (wi x3), some (wi x4)] [] V7 (zi K)) ∧ (r7 = 0 → K x4 V7))))))) ∧ (r1 = 0 → K (-1) V1)))) : vwp E d M_X5_names 12 [some (sl 0 7), some (wi x1), some (wi x2), some (wi x3), some (wi x4)] [] V (zi K) := by
  intro G A hR
  obtain ⟨L, P, rfl, hS⟩ := hR
  have hx := Xt.refl (V := pl G A L P) (A := A)
  show wp E d M_X5_names 12 [some (vr (A 0 7)), some (vi x1), some (vi x2), some (vi x3), some (vi x4)] [] G _
  refine v_X5_names_12 h0 ?_
  refine ⟨fun hc => ?_, fun hc => ?_⟩
  · have h := h.1 hc
    exact qx_i hS hx h
  · have h := h.2 hc
    refine ⟨hS.o (s0_7 hS), ?_⟩
    refine wpM.mono (h G A ⟨L, P, rfl, hS⟩) (fun rr1 G1 hr => ?_)
    obtain ⟨A1, W1, w1, ⟨L1, P1, rfl, hS1⟩, hy1, rfl, r1, rfl, h⟩ := hr
    refine ⟨r1, rfl, ?_⟩
    have hx1 := Xt.trans hx hy1
    have ee2 : A1 0 7 = A 0 7 := hy1.2 _ _ hS.1.1 (((n0_7 hS1)).trans ((n0_7 hS)).symm)
    try rw [← ee2]
    refine ⟨fun hc => ?_, fun hc => ?_⟩
    · have h := h.1 hc
      refine ⟨hS1.o (s0_7 hS1), ?_⟩
      rw [l0_7_2 hS1]
      obtain ⟨hg3, h⟩ := h
      have hg3 : PG L1 (P1).2 := hg3
      refine ⟨hS1.o (sP_9 hg3), ?_⟩
      refine wpM.mono (h G1 A1 ⟨L1, P1, rfl, hS1⟩) (fun rr4 G4 hr => ?_)
      obtain ⟨A4, W4, w4, ⟨L4, P4, rfl, hS4⟩, hy4, rfl, rfl, h⟩ := hr
      refine ⟨rfl, ?_⟩
      have hx4 := Xt.trans hx1 hy4
      have hg5 : PG L4 (P1).2 := PG.up hy4 hg3
      have ee6 : A4 0 7 = A1 0 7 := hy4.2 _ _ hS1.1.1 (((n0_7 hS4)).trans ((n0_7 hS1)).symm)
      try rw [← ee6]
      refine ⟨fun hc => ?_, fun hc => ?_⟩
      · have h := h.1 hc
        exact qx_i hS4 hx4 h
      · have h := h.2 hc
        refine ⟨fun hc => ?_, fun hc => ?_⟩
        · have h := h.1 hc
          exact wp.mono (h G4 A4 ⟨L4, P4, rfl, hS4⟩) (fun r G' q => qx_trans hx4 q)
        · have h := h.2 hc
          refine ⟨hS4.o (s0_7 hS4), ?_⟩
          rw [l0_7_0 hS4]
          refine ⟨hS4.o (s0_2 hS4), ?_⟩
          refine wpM.mono (h G4 A4 ⟨L4, P4, rfl, hS4⟩) (fun rr7 G7 hr => ?_)
          obtain ⟨A7, W7, w7, ⟨L7, P7, rfl, hS7⟩, hy7, rfl, r7, rfl, h⟩ := hr
          refine ⟨r7, rfl, ?_⟩
          have hx7 := Xt.trans hx4 hy7
          have hg8 : PG L7 (P1).2 := PG.up hy7 hg5
          have ee9 : A7 0 7 = A4 0 7 := hy7.2 _ _ hS4.1.1 (((n0_7 hS7)).trans ((n0_7 hS4)).symm)
          try rw [← ee9]
          refine ⟨fun hc => ?_, fun hc => ?_⟩
          · have h := h.1 hc
            exact wp.mono (h G7 A7 ⟨L7, P7, rfl, hS7⟩) (fun r G' q => qx_trans hx7 q)
          · have h := h.2 hc
            exact qx_i hS7 hx7 h
    · have h := h.2 hc
      exact qx_i hS1 hx1 h
theorem w_X5_names_64 {E : EE} {d : Nat} {V : VH} {K : Int32 → VH → Prop} {x1 : Int32} {x2 : Int32} {x3 : Int32} {x4 : Int32}  (h0 : 0 < d) (h : vMI E (d - 1) M_X10_accept [sl 0 2, wi 44] V (fun r1 V1 => (¬ r1 = 0 → vwp E d M_X5_names 12 [some (sl 0 7), some (wi x1), some (wi x2), some (wi x3), some (wi (x4 + 1))] [] V1 (zi K)) ∧ (r1 = 0 → K (-1) V1))) : vwp E d M_X5_names 64 [some (sl 0 7), some (wi x1), some (wi x2), some (wi x3), some (wi x4)] [] V (zi K) := by
  intro G A hR
  obtain ⟨L, P, rfl, hS⟩ := hR
  have hx := Xt.refl (V := pl G A L P) (A := A)
  show wp E d M_X5_names 64 [some (vr (A 0 7)), some (vi x1), some (vi x2), some (vi x3), some (vi x4)] [] G _
  refine v_X5_names_64 h0 ?_
  refine ⟨hS.o (s0_7 hS), ?_⟩
  rw [l0_7_0 hS]
  refine ⟨hS.o (s0_2 hS), ?_⟩
  refine wpM.mono (h G A ⟨L, P, rfl, hS⟩) (fun rr1 G1 hr => ?_)
  obtain ⟨A1, W1, w1, ⟨L1, P1, rfl, hS1⟩, hy1, rfl, r1, rfl, h⟩ := hr
  refine ⟨r1, rfl, ?_⟩
  have hx1 := Xt.trans hx hy1
  have ee2 : A1 0 7 = A 0 7 := hy1.2 _ _ hS.1.1 (((n0_7 hS1)).trans ((n0_7 hS)).symm)
  try rw [← ee2]
  refine ⟨fun hc => ?_, fun hc => ?_⟩
  · have h := h.1 hc
    exact wp.mono (h G1 A1 ⟨L1, P1, rfl, hS1⟩) (fun r G' q => qx_trans hx1 q)
  · have h := h.2 hc
    exact qx_i hS1 hx1 h
theorem w_X5_numerals_0 {E : EE} {d : Nat} {V : VH} {K : Int32 → VH → Prop} {x1 : Int32} {x2 : Int32} {x3 : Int32}  (h0 : 0 < d) (h : PG (vL V) (vQ V) ∧ (vMI E (d - 1) M_X2_note [sl (vQ V) 9, wi 0] V (fun r2 V2 => vwp E d M_X5_numerals 13 [some (sl 0 7), some (wi x1), some (wi x2), some (wi x3), some (wi r2), some (wi 1)] [] V2 (zi K)))) : vMI E d M_X5_numerals [sl 0 7, wi x1, wi x2, wi x3] V K := by
  intro G A hR
  obtain ⟨L, P, rfl, hS⟩ := hR
  have hx := Xt.refl (V := pl G A L P) (A := A)
  show wpM E d M_X5_numerals [vr (A 0 7), vi x1, vi x2, vi x3] G _
  refine wpM_of mk_X5_numerals (Nat.le_of_ble_eq_true rfl) ?_
  refine v_X5_numerals_0 h0 ?_
  refine ⟨hS.o (s0_7 hS), ?_⟩
  rw [l0_7_2 hS]
  obtain ⟨hg1, h⟩ := h
  have hg1 : PG L (P).2 := hg1
  refine ⟨hS.o (sP_9 hg1), ?_⟩
  refine wpM.mono (h G A ⟨L, P, rfl, hS⟩) (fun rr2 G2 hr => ?_)
  obtain ⟨A2, W2, w2, ⟨L2, P2, rfl, hS2⟩, hy2, rfl, r2, rfl, h⟩ := hr
  refine ⟨r2, rfl, ?_⟩
  have hx2 := Xt.trans hx hy2
  have hg3 : PG L2 (P).2 := PG.up hy2 hg1
  have ee4 : A2 0 7 = A 0 7 := hy2.2 _ _ hS.1.1 (((n0_7 hS2)).trans ((n0_7 hS)).symm)
  try rw [← ee4]
  exact wp.mono (h G2 A2 ⟨L2, P2, rfl, hS2⟩) (fun r G' q => qx_trans hx2 q)
theorem w_X5_numerals_13 {E : EE} {d : Nat} {V : VH} {K : Int32 → VH → Prop} {x1 : Int32} {x2 : Int32} {x3 : Int32} {x4 : Int32} {x5 : Int32}  (h0 : 0 < d) (h : (x2 < x5 → K 1 V) ∧ (¬ (x2 < x5) → vMI E (d - 1) M_X5_numeral [sl 0 7, wi x1, wi 0, wi x3] V (fun r1 V1 => (¬ r1 = 0 → PG (vL V1) (vQ V1) ∧ (vMI E (d - 1) M_X2_note [sl (vQ V1) 9, wi (vI V1 0 7 5)] V1 (fun r4 V4 => PG (vL V4) (vQ V4) ∧ (vMV E (d - 1) M_X2_amend [sl (vQ V4) 9, wi x4, wi x5] V4 (fun V8 => (x5 = x2 → K 1 V8) ∧ (¬ (x5 = x2) → vMI E (d - 1) M_X10_is [sl 0 2, wi 44] V8 (fun r12 V12 => (¬ r12 = 0 → vMV E (d - 1) M_X10_step [sl 0 2] V12 (fun V16 => vwp E d M_X5_numerals 13 [some (sl 0 7), some (wi x1), some (wi x2), some (wi x3), some (wi x4), some (wi (x5 + 1))] [] V16 (zi K))) ∧ (r12 = 0 → K 1 V12)))))))) ∧ (r1 = 0 → K 0 V1)))) : vwp E d M_X5_numerals 13 [some (sl 0 7), some (wi x1), some (wi x2), some (wi x3), some (wi x4), some (wi x5)] [] V (zi K) := by
  intro G A hR
  obtain ⟨L, P, rfl, hS⟩ := hR
  have hx := Xt.refl (V := pl G A L P) (A := A)
  show wp E d M_X5_numerals 13 [some (vr (A 0 7)), some (vi x1), some (vi x2), some (vi x3), some (vi x4), some (vi x5)] [] G _
  refine v_X5_numerals_13 h0 ?_
  refine ⟨fun hc => ?_, fun hc => ?_⟩
  · have h := h.1 hc
    exact qx_i hS hx h
  · have h := h.2 hc
    refine ⟨hS.o (s0_7 hS), ?_⟩
    refine wpM.mono (h G A ⟨L, P, rfl, hS⟩) (fun rr1 G1 hr => ?_)
    obtain ⟨A1, W1, w1, ⟨L1, P1, rfl, hS1⟩, hy1, rfl, r1, rfl, h⟩ := hr
    refine ⟨r1, rfl, ?_⟩
    have hx1 := Xt.trans hx hy1
    have ee2 : A1 0 7 = A 0 7 := hy1.2 _ _ hS.1.1 (((n0_7 hS1)).trans ((n0_7 hS)).symm)
    try rw [← ee2]
    refine ⟨fun hc => ?_, fun hc => ?_⟩
    · have h := h.1 hc
      refine ⟨hS1.o (s0_7 hS1), ?_⟩
      rw [l0_7_2 hS1]
      obtain ⟨hg3, h⟩ := h
      have hg3 : PG L1 (P1).2 := hg3
      refine ⟨hS1.o (sP_9 hg3), ?_⟩
      refine wpM.mono (h G1 A1 ⟨L1, P1, rfl, hS1⟩) (fun rr4 G4 hr => ?_)
      obtain ⟨A4, W4, w4, ⟨L4, P4, rfl, hS4⟩, hy4, rfl, r4, rfl, h⟩ := hr
      refine ⟨r4, rfl, ?_⟩
      have hx4 := Xt.trans hx1 hy4
      have hg5 : PG L4 (P1).2 := PG.up hy4 hg3
      have ee6 : A4 0 7 = A1 0 7 := hy4.2 _ _ hS1.1.1 (((n0_7 hS4)).trans ((n0_7 hS1)).symm)
      try rw [← ee6]
      refine ⟨hS4.o (s0_7 hS4), ?_⟩
      rw [l0_7_2 hS4]
      obtain ⟨hg7, h⟩ := h
      have hg7 : PG L4 (P4).2 := hg7
      refine ⟨hS4.o (sP_9 hg7), ?_⟩
      refine wpM.mono (h G4 A4 ⟨L4, P4, rfl, hS4⟩) (fun rr8 G8 hr => ?_)
      obtain ⟨A8, W8, w8, ⟨L8, P8, rfl, hS8⟩, hy8, rfl, rfl, h⟩ := hr
      refine ⟨rfl, ?_⟩
      have hx8 := Xt.trans hx4 hy8
      have hg9 : PG L8 (P1).2 := PG.up hy8 hg5
      have hg10 : PG L8 (P4).2 := PG.up hy8 hg7
      have ee11 : A8 0 7 = A4 0 7 := hy8.2 _ _ hS4.1.1 (((n0_7 hS8)).trans ((n0_7 hS4)).symm)
      try rw [← ee11]
      refine ⟨fun hc => ?_, fun hc => ?_⟩
      · have h := h.1 hc
        exact qx_i hS8 hx8 h
      · have h := h.2 hc
        refine ⟨hS8.o (s0_7 hS8), ?_⟩
        rw [l0_7_0 hS8]
        refine ⟨hS8.o (s0_2 hS8), ?_⟩
        refine wpM.mono (h G8 A8 ⟨L8, P8, rfl, hS8⟩) (fun rr12 G12 hr => ?_)
        obtain ⟨A12, W12, w12, ⟨L12, P12, rfl, hS12⟩, hy12, rfl, r12, rfl, h⟩ := hr
        refine ⟨r12, rfl, ?_⟩
        have hx12 := Xt.trans hx8 hy12
        have hg13 : PG L12 (P1).2 := PG.up hy12 hg9
        have hg14 : PG L12 (P4).2 := PG.up hy12 hg10
        have ee15 : A12 0 7 = A8 0 7 := hy12.2 _ _ hS8.1.1 (((n0_7 hS12)).trans ((n0_7 hS8)).symm)
        try rw [← ee15]
        refine ⟨fun hc => ?_, fun hc => ?_⟩
        · have h := h.1 hc
          refine ⟨hS12.o (s0_7 hS12), ?_⟩
          rw [l0_7_0 hS12]
          refine ⟨hS12.o (s0_2 hS12), ?_⟩
          refine wpM.mono (h G12 A12 ⟨L12, P12, rfl, hS12⟩) (fun rr16 G16 hr => ?_)
          obtain ⟨A16, W16, w16, ⟨L16, P16, rfl, hS16⟩, hy16, rfl, rfl, h⟩ := hr
          refine ⟨rfl, ?_⟩
          have hx16 := Xt.trans hx12 hy16
          have hg17 : PG L16 (P1).2 := PG.up hy16 hg13
          have hg18 : PG L16 (P4).2 := PG.up hy16 hg14
          have ee19 : A16 0 7 = A12 0 7 := hy16.2 _ _ hS12.1.1 (((n0_7 hS16)).trans ((n0_7 hS12)).symm)
          try rw [← ee19]
          exact wp.mono (h G16 A16 ⟨L16, P16, rfl, hS16⟩) (fun r G' q => qx_trans hx16 q)
        · have h := h.2 hc
          exact qx_i hS12 hx12 h
    · have h := h.2 hc
      exact qx_i hS1 hx1 h
theorem w_X5_sum_0 {E : EE} {d : Nat} {V : VH} {K : Int32 → VH → Prop}   (h0 : 0 < d) (h : vMI E (d - 1) M_X5_term [sl 0 7] V (fun r1 V1 => (¬ r1 = 0 → vwp E d M_X5_sum 11 [some (sl 0 7), some (wi 0), none] [] V1 (zi K)) ∧ (r1 = 0 → K 0 V1))) : vMI E d M_X5_sum [sl 0 7] V K := by
  intro G A hR
  obtain ⟨L, P, rfl, hS⟩ := hR
  have hx := Xt.refl (V := pl G A L P) (A := A)
  show wpM E d M_X5_sum [vr (A 0 7)] G _
  refine wpM_of mk_X5_sum (Nat.le_of_ble_eq_true rfl) ?_
  refine v_X5_sum_0 h0 ?_
  refine ⟨hS.o (s0_7 hS), ?_⟩
  refine wpM.mono (h G A ⟨L, P, rfl, hS⟩) (fun rr1 G1 hr => ?_)
  obtain ⟨A1, W1, w1, ⟨L1, P1, rfl, hS1⟩, hy1, rfl, r1, rfl, h⟩ := hr
  refine ⟨r1, rfl, ?_⟩
  have hx1 := Xt.trans hx hy1
  have ee2 : A1 0 7 = A 0 7 := hy1.2 _ _ hS.1.1 (((n0_7 hS1)).trans ((n0_7 hS)).symm)
  try rw [← ee2]
  refine ⟨fun hc => ?_, fun hc => ?_⟩
  · have h := h.1 hc
    exact wp.mono (h G1 A1 ⟨L1, P1, rfl, hS1⟩) (fun r G' q => qx_trans hx1 q)
  · have h := h.2 hc
    exact qx_i hS1 hx1 h
theorem w_X5_sum_11 {E : EE} {d : Nat} {V : VH} {K : Int32 → VH → Prop} {x1 : Int32}  (h0 : 0 < d) (h : (20000 ≤ x1 → K 1 V) ∧ (¬ (20000 ≤ x1) → vMI E (d - 1) M_X10_is [sl 0 2, wi 43] V (fun r1 V1 => (¬ r1 = 0 → vwp E d M_X5_sum 42 [some (sl 0 7), some (wi x1), none] [] V1 (zi K)) ∧ (r1 = 0 → vMI E (d - 1) M_X10_is [sl 0 2, wi 45] V1 (fun r3 V3 => (r3 = 0 → K 1 V3) ∧ (¬ (r3 = 0) → vwp E d M_X5_sum 42 [some (sl 0 7), some (wi x1), none] [] V3 (zi K))))))) : vwp E d M_X5_sum 11 [some (sl 0 7), some (wi x1), none] [] V (zi K) := by
  intro G A hR
  obtain ⟨L, P, rfl, hS⟩ := hR
  have hx := Xt.refl (V := pl G A L P) (A := A)
  show wp E d M_X5_sum 11 [some (vr (A 0 7)), some (vi x1), none] [] G _
  refine v_X5_sum_11 h0 ?_
  refine ⟨fun hc => ?_, fun hc => ?_⟩
  · have h := h.1 hc
    exact qx_i hS hx h
  · have h := h.2 hc
    refine ⟨hS.o (s0_7 hS), ?_⟩
    rw [l0_7_0 hS]
    refine ⟨hS.o (s0_2 hS), ?_⟩
    refine wpM.mono (h G A ⟨L, P, rfl, hS⟩) (fun rr1 G1 hr => ?_)
    obtain ⟨A1, W1, w1, ⟨L1, P1, rfl, hS1⟩, hy1, rfl, r1, rfl, h⟩ := hr
    refine ⟨r1, rfl, ?_⟩
    have hx1 := Xt.trans hx hy1
    have ee2 : A1 0 7 = A 0 7 := hy1.2 _ _ hS.1.1 (((n0_7 hS1)).trans ((n0_7 hS)).symm)
    try rw [← ee2]
    refine ⟨fun hc => ?_, fun hc => ?_⟩
    · have h := h.1 hc
      exact wp.mono (h G1 A1 ⟨L1, P1, rfl, hS1⟩) (fun r G' q => qx_trans hx1 q)
    · have h := h.2 hc
      refine ⟨hS1.o (s0_7 hS1), ?_⟩
      rw [l0_7_0 hS1]
      refine ⟨hS1.o (s0_2 hS1), ?_⟩
      refine wpM.mono (h G1 A1 ⟨L1, P1, rfl, hS1⟩) (fun rr3 G3 hr => ?_)
      obtain ⟨A3, W3, w3, ⟨L3, P3, rfl, hS3⟩, hy3, rfl, r3, rfl, h⟩ := hr
      refine ⟨r3, rfl, ?_⟩
      have hx3 := Xt.trans hx1 hy3
      have ee4 : A3 0 7 = A1 0 7 := hy3.2 _ _ hS1.1.1 (((n0_7 hS3)).trans ((n0_7 hS1)).symm)
      try rw [← ee4]
      refine ⟨fun hc => ?_, fun hc => ?_⟩
      · have h := h.1 hc
        exact qx_i hS3 hx3 h
      · have h := h.2 hc
        exact wp.mono (h G3 A3 ⟨L3, P3, rfl, hS3⟩) (fun r G' q => qx_trans hx3 q)
theorem w_X5_sum_42 {E : EE} {d : Nat} {V : VH} {K : Int32 → VH → Prop} {x1 : Int32}  (h0 : 0 < d) (h : vMI E (d - 1) M_X10_is [sl 0 2, wi 43] V (fun r1 V1 => (r1 = 0 → vwp E d M_X5_sum 61 [some (sl 0 7), some (wi x1), none] [wi 9] V1 (zi K)) ∧ (¬ (r1 = 0) → vwp E d M_X5_sum 61 [some (sl 0 7), some (wi x1), none] [wi 8] V1 (zi K)))) : vwp E d M_X5_sum 42 [some (sl 0 7), some (wi x1), none] [] V (zi K) := by
  intro G A hR
  obtain ⟨L, P, rfl, hS⟩ := hR
  have hx := Xt.refl (V := pl G A L P) (A := A)
  show wp E d M_X5_sum 42 [some (vr (A 0 7)), some (vi x1), none] [] G _
  refine v_X5_sum_42 h0 ?_
  refine ⟨hS.o (s0_7 hS), ?_⟩
  rw [l0_7_0 hS]
  refine ⟨hS.o (s0_2 hS), ?_⟩
  refine wpM.mono (h G A ⟨L, P, rfl, hS⟩) (fun rr1 G1 hr => ?_)
  obtain ⟨A1, W1, w1, ⟨L1, P1, rfl, hS1⟩, hy1, rfl, r1, rfl, h⟩ := hr
  refine ⟨r1, rfl, ?_⟩
  have hx1 := Xt.trans hx hy1
  have ee2 : A1 0 7 = A 0 7 := hy1.2 _ _ hS.1.1 (((n0_7 hS1)).trans ((n0_7 hS)).symm)
  try rw [← ee2]
  refine ⟨fun hc => ?_, fun hc => ?_⟩
  · have h := h.1 hc
    exact wp.mono (h G1 A1 ⟨L1, P1, rfl, hS1⟩) (fun r G' q => qx_trans hx1 q)
  · have h := h.2 hc
    exact wp.mono (h G1 A1 ⟨L1, P1, rfl, hS1⟩) (fun r G' q => qx_trans hx1 q)
theorem w_X5_sum_61 {E : EE} {d : Nat} {V : VH} {K : Int32 → VH → Prop} {x1 : Int32} {t0 : Int32}  (h0 : 0 < d) (h : vMV E (d - 1) M_X10_step [sl 0 2] V (fun V1 => vMI E (d - 1) M_X5_term [sl 0 7] V1 (fun r3 V3 => (¬ r3 = 0 → PG (vL V3) (vQ V3) ∧ (vMI E (d - 1) M_X2_emit [sl (vQ V3) 9, wi t0, wi 0] V3 (fun r6 V6 => vwp E d M_X5_sum 11 [some (sl 0 7), some (wi (x1 + 1)), none] [] V6 (zi K)))) ∧ (r3 = 0 → K 0 V3)))) : vwp E d M_X5_sum 61 [some (sl 0 7), some (wi x1), none] [wi t0] V (zi K) := by
  intro G A hR
  obtain ⟨L, P, rfl, hS⟩ := hR
  have hx := Xt.refl (V := pl G A L P) (A := A)
  show wp E d M_X5_sum 61 [some (vr (A 0 7)), some (vi x1), none] [vi t0] G _
  refine v_X5_sum_61 h0 ?_
  refine ⟨hS.o (s0_7 hS), ?_⟩
  rw [l0_7_0 hS]
  refine ⟨hS.o (s0_2 hS), ?_⟩
  refine wpM.mono (h G A ⟨L, P, rfl, hS⟩) (fun rr1 G1 hr => ?_)
  obtain ⟨A1, W1, w1, ⟨L1, P1, rfl, hS1⟩, hy1, rfl, rfl, h⟩ := hr
  refine ⟨rfl, ?_⟩
  have hx1 := Xt.trans hx hy1
  have ee2 : A1 0 7 = A 0 7 := hy1.2 _ _ hS.1.1 (((n0_7 hS1)).trans ((n0_7 hS)).symm)
  try rw [← ee2]
  refine ⟨hS1.o (s0_7 hS1), ?_⟩
  refine wpM.mono (h G1 A1 ⟨L1, P1, rfl, hS1⟩) (fun rr3 G3 hr => ?_)
  obtain ⟨A3, W3, w3, ⟨L3, P3, rfl, hS3⟩, hy3, rfl, r3, rfl, h⟩ := hr
  refine ⟨r3, rfl, ?_⟩
  have hx3 := Xt.trans hx1 hy3
  have ee4 : A3 0 7 = A1 0 7 := hy3.2 _ _ hS1.1.1 (((n0_7 hS3)).trans ((n0_7 hS1)).symm)
  try rw [← ee4]
  refine ⟨fun hc => ?_, fun hc => ?_⟩
  · have h := h.1 hc
    refine ⟨hS3.o (s0_7 hS3), ?_⟩
    rw [l0_7_2 hS3]
    obtain ⟨hg5, h⟩ := h
    have hg5 : PG L3 (P3).2 := hg5
    refine ⟨hS3.o (sP_9 hg5), ?_⟩
    refine wpM.mono (h G3 A3 ⟨L3, P3, rfl, hS3⟩) (fun rr6 G6 hr => ?_)
    obtain ⟨A6, W6, w6, ⟨L6, P6, rfl, hS6⟩, hy6, rfl, r6, rfl, h⟩ := hr
    refine ⟨r6, rfl, ?_⟩
    have hx6 := Xt.trans hx3 hy6
    have hg7 : PG L6 (P3).2 := PG.up hy6 hg5
    have ee8 : A6 0 7 = A3 0 7 := hy6.2 _ _ hS3.1.1 (((n0_7 hS6)).trans ((n0_7 hS3)).symm)
    try rw [← ee8]
    exact wp.mono (h G6 A6 ⟨L6, P6, rfl, hS6⟩) (fun r G' q => qx_trans hx6 q)
  · have h := h.2 hc
    exact qx_i hS3 hx3 h
theorem w_X5_term_0 {E : EE} {d : Nat} {V : VH} {K : Int32 → VH → Prop}   (h0 : 0 < d) (h : vMI E (d - 1) M_X5_factor [sl 0 7] V (fun r1 V1 => (¬ r1 = 0 → vwp E d M_X5_term 11 [some (sl 0 7), some (wi 0)] [] V1 (zi K)) ∧ (r1 = 0 → K 0 V1))) : vMI E d M_X5_term [sl 0 7] V K := by
  intro G A hR
  obtain ⟨L, P, rfl, hS⟩ := hR
  have hx := Xt.refl (V := pl G A L P) (A := A)
  show wpM E d M_X5_term [vr (A 0 7)] G _
  refine wpM_of mk_X5_term (Nat.le_of_ble_eq_true rfl) ?_
  refine v_X5_term_0 h0 ?_
  refine ⟨hS.o (s0_7 hS), ?_⟩
  refine wpM.mono (h G A ⟨L, P, rfl, hS⟩) (fun rr1 G1 hr => ?_)
  obtain ⟨A1, W1, w1, ⟨L1, P1, rfl, hS1⟩, hy1, rfl, r1, rfl, h⟩ := hr
  refine ⟨r1, rfl, ?_⟩
  have hx1 := Xt.trans hx hy1
  have ee2 : A1 0 7 = A 0 7 := hy1.2 _ _ hS.1.1 (((n0_7 hS1)).trans ((n0_7 hS)).symm)
  try rw [← ee2]
  refine ⟨fun hc => ?_, fun hc => ?_⟩
  · have h := h.1 hc
    exact wp.mono (h G1 A1 ⟨L1, P1, rfl, hS1⟩) (fun r G' q => qx_trans hx1 q)
  · have h := h.2 hc
    exact qx_i hS1 hx1 h
theorem w_X5_term_11 {E : EE} {d : Nat} {V : VH} {K : Int32 → VH → Prop} {x1 : Int32}  (h0 : 0 < d) (h : (20000 ≤ x1 → K 1 V) ∧ (¬ (20000 ≤ x1) → vMI E (d - 1) M_X10_is [sl 0 2, wi 42] V (fun r1 V1 => (r1 = 0 → K 1 V1) ∧ (¬ (r1 = 0) → vMV E (d - 1) M_X10_step [sl 0 2] V1 (fun V3 => vMI E (d - 1) M_X5_factor [sl 0 7] V3 (fun r5 V5 => (¬ r5 = 0 → PG (vL V5) (vQ V5) ∧ (vMI E (d - 1) M_X2_emit [sl (vQ V5) 9, wi 10, wi 0] V5 (fun r8 V8 => vwp E d M_X5_term 11 [some (sl 0 7), some (wi (x1 + 1))] [] V8 (zi K)))) ∧ (r5 = 0 → K 0 V5))))))) : vwp E d M_X5_term 11 [some (sl 0 7), some (wi x1)] [] V (zi K) := by
  intro G A hR
  obtain ⟨L, P, rfl, hS⟩ := hR
  have hx := Xt.refl (V := pl G A L P) (A := A)
  show wp E d M_X5_term 11 [some (vr (A 0 7)), some (vi x1)] [] G _
  refine v_X5_term_11 h0 ?_
  refine ⟨fun hc => ?_, fun hc => ?_⟩
  · have h := h.1 hc
    exact qx_i hS hx h
  · have h := h.2 hc
    refine ⟨hS.o (s0_7 hS), ?_⟩
    rw [l0_7_0 hS]
    refine ⟨hS.o (s0_2 hS), ?_⟩
    refine wpM.mono (h G A ⟨L, P, rfl, hS⟩) (fun rr1 G1 hr => ?_)
    obtain ⟨A1, W1, w1, ⟨L1, P1, rfl, hS1⟩, hy1, rfl, r1, rfl, h⟩ := hr
    refine ⟨r1, rfl, ?_⟩
    have hx1 := Xt.trans hx hy1
    have ee2 : A1 0 7 = A 0 7 := hy1.2 _ _ hS.1.1 (((n0_7 hS1)).trans ((n0_7 hS)).symm)
    try rw [← ee2]
    refine ⟨fun hc => ?_, fun hc => ?_⟩
    · have h := h.1 hc
      exact qx_i hS1 hx1 h
    · have h := h.2 hc
      refine ⟨hS1.o (s0_7 hS1), ?_⟩
      rw [l0_7_0 hS1]
      refine ⟨hS1.o (s0_2 hS1), ?_⟩
      refine wpM.mono (h G1 A1 ⟨L1, P1, rfl, hS1⟩) (fun rr3 G3 hr => ?_)
      obtain ⟨A3, W3, w3, ⟨L3, P3, rfl, hS3⟩, hy3, rfl, rfl, h⟩ := hr
      refine ⟨rfl, ?_⟩
      have hx3 := Xt.trans hx1 hy3
      have ee4 : A3 0 7 = A1 0 7 := hy3.2 _ _ hS1.1.1 (((n0_7 hS3)).trans ((n0_7 hS1)).symm)
      try rw [← ee4]
      refine ⟨hS3.o (s0_7 hS3), ?_⟩
      refine wpM.mono (h G3 A3 ⟨L3, P3, rfl, hS3⟩) (fun rr5 G5 hr => ?_)
      obtain ⟨A5, W5, w5, ⟨L5, P5, rfl, hS5⟩, hy5, rfl, r5, rfl, h⟩ := hr
      refine ⟨r5, rfl, ?_⟩
      have hx5 := Xt.trans hx3 hy5
      have ee6 : A5 0 7 = A3 0 7 := hy5.2 _ _ hS3.1.1 (((n0_7 hS5)).trans ((n0_7 hS3)).symm)
      try rw [← ee6]
      refine ⟨fun hc => ?_, fun hc => ?_⟩
      · have h := h.1 hc
        refine ⟨hS5.o (s0_7 hS5), ?_⟩
        rw [l0_7_2 hS5]
        obtain ⟨hg7, h⟩ := h
        have hg7 : PG L5 (P5).2 := hg7
        refine ⟨hS5.o (sP_9 hg7), ?_⟩
        refine wpM.mono (h G5 A5 ⟨L5, P5, rfl, hS5⟩) (fun rr8 G8 hr => ?_)
        obtain ⟨A8, W8, w8, ⟨L8, P8, rfl, hS8⟩, hy8, rfl, r8, rfl, h⟩ := hr
        refine ⟨r8, rfl, ?_⟩
        have hx8 := Xt.trans hx5 hy8
        have hg9 : PG L8 (P5).2 := PG.up hy8 hg7
        have ee10 : A8 0 7 = A5 0 7 := hy8.2 _ _ hS5.1.1 (((n0_7 hS8)).trans ((n0_7 hS5)).symm)
        try rw [← ee10]
        exact wp.mono (h G8 A8 ⟨L8, P8, rfl, hS8⟩) (fun r G' q => qx_trans hx8 q)
      · have h := h.2 hc
        exact qx_i hS5 hx5 h
theorem w_X5_factor_0 {E : EE} {d : Nat} {V : VH} {K : Int32 → VH → Prop}   (h0 : 0 < d) (h : (¬ (vI V 0 2 6) = 2 → (¬ (vI V 0 2 6) = 3 → vMI E (d - 1) M_X10_is [sl 0 2, wi 45] V (fun r1 V1 => (r1 = 0 → vMI E (d - 1) M_X10_is [sl 0 2, wi 40] V1 (fun r3 V3 => (r3 = 0 → vMI E (d - 1) M_X10_is [sl 0 2, wi 91] V3 (fun r5 V5 => (r5 = 0 → vMI E (d - 1) M_X10_is [sl 0 2, wi 13] V5 (fun r7 V7 => (r7 = 0 → vMI E (d - 1) M_X10_is [sl 0 2, wi 14] V7 (fun r9 V9 => (r9 = 0 → vMI E (d - 1) M_X10_is [sl 0 2, wi 15] V9 (fun r11 V11 => (r11 = 0 → vMI E (d - 1) M_X10_is [sl 0 2, wi 16] V11 (fun r13 V13 => (r13 = 0 → vMI E (d - 1) M_X10_refuse [sl 0 2] V13 (fun r15 V15 => bz r15 ∧ K r15 V15)) ∧ (¬ (r13 = 0) → vMV E (d - 1) M_X10_step [sl 0 2] V13 (fun V17 => vMI E (d - 1) M_X5_enter [sl 0 7, wi 40] V17 (fun r19 V19 => (r19 = 0 → K 0 V19) ∧ (¬ (r19 = 0) → vMI E (d - 1) M_X5_sum [sl 0 7] V19 (fun r21 V21 => (r21 = 0 → K 0 V21) ∧ (¬ (r21 = 0) → vMI E (d - 1) M_X10_accept [sl 0 2, wi 58] V21 (fun r23 V23 => (r23 = 0 → K 0 V23) ∧ (¬ (r23 = 0) → PG (vL V23) (vQ V23) ∧ (vMI E (d - 1) M_X2_emit [sl (vQ V23) 9, wi 7, wi (vI V23 (vQ V23) 9 3)] V23 (fun r26 V26 => (r26 = 0 → K 0 V26) ∧ (¬ (r26 = 0) → vMI E (d - 1) M_X5_numerals [sl 0 7, wi 1, wi 20, wi 9999] V26 (fun r29 V29 => (r29 = 0 → K 0 V29) ∧ (¬ (r29 = 0) → vMI E (d - 1) M_X5_leave [sl 0 7, wi 41] V29 (fun r32 V32 => (r32 = 0 → K 0 V32) ∧ (¬ (r32 = 0) → K 1 V32))))))))))))))))) ∧ (¬ (r11 = 0) → vMI E (d - 1) M_X5_extreme [sl 0 7, wi 12] V11 (fun r35 V35 => bz r35 ∧ K r35 V35)))) ∧ (¬ (r9 = 0) → vMI E (d - 1) M_X5_extreme [sl 0 7, wi 11] V9 (fun r37 V37 => bz r37 ∧ K r37 V37)))) ∧ (¬ (r7 = 0) → vMV E (d - 1) M_X10_step [sl 0 2] V7 (fun V39 => vMI E (d - 1) M_X5_enter [sl 0 7, wi 40] V39 (fun r41 V41 => (r41 = 0 → K 0 V41) ∧ (¬ (r41 = 0) → vMI E (d - 1) M_X5_sum [sl 0 7] V41 (fun r43 V43 => (r43 = 0 → K 0 V43) ∧ (¬ (r43 = 0) → vMI E (d - 1) M_X5_leave [sl 0 7, wi 41] V43 (fun r45 V45 => (r45 = 0 → K 0 V45) ∧ (¬ (r45 = 0) → PG (vL V45) (vQ V45) ∧ (vMI E (d - 1) M_X2_emit [sl (vQ V45) 9, wi 4, wi 0] V45 (fun r48 V48 => (r48 = 0 → K 0 V48) ∧ (¬ (r48 = 0) → K 1 V48))))))))))))) ∧ (¬ (r5 = 0) → vMI E (d - 1) M_X5_enter [sl 0 7, wi 91] V5 (fun r51 V51 => (r51 = 0 → K 0 V51) ∧ (¬ (r51 = 0) → vMI E (d - 1) M_X5_test [sl 0 7] V51 (fun r53 V53 => (r53 = 0 → K 0 V53) ∧ (¬ (r53 = 0) → vMI E (d - 1) M_X5_leave [sl 0 7, wi 93] V53 (fun r55 V55 => (r55 = 0 → K 0 V55) ∧ (¬ (r55 = 0) → PG (vL V55) (vQ V55) ∧ (vMI E (d - 1) M_X2_emit [sl (vQ V55) 9, wi 5, wi 0] V55 (fun r58 V58 => (r58 = 0 → K 0 V58) ∧ (¬ (r58 = 0) → K 1 V58)))))))))))) ∧ (¬ (r3 = 0) → vMI E (d - 1) M_X5_enter [sl 0 7, wi 40] V3 (fun r61 V61 => (r61 = 0 → K 0 V61) ∧ (¬ (r61 = 0) → vMI E (d - 1) M_X5_sum [sl 0 7] V61 (fun r63 V63 => (r63 = 0 → K 0 V63) ∧ (¬ (r63 = 0) → vMI E (d - 1) M_X5_leave [sl 0 7, wi 41] V63 (fun r65 V65 => (r65 = 0 → K 0 V65) ∧ (¬ (r65 = 0) → K 1 V65))))))))) ∧ (¬ (r1 = 0) → vMI E (d - 1) M_X5_enter [sl 0 7, wi 45] V1 (fun r67 V67 => (r67 = 0 → K 0 V67) ∧ (¬ (r67 = 0) → vMI E (d - 1) M_X5_factor [sl 0 7] V67 (fun r69 V69 => (¬ r69 = 0 → ∀ V71 : VH, V71 = wrI V69 0 7 7 ((vI V69 0 7 7) - 1) → PG (vL V71) (vQ V71) ∧ (vMI E (d - 1) M_X2_emit [sl (vQ V71) 9, wi 3, wi 0] V71 (fun r73 V73 => bz r73 ∧ K r73 V73))) ∧ (r69 = 0 → K 0 V69))))))) ∧ ((vI V 0 2 6) = 3 → PG (vL V) (vQ V) ∧ (vMI E (d - 1) M_X2_emit [sl (vQ V) 9, wi 0, wi (Int64.toInt32 (vJ V 0 2 7))] V (fun r77 V77 => vMV E (d - 1) M_X10_step [sl 0 2] V77 (fun V80 => K 1 V80))))) ∧ ((vI V 0 2 6) = 2 → vMI E (d - 1) M_X5_namedFactor [sl 0 7] V (fun r83 V83 => bz r83 ∧ K r83 V83))) : vMI E d M_X5_factor [sl 0 7] V K := by
  intro G A hR
  obtain ⟨L, P, rfl, hS⟩ := hR
  have hx := Xt.refl (V := pl G A L P) (A := A)
  show wpM E d M_X5_factor [vr (A 0 7)] G _
  refine wpM_of mk_X5_factor (Nat.le_of_ble_eq_true rfl) ?_
  refine v_X5_factor_0 h0 ?_
  refine ⟨hS.o (s0_7 hS), ?_⟩
  rw [l0_7_0 hS]
  refine ⟨hS.o (s0_2 hS), ?_⟩
  refine ⟨fun hc => ?_, fun hc => ?_⟩
  · have h := h.1 hc
    refine ⟨fun hc => ?_, fun hc => ?_⟩
    · have h := h.1 hc
      refine wpM.mono (h G A ⟨L, P, rfl, hS⟩) (fun rr1 G1 hr => ?_)
      obtain ⟨A1, W1, w1, ⟨L1, P1, rfl, hS1⟩, hy1, rfl, r1, rfl, h⟩ := hr
      refine ⟨r1, rfl, ?_⟩
      have hx1 := Xt.trans hx hy1
      have ee2 : A1 0 7 = A 0 7 := hy1.2 _ _ hS.1.1 (((n0_7 hS1)).trans ((n0_7 hS)).symm)
      try rw [← ee2]
      refine ⟨fun hc => ?_, fun hc => ?_⟩
      · have h := h.1 hc
        refine ⟨hS1.o (s0_7 hS1), ?_⟩
        rw [l0_7_0 hS1]
        refine ⟨hS1.o (s0_2 hS1), ?_⟩
        refine wpM.mono (h G1 A1 ⟨L1, P1, rfl, hS1⟩) (fun rr3 G3 hr => ?_)
        obtain ⟨A3, W3, w3, ⟨L3, P3, rfl, hS3⟩, hy3, rfl, r3, rfl, h⟩ := hr
        refine ⟨r3, rfl, ?_⟩
        have hx3 := Xt.trans hx1 hy3
        have ee4 : A3 0 7 = A1 0 7 := hy3.2 _ _ hS1.1.1 (((n0_7 hS3)).trans ((n0_7 hS1)).symm)
        try rw [← ee4]
        refine ⟨fun hc => ?_, fun hc => ?_⟩
        · have h := h.1 hc
          refine ⟨hS3.o (s0_7 hS3), ?_⟩
          rw [l0_7_0 hS3]
          refine ⟨hS3.o (s0_2 hS3), ?_⟩
          refine wpM.mono (h G3 A3 ⟨L3, P3, rfl, hS3⟩) (fun rr5 G5 hr => ?_)
          obtain ⟨A5, W5, w5, ⟨L5, P5, rfl, hS5⟩, hy5, rfl, r5, rfl, h⟩ := hr
          refine ⟨r5, rfl, ?_⟩
          have hx5 := Xt.trans hx3 hy5
          have ee6 : A5 0 7 = A3 0 7 := hy5.2 _ _ hS3.1.1 (((n0_7 hS5)).trans ((n0_7 hS3)).symm)
          try rw [← ee6]
          refine ⟨fun hc => ?_, fun hc => ?_⟩
          · have h := h.1 hc
            refine ⟨hS5.o (s0_7 hS5), ?_⟩
            rw [l0_7_0 hS5]
            refine ⟨hS5.o (s0_2 hS5), ?_⟩
            refine wpM.mono (h G5 A5 ⟨L5, P5, rfl, hS5⟩) (fun rr7 G7 hr => ?_)
            obtain ⟨A7, W7, w7, ⟨L7, P7, rfl, hS7⟩, hy7, rfl, r7, rfl, h⟩ := hr
            refine ⟨r7, rfl, ?_⟩
            have hx7 := Xt.trans hx5 hy7
            have ee8 : A7 0 7 = A5 0 7 := hy7.2 _ _ hS5.1.1 (((n0_7 hS7)).trans ((n0_7 hS5)).symm)
            try rw [← ee8]
            refine ⟨fun hc => ?_, fun hc => ?_⟩
            · have h := h.1 hc
              refine ⟨hS7.o (s0_7 hS7), ?_⟩
              rw [l0_7_0 hS7]
              refine ⟨hS7.o (s0_2 hS7), ?_⟩
              refine wpM.mono (h G7 A7 ⟨L7, P7, rfl, hS7⟩) (fun rr9 G9 hr => ?_)
              obtain ⟨A9, W9, w9, ⟨L9, P9, rfl, hS9⟩, hy9, rfl, r9, rfl, h⟩ := hr
              refine ⟨r9, rfl, ?_⟩
              have hx9 := Xt.trans hx7 hy9
              have ee10 : A9 0 7 = A7 0 7 := hy9.2 _ _ hS7.1.1 (((n0_7 hS9)).trans ((n0_7 hS7)).symm)
              try rw [← ee10]
              refine ⟨fun hc => ?_, fun hc => ?_⟩
              · have h := h.1 hc
                refine ⟨hS9.o (s0_7 hS9), ?_⟩
                rw [l0_7_0 hS9]
                refine ⟨hS9.o (s0_2 hS9), ?_⟩
                refine wpM.mono (h G9 A9 ⟨L9, P9, rfl, hS9⟩) (fun rr11 G11 hr => ?_)
                obtain ⟨A11, W11, w11, ⟨L11, P11, rfl, hS11⟩, hy11, rfl, r11, rfl, h⟩ := hr
                refine ⟨r11, rfl, ?_⟩
                have hx11 := Xt.trans hx9 hy11
                have ee12 : A11 0 7 = A9 0 7 := hy11.2 _ _ hS9.1.1 (((n0_7 hS11)).trans ((n0_7 hS9)).symm)
                try rw [← ee12]
                refine ⟨fun hc => ?_, fun hc => ?_⟩
                · have h := h.1 hc
                  refine ⟨hS11.o (s0_7 hS11), ?_⟩
                  rw [l0_7_0 hS11]
                  refine ⟨hS11.o (s0_2 hS11), ?_⟩
                  refine wpM.mono (h G11 A11 ⟨L11, P11, rfl, hS11⟩) (fun rr13 G13 hr => ?_)
                  obtain ⟨A13, W13, w13, ⟨L13, P13, rfl, hS13⟩, hy13, rfl, r13, rfl, h⟩ := hr
                  refine ⟨r13, rfl, ?_⟩
                  have hx13 := Xt.trans hx11 hy13
                  have ee14 : A13 0 7 = A11 0 7 := hy13.2 _ _ hS11.1.1 (((n0_7 hS13)).trans ((n0_7 hS11)).symm)
                  try rw [← ee14]
                  refine ⟨fun hc => ?_, fun hc => ?_⟩
                  · have h := h.1 hc
                    refine ⟨hS13.o (s0_7 hS13), ?_⟩
                    rw [l0_7_0 hS13]
                    refine ⟨hS13.o (s0_2 hS13), ?_⟩
                    refine wpM.mono (h G13 A13 ⟨L13, P13, rfl, hS13⟩) (fun rr15 G15 hr => ?_)
                    obtain ⟨A15, W15, w15, ⟨L15, P15, rfl, hS15⟩, hy15, rfl, r15, rfl, h⟩ := hr
                    refine ⟨r15, rfl, ?_⟩
                    have hx15 := Xt.trans hx13 hy15
                    have ee16 : A15 0 7 = A13 0 7 := hy15.2 _ _ hS13.1.1 (((n0_7 hS15)).trans ((n0_7 hS13)).symm)
                    try rw [← ee16]
                    exact ⟨bz_ok h.1, qx_i hS15 hx15 h.2⟩
                  · have h := h.2 hc
                    refine ⟨hS13.o (s0_7 hS13), ?_⟩
                    rw [l0_7_0 hS13]
                    refine ⟨hS13.o (s0_2 hS13), ?_⟩
                    refine wpM.mono (h G13 A13 ⟨L13, P13, rfl, hS13⟩) (fun rr17 G17 hr => ?_)
                    obtain ⟨A17, W17, w17, ⟨L17, P17, rfl, hS17⟩, hy17, rfl, rfl, h⟩ := hr
                    refine ⟨rfl, ?_⟩
                    have hx17 := Xt.trans hx13 hy17
                    have ee18 : A17 0 7 = A13 0 7 := hy17.2 _ _ hS13.1.1 (((n0_7 hS17)).trans ((n0_7 hS13)).symm)
                    try rw [← ee18]
                    refine ⟨hS17.o (s0_7 hS17), ?_⟩
                    refine wpM.mono (h G17 A17 ⟨L17, P17, rfl, hS17⟩) (fun rr19 G19 hr => ?_)
                    obtain ⟨A19, W19, w19, ⟨L19, P19, rfl, hS19⟩, hy19, rfl, r19, rfl, h⟩ := hr
                    refine ⟨r19, rfl, ?_⟩
                    have hx19 := Xt.trans hx17 hy19
                    have ee20 : A19 0 7 = A17 0 7 := hy19.2 _ _ hS17.1.1 (((n0_7 hS19)).trans ((n0_7 hS17)).symm)
                    try rw [← ee20]
                    refine ⟨fun hc => ?_, fun hc => ?_⟩
                    · have h := h.1 hc
                      exact qx_i hS19 hx19 h
                    · have h := h.2 hc
                      refine ⟨hS19.o (s0_7 hS19), ?_⟩
                      refine wpM.mono (h G19 A19 ⟨L19, P19, rfl, hS19⟩) (fun rr21 G21 hr => ?_)
                      obtain ⟨A21, W21, w21, ⟨L21, P21, rfl, hS21⟩, hy21, rfl, r21, rfl, h⟩ := hr
                      refine ⟨r21, rfl, ?_⟩
                      have hx21 := Xt.trans hx19 hy21
                      have ee22 : A21 0 7 = A19 0 7 := hy21.2 _ _ hS19.1.1 (((n0_7 hS21)).trans ((n0_7 hS19)).symm)
                      try rw [← ee22]
                      refine ⟨fun hc => ?_, fun hc => ?_⟩
                      · have h := h.1 hc
                        exact qx_i hS21 hx21 h
                      · have h := h.2 hc
                        refine ⟨hS21.o (s0_7 hS21), ?_⟩
                        rw [l0_7_0 hS21]
                        refine ⟨hS21.o (s0_2 hS21), ?_⟩
                        refine wpM.mono (h G21 A21 ⟨L21, P21, rfl, hS21⟩) (fun rr23 G23 hr => ?_)
                        obtain ⟨A23, W23, w23, ⟨L23, P23, rfl, hS23⟩, hy23, rfl, r23, rfl, h⟩ := hr
                        refine ⟨r23, rfl, ?_⟩
                        have hx23 := Xt.trans hx21 hy23
                        have ee24 : A23 0 7 = A21 0 7 := hy23.2 _ _ hS21.1.1 (((n0_7 hS23)).trans ((n0_7 hS21)).symm)
                        try rw [← ee24]
                        refine ⟨fun hc => ?_, fun hc => ?_⟩
                        · have h := h.1 hc
                          exact qx_i hS23 hx23 h
                        · have h := h.2 hc
                          refine ⟨hS23.o (s0_7 hS23), ?_⟩
                          rw [l0_7_2 hS23]
                          obtain ⟨hg25, h⟩ := h
                          have hg25 : PG L23 (P23).2 := hg25
                          refine ⟨hS23.o (sP_9 hg25), ?_⟩
                          refine wpM.mono (h G23 A23 ⟨L23, P23, rfl, hS23⟩) (fun rr26 G26 hr => ?_)
                          obtain ⟨A26, W26, w26, ⟨L26, P26, rfl, hS26⟩, hy26, rfl, r26, rfl, h⟩ := hr
                          refine ⟨r26, rfl, ?_⟩
                          have hx26 := Xt.trans hx23 hy26
                          have hg27 : PG L26 (P23).2 := PG.up hy26 hg25
                          have ee28 : A26 0 7 = A23 0 7 := hy26.2 _ _ hS23.1.1 (((n0_7 hS26)).trans ((n0_7 hS23)).symm)
                          try rw [← ee28]
                          refine ⟨fun hc => ?_, fun hc => ?_⟩
                          · have h := h.1 hc
                            exact qx_i hS26 hx26 h
                          · have h := h.2 hc
                            refine ⟨hS26.o (s0_7 hS26), ?_⟩
                            refine wpM.mono (h G26 A26 ⟨L26, P26, rfl, hS26⟩) (fun rr29 G29 hr => ?_)
                            obtain ⟨A29, W29, w29, ⟨L29, P29, rfl, hS29⟩, hy29, rfl, r29, rfl, h⟩ := hr
                            refine ⟨r29, rfl, ?_⟩
                            have hx29 := Xt.trans hx26 hy29
                            have hg30 : PG L29 (P23).2 := PG.up hy29 hg27
                            have ee31 : A29 0 7 = A26 0 7 := hy29.2 _ _ hS26.1.1 (((n0_7 hS29)).trans ((n0_7 hS26)).symm)
                            try rw [← ee31]
                            refine ⟨fun hc => ?_, fun hc => ?_⟩
                            · have h := h.1 hc
                              exact qx_i hS29 hx29 h
                            · have h := h.2 hc
                              refine ⟨hS29.o (s0_7 hS29), ?_⟩
                              refine wpM.mono (h G29 A29 ⟨L29, P29, rfl, hS29⟩) (fun rr32 G32 hr => ?_)
                              obtain ⟨A32, W32, w32, ⟨L32, P32, rfl, hS32⟩, hy32, rfl, r32, rfl, h⟩ := hr
                              refine ⟨r32, rfl, ?_⟩
                              have hx32 := Xt.trans hx29 hy32
                              have hg33 : PG L32 (P23).2 := PG.up hy32 hg30
                              have ee34 : A32 0 7 = A29 0 7 := hy32.2 _ _ hS29.1.1 (((n0_7 hS32)).trans ((n0_7 hS29)).symm)
                              try rw [← ee34]
                              refine ⟨fun hc => ?_, fun hc => ?_⟩
                              · have h := h.1 hc
                                exact qx_i hS32 hx32 h
                              · have h := h.2 hc
                                exact qx_i hS32 hx32 h
                · have h := h.2 hc
                  refine ⟨hS11.o (s0_7 hS11), ?_⟩
                  refine wpM.mono (h G11 A11 ⟨L11, P11, rfl, hS11⟩) (fun rr35 G35 hr => ?_)
                  obtain ⟨A35, W35, w35, ⟨L35, P35, rfl, hS35⟩, hy35, rfl, r35, rfl, h⟩ := hr
                  refine ⟨r35, rfl, ?_⟩
                  have hx35 := Xt.trans hx11 hy35
                  have ee36 : A35 0 7 = A11 0 7 := hy35.2 _ _ hS11.1.1 (((n0_7 hS35)).trans ((n0_7 hS11)).symm)
                  try rw [← ee36]
                  exact ⟨bz_ok h.1, qx_i hS35 hx35 h.2⟩
              · have h := h.2 hc
                refine ⟨hS9.o (s0_7 hS9), ?_⟩
                refine wpM.mono (h G9 A9 ⟨L9, P9, rfl, hS9⟩) (fun rr37 G37 hr => ?_)
                obtain ⟨A37, W37, w37, ⟨L37, P37, rfl, hS37⟩, hy37, rfl, r37, rfl, h⟩ := hr
                refine ⟨r37, rfl, ?_⟩
                have hx37 := Xt.trans hx9 hy37
                have ee38 : A37 0 7 = A9 0 7 := hy37.2 _ _ hS9.1.1 (((n0_7 hS37)).trans ((n0_7 hS9)).symm)
                try rw [← ee38]
                exact ⟨bz_ok h.1, qx_i hS37 hx37 h.2⟩
            · have h := h.2 hc
              refine ⟨hS7.o (s0_7 hS7), ?_⟩
              rw [l0_7_0 hS7]
              refine ⟨hS7.o (s0_2 hS7), ?_⟩
              refine wpM.mono (h G7 A7 ⟨L7, P7, rfl, hS7⟩) (fun rr39 G39 hr => ?_)
              obtain ⟨A39, W39, w39, ⟨L39, P39, rfl, hS39⟩, hy39, rfl, rfl, h⟩ := hr
              refine ⟨rfl, ?_⟩
              have hx39 := Xt.trans hx7 hy39
              have ee40 : A39 0 7 = A7 0 7 := hy39.2 _ _ hS7.1.1 (((n0_7 hS39)).trans ((n0_7 hS7)).symm)
              try rw [← ee40]
              refine ⟨hS39.o (s0_7 hS39), ?_⟩
              refine wpM.mono (h G39 A39 ⟨L39, P39, rfl, hS39⟩) (fun rr41 G41 hr => ?_)
              obtain ⟨A41, W41, w41, ⟨L41, P41, rfl, hS41⟩, hy41, rfl, r41, rfl, h⟩ := hr
              refine ⟨r41, rfl, ?_⟩
              have hx41 := Xt.trans hx39 hy41
              have ee42 : A41 0 7 = A39 0 7 := hy41.2 _ _ hS39.1.1 (((n0_7 hS41)).trans ((n0_7 hS39)).symm)
              try rw [← ee42]
              refine ⟨fun hc => ?_, fun hc => ?_⟩
              · have h := h.1 hc
                exact qx_i hS41 hx41 h
              · have h := h.2 hc
                refine ⟨hS41.o (s0_7 hS41), ?_⟩
                refine wpM.mono (h G41 A41 ⟨L41, P41, rfl, hS41⟩) (fun rr43 G43 hr => ?_)
                obtain ⟨A43, W43, w43, ⟨L43, P43, rfl, hS43⟩, hy43, rfl, r43, rfl, h⟩ := hr
                refine ⟨r43, rfl, ?_⟩
                have hx43 := Xt.trans hx41 hy43
                have ee44 : A43 0 7 = A41 0 7 := hy43.2 _ _ hS41.1.1 (((n0_7 hS43)).trans ((n0_7 hS41)).symm)
                try rw [← ee44]
                refine ⟨fun hc => ?_, fun hc => ?_⟩
                · have h := h.1 hc
                  exact qx_i hS43 hx43 h
                · have h := h.2 hc
                  refine ⟨hS43.o (s0_7 hS43), ?_⟩
                  refine wpM.mono (h G43 A43 ⟨L43, P43, rfl, hS43⟩) (fun rr45 G45 hr => ?_)
                  obtain ⟨A45, W45, w45, ⟨L45, P45, rfl, hS45⟩, hy45, rfl, r45, rfl, h⟩ := hr
                  refine ⟨r45, rfl, ?_⟩
                  have hx45 := Xt.trans hx43 hy45
                  have ee46 : A45 0 7 = A43 0 7 := hy45.2 _ _ hS43.1.1 (((n0_7 hS45)).trans ((n0_7 hS43)).symm)
                  try rw [← ee46]
                  refine ⟨fun hc => ?_, fun hc => ?_⟩
                  · have h := h.1 hc
                    exact qx_i hS45 hx45 h
                  · have h := h.2 hc
                    refine ⟨hS45.o (s0_7 hS45), ?_⟩
                    rw [l0_7_2 hS45]
                    obtain ⟨hg47, h⟩ := h
                    have hg47 : PG L45 (P45).2 := hg47
                    refine ⟨hS45.o (sP_9 hg47), ?_⟩
                    refine wpM.mono (h G45 A45 ⟨L45, P45, rfl, hS45⟩) (fun rr48 G48 hr => ?_)
                    obtain ⟨A48, W48, w48, ⟨L48, P48, rfl, hS48⟩, hy48, rfl, r48, rfl, h⟩ := hr
                    refine ⟨r48, rfl, ?_⟩
                    have hx48 := Xt.trans hx45 hy48
                    have hg49 : PG L48 (P45).2 := PG.up hy48 hg47
                    have ee50 : A48 0 7 = A45 0 7 := hy48.2 _ _ hS45.1.1 (((n0_7 hS48)).trans ((n0_7 hS45)).symm)
                    try rw [← ee50]
                    refine ⟨fun hc => ?_, fun hc => ?_⟩
                    · have h := h.1 hc
                      exact qx_i hS48 hx48 h
                    · have h := h.2 hc
                      exact qx_i hS48 hx48 h
          · have h := h.2 hc
            refine ⟨hS5.o (s0_7 hS5), ?_⟩
            refine wpM.mono (h G5 A5 ⟨L5, P5, rfl, hS5⟩) (fun rr51 G51 hr => ?_)
            obtain ⟨A51, W51, w51, ⟨L51, P51, rfl, hS51⟩, hy51, rfl, r51, rfl, h⟩ := hr
            refine ⟨r51, rfl, ?_⟩
            have hx51 := Xt.trans hx5 hy51
            have ee52 : A51 0 7 = A5 0 7 := hy51.2 _ _ hS5.1.1 (((n0_7 hS51)).trans ((n0_7 hS5)).symm)
            try rw [← ee52]
            refine ⟨fun hc => ?_, fun hc => ?_⟩
            · have h := h.1 hc
              exact qx_i hS51 hx51 h
            · have h := h.2 hc
              refine ⟨hS51.o (s0_7 hS51), ?_⟩
              refine wpM.mono (h G51 A51 ⟨L51, P51, rfl, hS51⟩) (fun rr53 G53 hr => ?_)
              obtain ⟨A53, W53, w53, ⟨L53, P53, rfl, hS53⟩, hy53, rfl, r53, rfl, h⟩ := hr
              refine ⟨r53, rfl, ?_⟩
              have hx53 := Xt.trans hx51 hy53
              have ee54 : A53 0 7 = A51 0 7 := hy53.2 _ _ hS51.1.1 (((n0_7 hS53)).trans ((n0_7 hS51)).symm)
              try rw [← ee54]
              refine ⟨fun hc => ?_, fun hc => ?_⟩
              · have h := h.1 hc
                exact qx_i hS53 hx53 h
              · have h := h.2 hc
                refine ⟨hS53.o (s0_7 hS53), ?_⟩
                refine wpM.mono (h G53 A53 ⟨L53, P53, rfl, hS53⟩) (fun rr55 G55 hr => ?_)
                obtain ⟨A55, W55, w55, ⟨L55, P55, rfl, hS55⟩, hy55, rfl, r55, rfl, h⟩ := hr
                refine ⟨r55, rfl, ?_⟩
                have hx55 := Xt.trans hx53 hy55
                have ee56 : A55 0 7 = A53 0 7 := hy55.2 _ _ hS53.1.1 (((n0_7 hS55)).trans ((n0_7 hS53)).symm)
                try rw [← ee56]
                refine ⟨fun hc => ?_, fun hc => ?_⟩
                · have h := h.1 hc
                  exact qx_i hS55 hx55 h
                · have h := h.2 hc
                  refine ⟨hS55.o (s0_7 hS55), ?_⟩
                  rw [l0_7_2 hS55]
                  obtain ⟨hg57, h⟩ := h
                  have hg57 : PG L55 (P55).2 := hg57
                  refine ⟨hS55.o (sP_9 hg57), ?_⟩
                  refine wpM.mono (h G55 A55 ⟨L55, P55, rfl, hS55⟩) (fun rr58 G58 hr => ?_)
                  obtain ⟨A58, W58, w58, ⟨L58, P58, rfl, hS58⟩, hy58, rfl, r58, rfl, h⟩ := hr
                  refine ⟨r58, rfl, ?_⟩
                  have hx58 := Xt.trans hx55 hy58
                  have hg59 : PG L58 (P55).2 := PG.up hy58 hg57
                  have ee60 : A58 0 7 = A55 0 7 := hy58.2 _ _ hS55.1.1 (((n0_7 hS58)).trans ((n0_7 hS55)).symm)
                  try rw [← ee60]
                  refine ⟨fun hc => ?_, fun hc => ?_⟩
                  · have h := h.1 hc
                    exact qx_i hS58 hx58 h
                  · have h := h.2 hc
                    exact qx_i hS58 hx58 h
        · have h := h.2 hc
          refine ⟨hS3.o (s0_7 hS3), ?_⟩
          refine wpM.mono (h G3 A3 ⟨L3, P3, rfl, hS3⟩) (fun rr61 G61 hr => ?_)
          obtain ⟨A61, W61, w61, ⟨L61, P61, rfl, hS61⟩, hy61, rfl, r61, rfl, h⟩ := hr
          refine ⟨r61, rfl, ?_⟩
          have hx61 := Xt.trans hx3 hy61
          have ee62 : A61 0 7 = A3 0 7 := hy61.2 _ _ hS3.1.1 (((n0_7 hS61)).trans ((n0_7 hS3)).symm)
          try rw [← ee62]
          refine ⟨fun hc => ?_, fun hc => ?_⟩
          · have h := h.1 hc
            exact qx_i hS61 hx61 h
          · have h := h.2 hc
            refine ⟨hS61.o (s0_7 hS61), ?_⟩
            refine wpM.mono (h G61 A61 ⟨L61, P61, rfl, hS61⟩) (fun rr63 G63 hr => ?_)
            obtain ⟨A63, W63, w63, ⟨L63, P63, rfl, hS63⟩, hy63, rfl, r63, rfl, h⟩ := hr
            refine ⟨r63, rfl, ?_⟩
            have hx63 := Xt.trans hx61 hy63
            have ee64 : A63 0 7 = A61 0 7 := hy63.2 _ _ hS61.1.1 (((n0_7 hS63)).trans ((n0_7 hS61)).symm)
            try rw [← ee64]
            refine ⟨fun hc => ?_, fun hc => ?_⟩
            · have h := h.1 hc
              exact qx_i hS63 hx63 h
            · have h := h.2 hc
              refine ⟨hS63.o (s0_7 hS63), ?_⟩
              refine wpM.mono (h G63 A63 ⟨L63, P63, rfl, hS63⟩) (fun rr65 G65 hr => ?_)
              obtain ⟨A65, W65, w65, ⟨L65, P65, rfl, hS65⟩, hy65, rfl, r65, rfl, h⟩ := hr
              refine ⟨r65, rfl, ?_⟩
              have hx65 := Xt.trans hx63 hy65
              have ee66 : A65 0 7 = A63 0 7 := hy65.2 _ _ hS63.1.1 (((n0_7 hS65)).trans ((n0_7 hS63)).symm)
              try rw [← ee66]
              refine ⟨fun hc => ?_, fun hc => ?_⟩
              · have h := h.1 hc
                exact qx_i hS65 hx65 h
              · have h := h.2 hc
                exact qx_i hS65 hx65 h
      · have h := h.2 hc
        refine ⟨hS1.o (s0_7 hS1), ?_⟩
        refine wpM.mono (h G1 A1 ⟨L1, P1, rfl, hS1⟩) (fun rr67 G67 hr => ?_)
        obtain ⟨A67, W67, w67, ⟨L67, P67, rfl, hS67⟩, hy67, rfl, r67, rfl, h⟩ := hr
        refine ⟨r67, rfl, ?_⟩
        have hx67 := Xt.trans hx1 hy67
        have ee68 : A67 0 7 = A1 0 7 := hy67.2 _ _ hS1.1.1 (((n0_7 hS67)).trans ((n0_7 hS1)).symm)
        try rw [← ee68]
        refine ⟨fun hc => ?_, fun hc => ?_⟩
        · have h := h.1 hc
          exact qx_i hS67 hx67 h
        · have h := h.2 hc
          refine ⟨hS67.o (s0_7 hS67), ?_⟩
          refine wpM.mono (h G67 A67 ⟨L67, P67, rfl, hS67⟩) (fun rr69 G69 hr => ?_)
          obtain ⟨A69, W69, w69, ⟨L69, P69, rfl, hS69⟩, hy69, rfl, r69, rfl, h⟩ := hr
          refine ⟨r69, rfl, ?_⟩
          have hx69 := Xt.trans hx67 hy69
          have ee70 : A69 0 7 = A67 0 7 := hy69.2 _ _ hS67.1.1 (((n0_7 hS69)).trans ((n0_7 hS67)).symm)
          try rw [← ee70]
          refine ⟨fun hc => ?_, fun hc => ?_⟩
          · have h := h.1 hc
            refine ⟨hS69.o (s0_7 hS69), ?_⟩
            have hS71 : Sh E (sI G69 (A69 0 7) 7 ((gI G69 (A69 0 7) 7) - 1)) A69 L69 P69 := Sh_sI (rfl : sI G69 (A69 0 7) 7 ((gI G69 (A69 0 7) 7) - 1) = sI G69 (A69 0 7) 7 ((gI G69 (A69 0 7) 7) - 1)) hS69 (s0_7 hS69) (okT_0 rfl)
            have h := h (pl (sI G69 (A69 0 7) 7 ((gI G69 (A69 0 7) 7) - 1)) A69 L69 P69) (pl_sI (rfl : sI G69 (A69 0 7) 7 ((gI G69 (A69 0 7) 7) - 1) = sI G69 (A69 0 7) 7 ((gI G69 (A69 0 7) 7) - 1)) hS69 (s0_7 hS69))
            have hx71 : Xt (pl G A L P) A (pl (sI G69 (A69 0 7) 7 ((gI G69 (A69 0 7) 7) - 1)) A69 L69 P69) A69 := Xt_sI (rfl : sI G69 (A69 0 7) 7 ((gI G69 (A69 0 7) 7) - 1) = sI G69 (A69 0 7) 7 ((gI G69 (A69 0 7) 7) - 1)) hx69
            rw [l0_7_2 hS69]
            obtain ⟨hg72, h⟩ := h
            have hg72 : PG L69 (P69).2 := hg72
            refine ⟨hS71.o (sP_9 hg72), ?_⟩
            refine wpM.mono (h (sI G69 (A69 0 7) 7 ((gI G69 (A69 0 7) 7) - 1)) A69 ⟨L69, P69, rfl, hS71⟩) (fun rr73 G73 hr => ?_)
            obtain ⟨A73, W73, w73, ⟨L73, P73, rfl, hS73⟩, hy73, rfl, r73, rfl, h⟩ := hr
            refine ⟨r73, rfl, ?_⟩
            have hx73 := Xt.trans hx71 hy73
            have hg74 : PG L73 (P69).2 := PG.up hy73 hg72
            have ee75 : A73 0 7 = A69 0 7 := hy73.2 _ _ hS71.1.1 (((n0_7 hS73)).trans ((n0_7 hS71)).symm)
            try rw [← ee75]
            exact ⟨bz_ok h.1, qx_i hS73 hx73 h.2⟩
          · have h := h.2 hc
            exact qx_i hS69 hx69 h
    · have h := h.2 hc
      rw [l0_7_2 hS]
      obtain ⟨hg76, h⟩ := h
      have hg76 : PG L (P).2 := hg76
      refine ⟨hS.o (sP_9 hg76), ?_⟩
      refine wpM.mono (h G A ⟨L, P, rfl, hS⟩) (fun rr77 G77 hr => ?_)
      obtain ⟨A77, W77, w77, ⟨L77, P77, rfl, hS77⟩, hy77, rfl, r77, rfl, h⟩ := hr
      refine ⟨r77, rfl, ?_⟩
      have hx77 := Xt.trans hx hy77
      have hg78 : PG L77 (P).2 := PG.up hy77 hg76
      have ee79 : A77 0 7 = A 0 7 := hy77.2 _ _ hS.1.1 (((n0_7 hS77)).trans ((n0_7 hS)).symm)
      try rw [← ee79]
      refine ⟨hS77.o (s0_7 hS77), ?_⟩
      rw [l0_7_0 hS77]
      refine ⟨hS77.o (s0_2 hS77), ?_⟩
      refine wpM.mono (h G77 A77 ⟨L77, P77, rfl, hS77⟩) (fun rr80 G80 hr => ?_)
      obtain ⟨A80, W80, w80, ⟨L80, P80, rfl, hS80⟩, hy80, rfl, rfl, h⟩ := hr
      refine ⟨rfl, ?_⟩
      have hx80 := Xt.trans hx77 hy80
      have hg81 : PG L80 (P).2 := PG.up hy80 hg78
      have ee82 : A80 0 7 = A77 0 7 := hy80.2 _ _ hS77.1.1 (((n0_7 hS80)).trans ((n0_7 hS77)).symm)
      try rw [← ee82]
      exact qx_i hS80 hx80 h
  · have h := h.2 hc
    refine wpM.mono (h G A ⟨L, P, rfl, hS⟩) (fun rr83 G83 hr => ?_)
    obtain ⟨A83, W83, w83, ⟨L83, P83, rfl, hS83⟩, hy83, rfl, r83, rfl, h⟩ := hr
    refine ⟨r83, rfl, ?_⟩
    have hx83 := Xt.trans hx hy83
    have ee84 : A83 0 7 = A 0 7 := hy83.2 _ _ hS.1.1 (((n0_7 hS83)).trans ((n0_7 hS)).symm)
    try rw [← ee84]
    exact ⟨bz_ok h.1, qx_i hS83 hx83 h.2⟩
theorem w_X5_namedFactor_0 {E : EE} {d : Nat} {V : VH} {K : Int32 → VH → Prop}   (h0 : 0 < d) (h : PG (vL V) (vP V) ∧ (vMI E (d - 1) M_X3_lookUp [sl (vP V) 0, wj (vJ V 0 2 7)] V (fun r2 V2 => (0 ≤ r2 → vwp E d M_X5_namedFactor 27 [some (sl 0 7), some (wi r2), none, none] [wi (r2 / 24)] V2 (zi K)) ∧ (¬ (0 ≤ r2) → vwp E d M_X5_namedFactor 27 [some (sl 0 7), some (wi r2), none, none] [wi (-1)] V2 (zi K))))) : vMI E d M_X5_namedFactor [sl 0 7] V K := by
  intro G A hR
  obtain ⟨L, P, rfl, hS⟩ := hR
  have hx := Xt.refl (V := pl G A L P) (A := A)
  show wpM E d M_X5_namedFactor [vr (A 0 7)] G _
  refine wpM_of mk_X5_namedFactor (Nat.le_of_ble_eq_true rfl) ?_
  refine v_X5_namedFactor_0 h0 ?_
  refine ⟨hS.o (s0_7 hS), ?_⟩
  rw [l0_7_1 hS]
  rw [l0_7_0 hS]
  refine ⟨hS.o (s0_2 hS), ?_⟩
  obtain ⟨hg1, h⟩ := h
  have hg1 : PG L (P).1 := hg1
  refine ⟨hS.o (sP_0 hg1), ?_⟩
  refine wpM.mono (h G A ⟨L, P, rfl, hS⟩) (fun rr2 G2 hr => ?_)
  obtain ⟨A2, W2, w2, ⟨L2, P2, rfl, hS2⟩, hy2, rfl, r2, rfl, h⟩ := hr
  refine ⟨r2, rfl, ?_⟩
  have hx2 := Xt.trans hx hy2
  have hg3 : PG L2 (P).1 := PG.up hy2 hg1
  have ee4 : A2 0 7 = A 0 7 := hy2.2 _ _ hS.1.1 (((n0_7 hS2)).trans ((n0_7 hS)).symm)
  try rw [← ee4]
  refine ⟨fun hc => ?_, fun hc => ?_⟩
  · have h := h.1 hc
    exact wp.mono (h G2 A2 ⟨L2, P2, rfl, hS2⟩) (fun r G' q => qx_trans hx2 q)
  · have h := h.2 hc
    exact wp.mono (h G2 A2 ⟨L2, P2, rfl, hS2⟩) (fun r G' q => qx_trans hx2 q)
theorem w_X5_namedFactor_27 {E : EE} {d : Nat} {V : VH} {K : Int32 → VH → Prop} {x1 : Int32} {t0 : Int32}  (h0 : 0 < d) (h : (¬ t0 = 0 → (¬ t0 = 1 → vMI E (d - 1) M_X10_fail [sl 0 2, wi 4, wi (vI V 0 2 8)] V (fun r1 V1 => bz r1 ∧ K r1 V1)) ∧ (t0 = 1 → PG (vL V) (vQ V) ∧ (vMI E (d - 1) M_X2_emit [sl (vQ V) 9, wi 2, wi (x1 - x1 / 24 * 24)] V (fun r4 V4 => vwp E d M_X5_namedFactor 84 [some (sl 0 7), some (wi x1), some (wi t0), some (wi (x1 - x1 / 24 * 24))] [] V4 (zi K))))) ∧ (t0 = 0 → PG (vL V) (vQ V) ∧ (vMI E (d - 1) M_X2_emit [sl (vQ V) 9, wi 1, wi (x1 - x1 / 24 * 24)] V (fun r8 V8 => vwp E d M_X5_namedFactor 84 [some (sl 0 7), some (wi x1), some (wi t0), some (wi (x1 - x1 / 24 * 24))] [] V8 (zi K))))) : vwp E d M_X5_namedFactor 27 [some (sl 0 7), some (wi x1), none, none] [wi t0] V (zi K) := by
  intro G A hR
  obtain ⟨L, P, rfl, hS⟩ := hR
  have hx := Xt.refl (V := pl G A L P) (A := A)
  show wp E d M_X5_namedFactor 27 [some (vr (A 0 7)), some (vi x1), none, none] [vi t0] G _
  refine v_X5_namedFactor_27 h0 ?_
  refine ⟨fun hc => ?_, fun hc => ?_⟩
  · have h := h.1 hc
    refine ⟨fun hc => ?_, fun hc => ?_⟩
    · have h := h.1 hc
      refine ⟨hS.o (s0_7 hS), ?_⟩
      rw [l0_7_0 hS]
      refine ⟨hS.o (s0_2 hS), ?_⟩
      refine wpM.mono (h G A ⟨L, P, rfl, hS⟩) (fun rr1 G1 hr => ?_)
      obtain ⟨A1, W1, w1, ⟨L1, P1, rfl, hS1⟩, hy1, rfl, r1, rfl, h⟩ := hr
      refine ⟨r1, rfl, ?_⟩
      have hx1 := Xt.trans hx hy1
      have ee2 : A1 0 7 = A 0 7 := hy1.2 _ _ hS.1.1 (((n0_7 hS1)).trans ((n0_7 hS)).symm)
      try rw [← ee2]
      exact ⟨bz_ok h.1, qx_i hS1 hx1 h.2⟩
    · have h := h.2 hc
      refine ⟨hS.o (s0_7 hS), ?_⟩
      rw [l0_7_2 hS]
      obtain ⟨hg3, h⟩ := h
      have hg3 : PG L (P).2 := hg3
      refine ⟨hS.o (sP_9 hg3), ?_⟩
      refine wpM.mono (h G A ⟨L, P, rfl, hS⟩) (fun rr4 G4 hr => ?_)
      obtain ⟨A4, W4, w4, ⟨L4, P4, rfl, hS4⟩, hy4, rfl, r4, rfl, h⟩ := hr
      refine ⟨r4, rfl, ?_⟩
      have hx4 := Xt.trans hx hy4
      have hg5 : PG L4 (P).2 := PG.up hy4 hg3
      have ee6 : A4 0 7 = A 0 7 := hy4.2 _ _ hS.1.1 (((n0_7 hS4)).trans ((n0_7 hS)).symm)
      try rw [← ee6]
      exact wp.mono (h G4 A4 ⟨L4, P4, rfl, hS4⟩) (fun r G' q => qx_trans hx4 q)
  · have h := h.2 hc
    refine ⟨hS.o (s0_7 hS), ?_⟩
    rw [l0_7_2 hS]
    obtain ⟨hg7, h⟩ := h
    have hg7 : PG L (P).2 := hg7
    refine ⟨hS.o (sP_9 hg7), ?_⟩
    refine wpM.mono (h G A ⟨L, P, rfl, hS⟩) (fun rr8 G8 hr => ?_)
    obtain ⟨A8, W8, w8, ⟨L8, P8, rfl, hS8⟩, hy8, rfl, r8, rfl, h⟩ := hr
    refine ⟨r8, rfl, ?_⟩
    have hx8 := Xt.trans hx hy8
    have hg9 : PG L8 (P).2 := PG.up hy8 hg7
    have ee10 : A8 0 7 = A 0 7 := hy8.2 _ _ hS.1.1 (((n0_7 hS8)).trans ((n0_7 hS)).symm)
    try rw [← ee10]
    exact wp.mono (h G8 A8 ⟨L8, P8, rfl, hS8⟩) (fun r G' q => qx_trans hx8 q)
theorem w_X5_namedFactor_84 {E : EE} {d : Nat} {V : VH} {K : Int32 → VH → Prop} {x1 : Int32} {x2 : Int32} {x3 : Int32}  (h : (¬ x2 = 1 → vwp E d M_X5_namedFactor 101 [some (sl 0 7), some (wi x1), some (wi x2), some (wi x3)] [] V (zi K)) ∧ (x2 = 1 → ∀ V1 : VH, V1 = wrI V 0 7 8 ((vI V 0 7 8) ||| (1 <<< (x3 &&& 31))) → vwp E d M_X5_namedFactor 101 [some (sl 0 7), some (wi x1), some (wi x2), some (wi x3)] [] V1 (zi K))) : vwp E d M_X5_namedFactor 84 [some (sl 0 7), some (wi x1), some (wi x2), some (wi x3)] [] V (zi K) := by
  intro G A hR
  obtain ⟨L, P, rfl, hS⟩ := hR
  have hx := Xt.refl (V := pl G A L P) (A := A)
  show wp E d M_X5_namedFactor 84 [some (vr (A 0 7)), some (vi x1), some (vi x2), some (vi x3)] [] G _
  refine v_X5_namedFactor_84 ?_
  refine ⟨fun hc => ?_, fun hc => ?_⟩
  · have h := h.1 hc
    exact wp.mono (h G A ⟨L, P, rfl, hS⟩) (fun r G' q => qx_trans hx q)
  · have h := h.2 hc
    refine ⟨hS.o (s0_7 hS), ?_⟩
    have hS1 : Sh E (sI G (A 0 7) 8 ((gI G (A 0 7) 8) ||| (1 <<< (x3 &&& 31)))) A L P := Sh_sI (rfl : sI G (A 0 7) 8 ((gI G (A 0 7) 8) ||| (1 <<< (x3 &&& 31))) = sI G (A 0 7) 8 ((gI G (A 0 7) 8) ||| (1 <<< (x3 &&& 31)))) hS (s0_7 hS) (okT_0 rfl)
    have h := h (pl (sI G (A 0 7) 8 ((gI G (A 0 7) 8) ||| (1 <<< (x3 &&& 31)))) A L P) (pl_sI (rfl : sI G (A 0 7) 8 ((gI G (A 0 7) 8) ||| (1 <<< (x3 &&& 31))) = sI G (A 0 7) 8 ((gI G (A 0 7) 8) ||| (1 <<< (x3 &&& 31)))) hS (s0_7 hS))
    have hx1 : Xt (pl G A L P) A (pl (sI G (A 0 7) 8 ((gI G (A 0 7) 8) ||| (1 <<< (x3 &&& 31)))) A L P) A := Xt_sI (rfl : sI G (A 0 7) 8 ((gI G (A 0 7) 8) ||| (1 <<< (x3 &&& 31))) = sI G (A 0 7) 8 ((gI G (A 0 7) 8) ||| (1 <<< (x3 &&& 31)))) hx
    exact wp.mono (h (sI G (A 0 7) 8 ((gI G (A 0 7) 8) ||| (1 <<< (x3 &&& 31)))) A ⟨L, P, rfl, hS1⟩) (fun r G' q => qx_trans hx1 q)
theorem w_X5_namedFactor_101 {E : EE} {d : Nat} {V : VH} {K : Int32 → VH → Prop} {x1 : Int32} {x2 : Int32} {x3 : Int32}  (h0 : 0 < d) (h : vMV E (d - 1) M_X10_step [sl 0 2] V (fun V1 => K 1 V1)) : vwp E d M_X5_namedFactor 101 [some (sl 0 7), some (wi x1), some (wi x2), some (wi x3)] [] V (zi K) := by
  intro G A hR
  obtain ⟨L, P, rfl, hS⟩ := hR
  have hx := Xt.refl (V := pl G A L P) (A := A)
  show wp E d M_X5_namedFactor 101 [some (vr (A 0 7)), some (vi x1), some (vi x2), some (vi x3)] [] G _
  refine v_X5_namedFactor_101 h0 ?_
  refine ⟨hS.o (s0_7 hS), ?_⟩
  rw [l0_7_0 hS]
  refine ⟨hS.o (s0_2 hS), ?_⟩
  refine wpM.mono (h G A ⟨L, P, rfl, hS⟩) (fun rr1 G1 hr => ?_)
  obtain ⟨A1, W1, w1, ⟨L1, P1, rfl, hS1⟩, hy1, rfl, rfl, h⟩ := hr
  refine ⟨rfl, ?_⟩
  have hx1 := Xt.trans hx hy1
  have ee2 : A1 0 7 = A 0 7 := hy1.2 _ _ hS.1.1 (((n0_7 hS1)).trans ((n0_7 hS)).symm)
  try rw [← ee2]
  exact qx_i hS1 hx1 h
theorem w_X5_extreme_0 {E : EE} {d : Nat} {V : VH} {K : Int32 → VH → Prop} {x1 : Int32}  (h0 : 0 < d) (h : vMV E (d - 1) M_X10_step [sl 0 2] V (fun V1 => vMI E (d - 1) M_X5_enter [sl 0 7, wi 40] V1 (fun r3 V3 => (r3 = 0 → K 0 V3) ∧ (¬ (r3 = 0) → vMI E (d - 1) M_X5_sum [sl 0 7] V3 (fun r5 V5 => (¬ r5 = 0 → vwp E d M_X5_extreme 27 [some (sl 0 7), some (wi x1), some (wi 1)] [] V5 (zi K)) ∧ (r5 = 0 → K 0 V5)))))) : vMI E d M_X5_extreme [sl 0 7, wi x1] V K := by
  intro G A hR
  obtain ⟨L, P, rfl, hS⟩ := hR
  have hx := Xt.refl (V := pl G A L P) (A := A)
  show wpM E d M_X5_extreme [vr (A 0 7), vi x1] G _
  refine wpM_of mk_X5_extreme (Nat.le_of_ble_eq_true rfl) ?_
  refine v_X5_extreme_0 h0 ?_
  refine ⟨hS.o (s0_7 hS), ?_⟩
  rw [l0_7_0 hS]
  refine ⟨hS.o (s0_2 hS), ?_⟩
  refine wpM.mono (h G A ⟨L, P, rfl, hS⟩) (fun rr1 G1 hr => ?_)
  obtain ⟨A1, W1, w1, ⟨L1, P1, rfl, hS1⟩, hy1, rfl, rfl, h⟩ := hr
  refine ⟨rfl, ?_⟩
  have hx1 := Xt.trans hx hy1
  have ee2 : A1 0 7 = A 0 7 := hy1.2 _ _ hS.1.1 (((n0_7 hS1)).trans ((n0_7 hS)).symm)
  try rw [← ee2]
  refine ⟨hS1.o (s0_7 hS1), ?_⟩
  refine wpM.mono (h G1 A1 ⟨L1, P1, rfl, hS1⟩) (fun rr3 G3 hr => ?_)
  obtain ⟨A3, W3, w3, ⟨L3, P3, rfl, hS3⟩, hy3, rfl, r3, rfl, h⟩ := hr
  refine ⟨r3, rfl, ?_⟩
  have hx3 := Xt.trans hx1 hy3
  have ee4 : A3 0 7 = A1 0 7 := hy3.2 _ _ hS1.1.1 (((n0_7 hS3)).trans ((n0_7 hS1)).symm)
  try rw [← ee4]
  refine ⟨fun hc => ?_, fun hc => ?_⟩
  · have h := h.1 hc
    exact qx_i hS3 hx3 h
  · have h := h.2 hc
    refine ⟨hS3.o (s0_7 hS3), ?_⟩
    refine wpM.mono (h G3 A3 ⟨L3, P3, rfl, hS3⟩) (fun rr5 G5 hr => ?_)
    obtain ⟨A5, W5, w5, ⟨L5, P5, rfl, hS5⟩, hy5, rfl, r5, rfl, h⟩ := hr
    refine ⟨r5, rfl, ?_⟩
    have hx5 := Xt.trans hx3 hy5
    have ee6 : A5 0 7 = A3 0 7 := hy5.2 _ _ hS3.1.1 (((n0_7 hS5)).trans ((n0_7 hS3)).symm)
    try rw [← ee6]
    refine ⟨fun hc => ?_, fun hc => ?_⟩
    · have h := h.1 hc
      exact wp.mono (h G5 A5 ⟨L5, P5, rfl, hS5⟩) (fun r G' q => qx_trans hx5 q)
    · have h := h.2 hc
      exact qx_i hS5 hx5 h
theorem w_X5_extreme_27 {E : EE} {d : Nat} {V : VH} {K : Int32 → VH → Prop} {x1 : Int32} {x2 : Int32}  (h0 : 0 < d) (h : (20 ≤ x2 → vwp E d M_X5_extreme 77 [some (sl 0 7), some (wi x1), some (wi x2)] [] V (zi K)) ∧ (¬ (20 ≤ x2) → vMI E (d - 1) M_X10_is [sl 0 2, wi 44] V (fun r1 V1 => (r1 = 0 → vwp E d M_X5_extreme 77 [some (sl 0 7), some (wi x1), some (wi x2)] [] V1 (zi K)) ∧ (¬ (r1 = 0) → vMV E (d - 1) M_X10_step [sl 0 2] V1 (fun V3 => vMI E (d - 1) M_X5_sum [sl 0 7] V3 (fun r5 V5 => (¬ r5 = 0 → PG (vL V5) (vQ V5) ∧ (vMI E (d - 1) M_X2_emit [sl (vQ V5) 9, wi x1, wi 0] V5 (fun r8 V8 => vwp E d M_X5_extreme 27 [some (sl 0 7), some (wi x1), some (wi (x2 + 1))] [] V8 (zi K)))) ∧ (r5 = 0 → K 0 V5))))))) : vwp E d M_X5_extreme 27 [some (sl 0 7), some (wi x1), some (wi x2)] [] V (zi K) := by
  intro G A hR
  obtain ⟨L, P, rfl, hS⟩ := hR
  have hx := Xt.refl (V := pl G A L P) (A := A)
  show wp E d M_X5_extreme 27 [some (vr (A 0 7)), some (vi x1), some (vi x2)] [] G _
  refine v_X5_extreme_27 h0 ?_
  refine ⟨fun hc => ?_, fun hc => ?_⟩
  · have h := h.1 hc
    exact wp.mono (h G A ⟨L, P, rfl, hS⟩) (fun r G' q => qx_trans hx q)
  · have h := h.2 hc
    refine ⟨hS.o (s0_7 hS), ?_⟩
    rw [l0_7_0 hS]
    refine ⟨hS.o (s0_2 hS), ?_⟩
    refine wpM.mono (h G A ⟨L, P, rfl, hS⟩) (fun rr1 G1 hr => ?_)
    obtain ⟨A1, W1, w1, ⟨L1, P1, rfl, hS1⟩, hy1, rfl, r1, rfl, h⟩ := hr
    refine ⟨r1, rfl, ?_⟩
    have hx1 := Xt.trans hx hy1
    have ee2 : A1 0 7 = A 0 7 := hy1.2 _ _ hS.1.1 (((n0_7 hS1)).trans ((n0_7 hS)).symm)
    try rw [← ee2]
    refine ⟨fun hc => ?_, fun hc => ?_⟩
    · have h := h.1 hc
      exact wp.mono (h G1 A1 ⟨L1, P1, rfl, hS1⟩) (fun r G' q => qx_trans hx1 q)
    · have h := h.2 hc
      refine ⟨hS1.o (s0_7 hS1), ?_⟩
      rw [l0_7_0 hS1]
      refine ⟨hS1.o (s0_2 hS1), ?_⟩
      refine wpM.mono (h G1 A1 ⟨L1, P1, rfl, hS1⟩) (fun rr3 G3 hr => ?_)
      obtain ⟨A3, W3, w3, ⟨L3, P3, rfl, hS3⟩, hy3, rfl, rfl, h⟩ := hr
      refine ⟨rfl, ?_⟩
      have hx3 := Xt.trans hx1 hy3
      have ee4 : A3 0 7 = A1 0 7 := hy3.2 _ _ hS1.1.1 (((n0_7 hS3)).trans ((n0_7 hS1)).symm)
      try rw [← ee4]
      refine ⟨hS3.o (s0_7 hS3), ?_⟩
      refine wpM.mono (h G3 A3 ⟨L3, P3, rfl, hS3⟩) (fun rr5 G5 hr => ?_)
      obtain ⟨A5, W5, w5, ⟨L5, P5, rfl, hS5⟩, hy5, rfl, r5, rfl, h⟩ := hr
      refine ⟨r5, rfl, ?_⟩
      have hx5 := Xt.trans hx3 hy5
      have ee6 : A5 0 7 = A3 0 7 := hy5.2 _ _ hS3.1.1 (((n0_7 hS5)).trans ((n0_7 hS3)).symm)
      try rw [← ee6]
      refine ⟨fun hc => ?_, fun hc => ?_⟩
      · have h := h.1 hc
        refine ⟨hS5.o (s0_7 hS5), ?_⟩
        rw [l0_7_2 hS5]
        obtain ⟨hg7, h⟩ := h
        have hg7 : PG L5 (P5).2 := hg7
        refine ⟨hS5.o (sP_9 hg7), ?_⟩
        refine wpM.mono (h G5 A5 ⟨L5, P5, rfl, hS5⟩) (fun rr8 G8 hr => ?_)
        obtain ⟨A8, W8, w8, ⟨L8, P8, rfl, hS8⟩, hy8, rfl, r8, rfl, h⟩ := hr
        refine ⟨r8, rfl, ?_⟩
        have hx8 := Xt.trans hx5 hy8
        have hg9 : PG L8 (P5).2 := PG.up hy8 hg7
        have ee10 : A8 0 7 = A5 0 7 := hy8.2 _ _ hS5.1.1 (((n0_7 hS8)).trans ((n0_7 hS5)).symm)
        try rw [← ee10]
        exact wp.mono (h G8 A8 ⟨L8, P8, rfl, hS8⟩) (fun r G' q => qx_trans hx8 q)
      · have h := h.2 hc
        exact qx_i hS5 hx5 h
theorem w_X5_extreme_77 {E : EE} {d : Nat} {V : VH} {K : Int32 → VH → Prop} {x1 : Int32} {x2 : Int32}  (h0 : 0 < d) (h : vMI E (d - 1) M_X5_leave [sl 0 7, wi 41] V (fun r1 V1 => bz r1 ∧ K r1 V1)) : vwp E d M_X5_extreme 77 [some (sl 0 7), some (wi x1), some (wi x2)] [] V (zi K) := by
  intro G A hR
  obtain ⟨L, P, rfl, hS⟩ := hR
  have hx := Xt.refl (V := pl G A L P) (A := A)
  show wp E d M_X5_extreme 77 [some (vr (A 0 7)), some (vi x1), some (vi x2)] [] G _
  refine v_X5_extreme_77 h0 ?_
  refine ⟨hS.o (s0_7 hS), ?_⟩
  refine wpM.mono (h G A ⟨L, P, rfl, hS⟩) (fun rr1 G1 hr => ?_)
  obtain ⟨A1, W1, w1, ⟨L1, P1, rfl, hS1⟩, hy1, rfl, r1, rfl, h⟩ := hr
  refine ⟨r1, rfl, ?_⟩
  have hx1 := Xt.trans hx hy1
  have ee2 : A1 0 7 = A 0 7 := hy1.2 _ _ hS.1.1 (((n0_7 hS1)).trans ((n0_7 hS)).symm)
  try rw [← ee2]
  exact ⟨bz_ok h.1, qx_i hS1 hx1 h.2⟩
theorem w_X5_comparison_0 {E : EE} {d : Nat} {V : VH} {K : Int32 → VH → Prop}   (h0 : 0 < d) (h : vMI E (d - 1) M_X10_is [sl 0 2, wi 61] V (fun r1 V1 => (r1 = 0 → vMI E (d - 1) M_X10_is [sl 0 2, wi 35] V1 (fun r3 V3 => (r3 = 0 → vMI E (d - 1) M_X10_is [sl 0 2, wi 60] V3 (fun r5 V5 => (r5 = 0 → vMI E (d - 1) M_X10_is [sl 0 2, wi 15421] V5 (fun r7 V7 => (r7 = 0 → vMI E (d - 1) M_X10_is [sl 0 2, wi 62] V7 (fun r9 V9 => (r9 = 0 → vMI E (d - 1) M_X10_is [sl 0 2, wi 15933] V9 (fun r11 V11 => (r11 = 0 → K (-1) V11) ∧ (¬ (r11 = 0) → K 18 V11))) ∧ (¬ (r9 = 0) → K 17 V9))) ∧ (¬ (r7 = 0) → K 16 V7))) ∧ (¬ (r5 = 0) → K 15 V5))) ∧ (¬ (r3 = 0) → K 14 V3))) ∧ (¬ (r1 = 0) → K 13 V1))) : vMI E d M_X5_comparison [sl 0 7] V K := by
  intro G A hR
  obtain ⟨L, P, rfl, hS⟩ := hR
  have hx := Xt.refl (V := pl G A L P) (A := A)
  show wpM E d M_X5_comparison [vr (A 0 7)] G _
  refine wpM_of mk_X5_comparison (Nat.le_of_ble_eq_true rfl) ?_
  refine v_X5_comparison_0 h0 ?_
  refine ⟨hS.o (s0_7 hS), ?_⟩
  rw [l0_7_0 hS]
  refine ⟨hS.o (s0_2 hS), ?_⟩
  refine wpM.mono (h G A ⟨L, P, rfl, hS⟩) (fun rr1 G1 hr => ?_)
  obtain ⟨A1, W1, w1, ⟨L1, P1, rfl, hS1⟩, hy1, rfl, r1, rfl, h⟩ := hr
  refine ⟨r1, rfl, ?_⟩
  have hx1 := Xt.trans hx hy1
  have ee2 : A1 0 7 = A 0 7 := hy1.2 _ _ hS.1.1 (((n0_7 hS1)).trans ((n0_7 hS)).symm)
  try rw [← ee2]
  refine ⟨fun hc => ?_, fun hc => ?_⟩
  · have h := h.1 hc
    refine ⟨hS1.o (s0_7 hS1), ?_⟩
    rw [l0_7_0 hS1]
    refine ⟨hS1.o (s0_2 hS1), ?_⟩
    refine wpM.mono (h G1 A1 ⟨L1, P1, rfl, hS1⟩) (fun rr3 G3 hr => ?_)
    obtain ⟨A3, W3, w3, ⟨L3, P3, rfl, hS3⟩, hy3, rfl, r3, rfl, h⟩ := hr
    refine ⟨r3, rfl, ?_⟩
    have hx3 := Xt.trans hx1 hy3
    have ee4 : A3 0 7 = A1 0 7 := hy3.2 _ _ hS1.1.1 (((n0_7 hS3)).trans ((n0_7 hS1)).symm)
    try rw [← ee4]
    refine ⟨fun hc => ?_, fun hc => ?_⟩
    · have h := h.1 hc
      refine ⟨hS3.o (s0_7 hS3), ?_⟩
      rw [l0_7_0 hS3]
      refine ⟨hS3.o (s0_2 hS3), ?_⟩
      refine wpM.mono (h G3 A3 ⟨L3, P3, rfl, hS3⟩) (fun rr5 G5 hr => ?_)
      obtain ⟨A5, W5, w5, ⟨L5, P5, rfl, hS5⟩, hy5, rfl, r5, rfl, h⟩ := hr
      refine ⟨r5, rfl, ?_⟩
      have hx5 := Xt.trans hx3 hy5
      have ee6 : A5 0 7 = A3 0 7 := hy5.2 _ _ hS3.1.1 (((n0_7 hS5)).trans ((n0_7 hS3)).symm)
      try rw [← ee6]
      refine ⟨fun hc => ?_, fun hc => ?_⟩
      · have h := h.1 hc
        refine ⟨hS5.o (s0_7 hS5), ?_⟩
        rw [l0_7_0 hS5]
        refine ⟨hS5.o (s0_2 hS5), ?_⟩
        refine wpM.mono (h G5 A5 ⟨L5, P5, rfl, hS5⟩) (fun rr7 G7 hr => ?_)
        obtain ⟨A7, W7, w7, ⟨L7, P7, rfl, hS7⟩, hy7, rfl, r7, rfl, h⟩ := hr
        refine ⟨r7, rfl, ?_⟩
        have hx7 := Xt.trans hx5 hy7
        have ee8 : A7 0 7 = A5 0 7 := hy7.2 _ _ hS5.1.1 (((n0_7 hS7)).trans ((n0_7 hS5)).symm)
        try rw [← ee8]
        refine ⟨fun hc => ?_, fun hc => ?_⟩
        · have h := h.1 hc
          refine ⟨hS7.o (s0_7 hS7), ?_⟩
          rw [l0_7_0 hS7]
          refine ⟨hS7.o (s0_2 hS7), ?_⟩
          refine wpM.mono (h G7 A7 ⟨L7, P7, rfl, hS7⟩) (fun rr9 G9 hr => ?_)
          obtain ⟨A9, W9, w9, ⟨L9, P9, rfl, hS9⟩, hy9, rfl, r9, rfl, h⟩ := hr
          refine ⟨r9, rfl, ?_⟩
          have hx9 := Xt.trans hx7 hy9
          have ee10 : A9 0 7 = A7 0 7 := hy9.2 _ _ hS7.1.1 (((n0_7 hS9)).trans ((n0_7 hS7)).symm)
          try rw [← ee10]
          refine ⟨fun hc => ?_, fun hc => ?_⟩
          · have h := h.1 hc
            refine ⟨hS9.o (s0_7 hS9), ?_⟩
            rw [l0_7_0 hS9]
            refine ⟨hS9.o (s0_2 hS9), ?_⟩
            refine wpM.mono (h G9 A9 ⟨L9, P9, rfl, hS9⟩) (fun rr11 G11 hr => ?_)
            obtain ⟨A11, W11, w11, ⟨L11, P11, rfl, hS11⟩, hy11, rfl, r11, rfl, h⟩ := hr
            refine ⟨r11, rfl, ?_⟩
            have hx11 := Xt.trans hx9 hy11
            have ee12 : A11 0 7 = A9 0 7 := hy11.2 _ _ hS9.1.1 (((n0_7 hS11)).trans ((n0_7 hS9)).symm)
            try rw [← ee12]
            refine ⟨fun hc => ?_, fun hc => ?_⟩
            · have h := h.1 hc
              exact qx_i hS11 hx11 h
            · have h := h.2 hc
              exact qx_i hS11 hx11 h
          · have h := h.2 hc
            exact qx_i hS9 hx9 h
        · have h := h.2 hc
          exact qx_i hS7 hx7 h
      · have h := h.2 hc
        exact qx_i hS5 hx5 h
    · have h := h.2 hc
      exact qx_i hS3 hx3 h
  · have h := h.2 hc
    exact qx_i hS1 hx1 h
theorem w_X5_aimStatement_0 {E : EE} {d : Nat} {V : VH} {K : Int32 → VH → Prop}   (h0 : 0 < d) (h : vMI E (d - 1) M_X5_newName [sl 0 7, wi 3, wi 6] V (fun r1 V1 => (r1 = 0 → K 0 V1) ∧ (¬ (r1 = 0) → vMI E (d - 1) M_X10_accept [sl 0 2, wi 4] V1 (fun r3 V3 => (¬ r3 = 0 → vMI E (d - 1) M_X5_numeral [sl 0 7, wi 0, wi 1, wi 2] V3 (fun r5 V5 => (r5 = 0 → K 0 V5) ∧ (¬ (r5 = 0) → vMI E (d - 1) M_X10_accept [sl 0 2, wi 58] V5 (fun r7 V7 => (¬ r7 = 0 → PG (vL V7) (vP V7) ∧ (PG (vL V7) (vQ V7) ∧ (vMV E (d - 1) M_X2_begin [sl (vQ V7) 9, wi (24 + (vI V7 (vP V7) 4 (Int32.toNatClampNeg 3)))] V7 (fun V12 => vMI E (d - 1) M_X5_sum [sl 0 7] V12 (fun r16 V16 => (r16 = 0 → K 0 V16) ∧ (¬ (r16 = 0) → vMI E (d - 1) M_X10_accept [sl 0 2, wi 59] V16 (fun r20 V20 => (¬ r20 = 0 → PG (vL V20) (vQ V20) ∧ (vMV E (d - 1) M_X2_finish [sl (vQ V20) 9, wi (24 + (vI V7 (vP V7) 4 (Int32.toNatClampNeg 3))), wi (vI V7 0 7 5)] V20 (fun V25 => PG (vL V25) (vP V25) ∧ (vMV E (d - 1) M_X3_tell [sl (vP V25) 0, wi 3, wj (vJ V25 0 7 3)] V25 (fun V31 => K 1 V31))))) ∧ (r20 = 0 → K 0 V20)))))))) ∧ (r7 = 0 → K 0 V7))))) ∧ (r3 = 0 → K 0 V3))))) : vMI E d M_X5_aimStatement [sl 0 7] V K := by
  intro G A hR
  obtain ⟨L, P, rfl, hS⟩ := hR
  have hx := Xt.refl (V := pl G A L P) (A := A)
  show wpM E d M_X5_aimStatement [vr (A 0 7)] G _
  refine wpM_of mk_X5_aimStatement (Nat.le_of_ble_eq_true rfl) ?_
  refine v_X5_aimStatement_0 h0 ?_
  refine ⟨hS.o (s0_7 hS), ?_⟩
  refine wpM.mono (h G A ⟨L, P, rfl, hS⟩) (fun rr1 G1 hr => ?_)
  obtain ⟨A1, W1, w1, ⟨L1, P1, rfl, hS1⟩, hy1, rfl, r1, rfl, h⟩ := hr
  refine ⟨r1, rfl, ?_⟩
  have hx1 := Xt.trans hx hy1
  have ee2 : A1 0 7 = A 0 7 := hy1.2 _ _ hS.1.1 (((n0_7 hS1)).trans ((n0_7 hS)).symm)
  try rw [← ee2]
  refine ⟨fun hc => ?_, fun hc => ?_⟩
  · have h := h.1 hc
    exact qx_i hS1 hx1 h
  · have h := h.2 hc
    refine ⟨hS1.o (s0_7 hS1), ?_⟩
    rw [l0_7_0 hS1]
    refine ⟨hS1.o (s0_2 hS1), ?_⟩
    refine wpM.mono (h G1 A1 ⟨L1, P1, rfl, hS1⟩) (fun rr3 G3 hr => ?_)
    obtain ⟨A3, W3, w3, ⟨L3, P3, rfl, hS3⟩, hy3, rfl, r3, rfl, h⟩ := hr
    refine ⟨r3, rfl, ?_⟩
    have hx3 := Xt.trans hx1 hy3
    have ee4 : A3 0 7 = A1 0 7 := hy3.2 _ _ hS1.1.1 (((n0_7 hS3)).trans ((n0_7 hS1)).symm)
    try rw [← ee4]
    refine ⟨fun hc => ?_, fun hc => ?_⟩
    · have h := h.1 hc
      refine ⟨hS3.o (s0_7 hS3), ?_⟩
      refine wpM.mono (h G3 A3 ⟨L3, P3, rfl, hS3⟩) (fun rr5 G5 hr => ?_)
      obtain ⟨A5, W5, w5, ⟨L5, P5, rfl, hS5⟩, hy5, rfl, r5, rfl, h⟩ := hr
      refine ⟨r5, rfl, ?_⟩
      have hx5 := Xt.trans hx3 hy5
      have ee6 : A5 0 7 = A3 0 7 := hy5.2 _ _ hS3.1.1 (((n0_7 hS5)).trans ((n0_7 hS3)).symm)
      try rw [← ee6]
      refine ⟨fun hc => ?_, fun hc => ?_⟩
      · have h := h.1 hc
        exact qx_i hS5 hx5 h
      · have h := h.2 hc
        refine ⟨hS5.o (s0_7 hS5), ?_⟩
        rw [l0_7_0 hS5]
        refine ⟨hS5.o (s0_2 hS5), ?_⟩
        refine wpM.mono (h G5 A5 ⟨L5, P5, rfl, hS5⟩) (fun rr7 G7 hr => ?_)
        obtain ⟨A7, W7, w7, ⟨L7, P7, rfl, hS7⟩, hy7, rfl, r7, rfl, h⟩ := hr
        refine ⟨r7, rfl, ?_⟩
        have hx7 := Xt.trans hx5 hy7
        have ee8 : A7 0 7 = A5 0 7 := hy7.2 _ _ hS5.1.1 (((n0_7 hS7)).trans ((n0_7 hS5)).symm)
        try rw [← ee8]
        refine ⟨fun hc => ?_, fun hc => ?_⟩
        · have h := h.1 hc
          refine ⟨hS7.o (s0_7 hS7), ?_⟩
          rw [l0_7_1 hS7]
          obtain ⟨hg9, h⟩ := h
          have hg9 : PG L7 (P7).1 := hg9
          refine ⟨hS7.o (sP_0 hg9), ?_⟩
          rw [lP_0_3 hS7 hg9]
          refine ⟨hS7.o (sP_4 hg9), ?_⟩
          refine ⟨by first | (rw [(nP_4 hS7 hg9)]; unfold vp_in; decide) | exact (congrArg (vp_in _) (nP_4 hS7 hg9)).mpr (by unfold vp_in; decide) | (unfold vp_in; decide), ?_⟩
          rw [l0_7_2 hS7]
          obtain ⟨hg11, h⟩ := h
          have hg11 : PG L7 (P7).2 := hg11
          refine ⟨hS7.o (sP_9 hg11), ?_⟩
          refine wpM.mono (h G7 A7 ⟨L7, P7, rfl, hS7⟩) (fun rr12 G12 hr => ?_)
          obtain ⟨A12, W12, w12, ⟨L12, P12, rfl, hS12⟩, hy12, rfl, rfl, h⟩ := hr
          refine ⟨rfl, ?_⟩
          have hx12 := Xt.trans hx7 hy12
          have hg13 : PG L12 (P7).1 := PG.up hy12 hg9
          have hg14 : PG L12 (P7).2 := PG.up hy12 hg11
          have ee15 : A12 0 7 = A7 0 7 := hy12.2 _ _ hS7.1.1 (((n0_7 hS12)).trans ((n0_7 hS7)).symm)
          try rw [← ee15]
          try rw [show gI G7 (A12 0 7) = gI G7 (A7 0 7) from by rw [ee15]]
          refine ⟨hS12.o (s0_7 hS12), ?_⟩
          refine wpM.mono (h G12 A12 ⟨L12, P12, rfl, hS12⟩) (fun rr16 G16 hr => ?_)
          obtain ⟨A16, W16, w16, ⟨L16, P16, rfl, hS16⟩, hy16, rfl, r16, rfl, h⟩ := hr
          refine ⟨r16, rfl, ?_⟩
          have hx16 := Xt.trans hx12 hy16
          have hg17 : PG L16 (P7).1 := PG.up hy16 hg13
          have hg18 : PG L16 (P7).2 := PG.up hy16 hg14
          have ee19 : A16 0 7 = A12 0 7 := hy16.2 _ _ hS12.1.1 (((n0_7 hS16)).trans ((n0_7 hS12)).symm)
          try rw [← ee19]
          refine ⟨fun hc => ?_, fun hc => ?_⟩
          · have h := h.1 hc
            exact qx_i hS16 hx16 h
          · have h := h.2 hc
            refine ⟨hS16.o (s0_7 hS16), ?_⟩
            rw [l0_7_0 hS16]
            refine ⟨hS16.o (s0_2 hS16), ?_⟩
            refine wpM.mono (h G16 A16 ⟨L16, P16, rfl, hS16⟩) (fun rr20 G20 hr => ?_)
            obtain ⟨A20, W20, w20, ⟨L20, P20, rfl, hS20⟩, hy20, rfl, r20, rfl, h⟩ := hr
            refine ⟨r20, rfl, ?_⟩
            have hx20 := Xt.trans hx16 hy20
            have hg21 : PG L20 (P7).1 := PG.up hy20 hg17
            have hg22 : PG L20 (P7).2 := PG.up hy20 hg18
            have ee23 : A20 0 7 = A16 0 7 := hy20.2 _ _ hS16.1.1 (((n0_7 hS20)).trans ((n0_7 hS16)).symm)
            try rw [← ee23]
            refine ⟨fun hc => ?_, fun hc => ?_⟩
            · have h := h.1 hc
              refine ⟨hS20.o (s0_7 hS20), ?_⟩
              rw [l0_7_2 hS20]
              obtain ⟨hg24, h⟩ := h
              have hg24 : PG L20 (P20).2 := hg24
              refine ⟨hS20.o (sP_9 hg24), ?_⟩
              refine wpM.mono (h G20 A20 ⟨L20, P20, rfl, hS20⟩) (fun rr25 G25 hr => ?_)
              obtain ⟨A25, W25, w25, ⟨L25, P25, rfl, hS25⟩, hy25, rfl, rfl, h⟩ := hr
              refine ⟨rfl, ?_⟩
              have hx25 := Xt.trans hx20 hy25
              have hg26 : PG L25 (P7).1 := PG.up hy25 hg21
              have hg27 : PG L25 (P7).2 := PG.up hy25 hg22
              have hg28 : PG L25 (P20).2 := PG.up hy25 hg24
              have ee29 : A25 0 7 = A20 0 7 := hy25.2 _ _ hS20.1.1 (((n0_7 hS25)).trans ((n0_7 hS20)).symm)
              try rw [← ee29]
              refine ⟨hS25.o (s0_7 hS25), ?_⟩
              rw [l0_7_1 hS25]
              obtain ⟨hg30, h⟩ := h
              have hg30 : PG L25 (P25).1 := hg30
              refine ⟨hS25.o (sP_0 hg30), ?_⟩
              refine wpM.mono (h G25 A25 ⟨L25, P25, rfl, hS25⟩) (fun rr31 G31 hr => ?_)
              obtain ⟨A31, W31, w31, ⟨L31, P31, rfl, hS31⟩, hy31, rfl, rfl, h⟩ := hr
              refine ⟨rfl, ?_⟩
              have hx31 := Xt.trans hx25 hy31
              have hg32 : PG L31 (P7).1 := PG.up hy31 hg26
              have hg33 : PG L31 (P7).2 := PG.up hy31 hg27
              have hg34 : PG L31 (P20).2 := PG.up hy31 hg28
              have hg35 : PG L31 (P25).1 := PG.up hy31 hg30
              have ee36 : A31 0 7 = A25 0 7 := hy31.2 _ _ hS25.1.1 (((n0_7 hS31)).trans ((n0_7 hS25)).symm)
              try rw [← ee36]
              exact qx_i hS31 hx31 h
            · have h := h.2 hc
              exact qx_i hS20 hx20 h
        · have h := h.2 hc
          exact qx_i hS7 hx7 h
    · have h := h.2 hc
      exact qx_i hS3 hx3 h
theorem w_X11_bring_36 {E : EE} {d : Nat} {V : VH} {K : Int32 → VH → Prop} {x1 : Int32}  (h : vwp E d M_X11_bring 40 [some (sl 0 28), some (wi x1), some (wi 2), some (wi 0), none] [] V (zi K)) : vwp E d M_X11_bring 36 [some (sl 0 28), some (wi x1), none, none, none] [] V (zi K) := by
  intro G A hR
  obtain ⟨L, P, rfl, hS⟩ := hR
  have hx := Xt.refl (V := pl G A L P) (A := A)
  show wp E d M_X11_bring 36 [some (vr (A 0 28)), some (vi x1), none, none, none] [] G _
  refine v_X11_bring_36 ?_
  exact wp.mono (h G A ⟨L, P, rfl, hS⟩) (fun r G' q => qx_trans hx q)
theorem w_X11_bring_40 {E : EE} {d : Nat} {V : VH} {K : Int32 → VH → Prop} {x1 : Int32} {x2 : Int32} {x3 : Int32}  (h0 : 0 < d) (h : (x1 ≤ x3 → (x2 = ((vI V 0 0 1) - 8) → vMI E (d - 1) M_X8_hasRoom [sl 0 23, wi x1, wi (x2 - 2)] V (fun r1 V1 => (¬ r1 = 0 → vMV E (d - 1) M_X8_append [sl 0 23, sl 0 0, wi x1, wi (x2 - 2)] V1 (fun V3 => vMV E (d - 1) M_X0_keep [sl 0 0, wi 0] V3 (fun V5 => K x1 V5))) ∧ (r1 = 0 → K (-100000) V1))) ∧ (¬ (x2 = ((vI V 0 0 1) - 8)) → K (-1) V)) ∧ (¬ (x1 ≤ x3) → vMI E (d - 1) M_X8_textLength [sl 0 23, sl 0 0, wi x2] V (fun r7 V7 => (0 ≤ r7 → PG (vL V7) 5 ∧ (vMV E (d - 1) M_X0_become [sl 5 1, sl 0 0, wi (x2 + 3), wi r7] V7 (fun V10 => vMI E (d - 1) M_X5_read [sl 0 7, sl 5 0] V10 (fun r13 V13 => (¬ r13 = 0 → vMI E (d - 1) M_X8_rowEnd [sl 0 23, sl 0 0, wi x2, sl 5 0] V13 (fun r16 V16 => (0 ≤ r16 → vMV E (d - 1) M_X8_noteEnd [sl 0 23, wi x3, wi (r16 - 2)] V16 (fun V19 => vwp E d M_X11_bring 40 [some (sl 0 28), some (wi x1), some (wi r16), some (wi (x3 + 1)), none] [] V19 (zi K))) ∧ (¬ (0 ≤ r16) → K (-1) V16))) ∧ (r13 = 0 → K (-1) V13))))) ∧ (¬ (0 ≤ r7) → K (-1) V7)))) : vwp E d M_X11_bring 40 [some (sl 0 28), some (wi x1), some (wi x2), some (wi x3), none] [] V (zi K) := by
  intro G A hR
  obtain ⟨L, P, rfl, hS⟩ := hR
  have hx := Xt.refl (V := pl G A L P) (A := A)
  show wp E d M_X11_bring 40 [some (vr (A 0 28)), some (vi x1), some (vi x2), some (vi x3), none] [] G _
  refine v_X11_bring_40 h0 ?_
  refine ⟨fun hc => ?_, fun hc => ?_⟩
  · have h := h.1 hc
    refine ⟨hS.o (s0_28 hS), ?_⟩
    rw [l0_28_0 hS]
    refine ⟨hS.o (s0_0 hS), ?_⟩
    refine ⟨fun hc => ?_, fun hc => ?_⟩
    · have h := h.1 hc
      rw [l0_28_7 hS]
      refine ⟨hS.o (s0_23 hS), ?_⟩
      refine wpM.mono (h G A ⟨L, P, rfl, hS⟩) (fun rr1 G1 hr => ?_)
      obtain ⟨A1, W1, w1, ⟨L1, P1, rfl, hS1⟩, hy1, rfl, r1, rfl, h⟩ := hr
      refine ⟨r1, rfl, ?_⟩
      have hx1 := Xt.trans hx hy1
      have ee2 : A1 0 28 = A 0 28 := hy1.2 _ _ hS.1.1 (((n0_28 hS1)).trans ((n0_28 hS)).symm)
      try rw [← ee2]
      refine ⟨fun hc => ?_, fun hc => ?_⟩
      · have h := h.1 hc
        refine ⟨hS1.o (s0_28 hS1), ?_⟩
        rw [l0_28_7 hS1]
        rw [l0_28_0 hS1]
        refine ⟨hS1.o (s0_23 hS1), ?_⟩
        refine wpM.mono (h G1 A1 ⟨L1, P1, rfl, hS1⟩) (fun rr3 G3 hr => ?_)
        obtain ⟨A3, W3, w3, ⟨L3, P3, rfl, hS3⟩, hy3, rfl, rfl, h⟩ := hr
        refine ⟨rfl, ?_⟩
        have hx3 := Xt.trans hx1 hy3
        have ee4 : A3 0 28 = A1 0 28 := hy3.2 _ _ hS1.1.1 (((n0_28 hS3)).trans ((n0_28 hS1)).symm)
        try rw [← ee4]
        refine ⟨hS3.o (s0_28 hS3), ?_⟩
        rw [l0_28_0 hS3]
        refine ⟨hS3.o (s0_0 hS3), ?_⟩
        refine wpM.mono (h G3 A3 ⟨L3, P3, rfl, hS3⟩) (fun rr5 G5 hr => ?_)
        obtain ⟨A5, W5, w5, ⟨L5, P5, rfl, hS5⟩, hy5, rfl, rfl, h⟩ := hr
        refine ⟨rfl, ?_⟩
        have hx5 := Xt.trans hx3 hy5
        have ee6 : A5 0 28 = A3 0 28 := hy5.2 _ _ hS3.1.1 (((n0_28 hS5)).trans ((n0_28 hS3)).symm)
        try rw [← ee6]
        exact qx_i hS5 hx5 h
      · have h := h.2 hc
        exact qx_i hS1 hx1 h
    · have h := h.2 hc
      exact qx_i hS hx h
  · have h := h.2 hc
    refine ⟨hS.o (s0_28 hS), ?_⟩
    rw [l0_28_7 hS]
    rw [l0_28_0 hS]
    refine ⟨hS.o (s0_23 hS), ?_⟩
    refine wpM.mono (h G A ⟨L, P, rfl, hS⟩) (fun rr7 G7 hr => ?_)
    obtain ⟨A7, W7, w7, ⟨L7, P7, rfl, hS7⟩, hy7, rfl, r7, rfl, h⟩ := hr
    refine ⟨r7, rfl, ?_⟩
    have hx7 := Xt.trans hx hy7
    have ee8 : A7 0 28 = A 0 28 := hy7.2 _ _ hS.1.1 (((n0_28 hS7)).trans ((n0_28 hS)).symm)
    try rw [← ee8]
    refine ⟨fun hc => ?_, fun hc => ?_⟩
    · have h := h.1 hc
      refine ⟨hS7.o (s0_28 hS7), ?_⟩
      rw [l0_28_8 hS7]
      obtain ⟨hg9, h⟩ := h
      have hg9 : PG L7 5 := hg9
      refine ⟨hS7.o (sP_0 hg9), ?_⟩
      rw [lP_0_1 hS7 hg9]
      rw [l0_28_0 hS7]
      refine ⟨hS7.o (sP_1 hg9), ?_⟩
      refine wpM.mono (h G7 A7 ⟨L7, P7, rfl, hS7⟩) (fun rr10 G10 hr => ?_)
      obtain ⟨A10, W10, w10, ⟨L10, P10, rfl, hS10⟩, hy10, rfl, rfl, h⟩ := hr
      refine ⟨rfl, ?_⟩
      have hx10 := Xt.trans hx7 hy10
      have hg11 : PG L10 5 := PG.up hy10 hg9
      have ee12 : A10 0 28 = A7 0 28 := hy10.2 _ _ hS7.1.1 (((n0_28 hS10)).trans ((n0_28 hS7)).symm)
      try rw [← ee12]
      refine ⟨hS10.o (s0_28 hS10), ?_⟩
      rw [l0_28_2 hS10]
      rw [l0_28_8 hS10]
      refine ⟨hS10.o (s0_7 hS10), ?_⟩
      refine wpM.mono (h G10 A10 ⟨L10, P10, rfl, hS10⟩) (fun rr13 G13 hr => ?_)
      obtain ⟨A13, W13, w13, ⟨L13, P13, rfl, hS13⟩, hy13, rfl, r13, rfl, h⟩ := hr
      refine ⟨r13, rfl, ?_⟩
      have hx13 := Xt.trans hx10 hy13
      have hg14 : PG L13 5 := PG.up hy13 hg11
      have ee15 : A13 0 28 = A10 0 28 := hy13.2 _ _ hS10.1.1 (((n0_28 hS13)).trans ((n0_28 hS10)).symm)
      try rw [← ee15]
      refine ⟨fun hc => ?_, fun hc => ?_⟩
      · have h := h.1 hc
        refine ⟨hS13.o (s0_28 hS13), ?_⟩
        rw [l0_28_7 hS13]
        rw [l0_28_0 hS13]
        rw [l0_28_8 hS13]
        refine ⟨hS13.o (s0_23 hS13), ?_⟩
        refine wpM.mono (h G13 A13 ⟨L13, P13, rfl, hS13⟩) (fun rr16 G16 hr => ?_)
        obtain ⟨A16, W16, w16, ⟨L16, P16, rfl, hS16⟩, hy16, rfl, r16, rfl, h⟩ := hr
        refine ⟨r16, rfl, ?_⟩
        have hx16 := Xt.trans hx13 hy16
        have hg17 : PG L16 5 := PG.up hy16 hg14
        have ee18 : A16 0 28 = A13 0 28 := hy16.2 _ _ hS13.1.1 (((n0_28 hS16)).trans ((n0_28 hS13)).symm)
        try rw [← ee18]
        refine ⟨fun hc => ?_, fun hc => ?_⟩
        · have h := h.1 hc
          refine ⟨hS16.o (s0_28 hS16), ?_⟩
          rw [l0_28_7 hS16]
          refine ⟨hS16.o (s0_23 hS16), ?_⟩
          refine wpM.mono (h G16 A16 ⟨L16, P16, rfl, hS16⟩) (fun rr19 G19 hr => ?_)
          obtain ⟨A19, W19, w19, ⟨L19, P19, rfl, hS19⟩, hy19, rfl, rfl, h⟩ := hr
          refine ⟨rfl, ?_⟩
          have hx19 := Xt.trans hx16 hy19
          have hg20 : PG L19 5 := PG.up hy19 hg17
          have ee21 : A19 0 28 = A16 0 28 := hy19.2 _ _ hS16.1.1 (((n0_28 hS19)).trans ((n0_28 hS16)).symm)
          try rw [← ee21]
          exact wp.mono (h G19 A19 ⟨L19, P19, rfl, hS19⟩) (fun r G' q => qx_trans hx19 q)
        · have h := h.2 hc
          exact qx_i hS16 hx16 h
      · have h := h.2 hc
        exact qx_i hS13 hx13 h
    · have h := h.2 hc
      exact qx_i hS7 hx7 h
theorem w_X11_take_0 {E : EE} {d : Nat} {V : VH} {K : Int32 → VH → Prop}   (h0 : 0 < d) (h : vMV E (d - 1) M_X8_export [sl 0 23, sl 0 0] V (fun V1 => K (vI V1 0 0 1) V1)) : vMI E d M_X11_take [sl 0 28] V K := by
  intro G A hR
  obtain ⟨L, P, rfl, hS⟩ := hR
  have hx := Xt.refl (V := pl G A L P) (A := A)
  show wpM E d M_X11_take [vr (A 0 28)] G _
  refine wpM_of mk_X11_take (Nat.le_of_ble_eq_true rfl) ?_
  refine v_X11_take_0 h0 ?_
  refine ⟨hS.o (s0_28 hS), ?_⟩
  rw [l0_28_7 hS]
  rw [l0_28_0 hS]
  refine ⟨hS.o (s0_23 hS), ?_⟩
  refine wpM.mono (h G A ⟨L, P, rfl, hS⟩) (fun rr1 G1 hr => ?_)
  obtain ⟨A1, W1, w1, ⟨L1, P1, rfl, hS1⟩, hy1, rfl, rfl, h⟩ := hr
  refine ⟨rfl, ?_⟩
  have hx1 := Xt.trans hx hy1
  have ee2 : A1 0 28 = A 0 28 := hy1.2 _ _ hS.1.1 (((n0_28 hS1)).trans ((n0_28 hS)).symm)
  try rw [← ee2]
  refine ⟨hS1.o (s0_28 hS1), ?_⟩
  rw [l0_28_0 hS1]
  refine ⟨hS1.o (s0_0 hS1), ?_⟩
  exact qx_i hS1 hx1 h
theorem w_X11_crash_0 {E : EE} {d : Nat} {V : VH} {K : Int32 → VH → Prop} {x1 : Int32}  (h0 : 0 < d) (h : (0 ≤ x1 → vMI E (d - 1) M_X8_lose [sl 0 23, wi x1] V (fun r1 V1 => K r1 V1)) ∧ (¬ (0 ≤ x1) → K (-1) V)) : vMI E d M_X11_crash [sl 0 28, wi x1] V K := by
  intro G A hR
  obtain ⟨L, P, rfl, hS⟩ := hR
  have hx := Xt.refl (V := pl G A L P) (A := A)
  show wpM E d M_X11_crash [vr (A 0 28), vi x1] G _
  refine wpM_of mk_X11_crash (Nat.le_of_ble_eq_true rfl) ?_
  refine v_X11_crash_0 h0 ?_
  refine ⟨fun hc => ?_, fun hc => ?_⟩
  · have h := h.1 hc
    refine ⟨hS.o (s0_28 hS), ?_⟩
    rw [l0_28_7 hS]
    refine ⟨hS.o (s0_23 hS), ?_⟩
    refine wpM.mono (h G A ⟨L, P, rfl, hS⟩) (fun rr1 G1 hr => ?_)
    obtain ⟨A1, W1, w1, ⟨L1, P1, rfl, hS1⟩, hy1, rfl, r1, rfl, h⟩ := hr
    refine ⟨r1, rfl, ?_⟩
    have hx1 := Xt.trans hx hy1
    have ee2 : A1 0 28 = A 0 28 := hy1.2 _ _ hS.1.1 (((n0_28 hS1)).trans ((n0_28 hS)).symm)
    try rw [← ee2]
    exact qx_i hS1 hx1 h
  · have h := h.2 hc
    exact qx_i hS hx h
theorem w_X11_byteAt_0 {E : EE} {d : Nat} {V : VH} {K : Int32 → VH → Prop} {x1 : Int32}  (h0 : 0 < d) (h : vMI E (d - 1) M_X0_at [sl 0 24, wi x1] V (fun r1 V1 => K r1 V1)) : vMI E d M_X11_byteAt [sl 0 28, wi x1] V K := by
  intro G A hR
  obtain ⟨L, P, rfl, hS⟩ := hR
  have hx := Xt.refl (V := pl G A L P) (A := A)
  show wpM E d M_X11_byteAt [vr (A 0 28), vi x1] G _
  refine wpM_of mk_X11_byteAt (Nat.le_of_ble_eq_true rfl) ?_
  refine v_X11_byteAt_0 h0 ?_
  refine ⟨hS.o (s0_28 hS), ?_⟩
  rw [l0_28_7 hS]
  refine ⟨hS.o (s0_23 hS), ?_⟩
  rw [l0_23_0 hS]
  refine ⟨hS.o (s0_24 hS), ?_⟩
  refine wpM.mono (h G A ⟨L, P, rfl, hS⟩) (fun rr1 G1 hr => ?_)
  obtain ⟨A1, W1, w1, ⟨L1, P1, rfl, hS1⟩, hy1, rfl, r1, rfl, h⟩ := hr
  refine ⟨r1, rfl, ?_⟩
  have hx1 := Xt.trans hx hy1
  have ee2 : A1 0 28 = A 0 28 := hy1.2 _ _ hS.1.1 (((n0_28 hS1)).trans ((n0_28 hS)).symm)
  try rw [← ee2]
  exact qx_i hS1 hx1 h
theorem w_X11_size_0 {E : EE} {d : Nat} {V : VH} {K : Int32 → VH → Prop}   (h : K (vI V 0 24 1) V) : vMI E d M_X11_size [sl 0 28] V K := by
  intro G A hR
  obtain ⟨L, P, rfl, hS⟩ := hR
  have hx := Xt.refl (V := pl G A L P) (A := A)
  show wpM E d M_X11_size [vr (A 0 28)] G _
  refine wpM_of mk_X11_size (Nat.le_of_ble_eq_true rfl) ?_
  refine v_X11_size_0 ?_
  refine ⟨hS.o (s0_28 hS), ?_⟩
  rw [l0_28_7 hS]
  refine ⟨hS.o (s0_23 hS), ?_⟩
  rw [l0_23_0 hS]
  refine ⟨hS.o (s0_24 hS), ?_⟩
  exact qx_i hS hx h
theorem w_X11_rows_0 {E : EE} {d : Nat} {V : VH} {K : Int32 → VH → Prop}   (h : K (vI V 0 23 1) V) : vMI E d M_X11_rows [sl 0 28] V K := by
  intro G A hR
  obtain ⟨L, P, rfl, hS⟩ := hR
  have hx := Xt.refl (V := pl G A L P) (A := A)
  show wpM E d M_X11_rows [vr (A 0 28)] G _
  refine wpM_of mk_X11_rows (Nat.le_of_ble_eq_true rfl) ?_
  refine v_X11_rows_0 ?_
  refine ⟨hS.o (s0_28 hS), ?_⟩
  rw [l0_28_7 hS]
  refine ⟨hS.o (s0_23 hS), ?_⟩
  exact qx_i hS hx h
theorem w_X11_load_0 {E : EE} {d : Nat} {V : VH} {K : Int32 → VH → Prop} {x1 : Int32}  (h0 : 0 < d) (h : vMI E (d - 1) M_X8_start [sl 0 23, wi x1] V (fun r1 V1 => (0 ≤ r1 → vMI E (d - 1) M_X11_freeNumber [sl 0 28] V1 (fun r3 V3 => (0 ≤ r3 → vMP E (d - 1) M_X11_roomFor [sl 0 28, wi r3] V3 (fun g5 V5 => PG (vL V5) g5 ∧ (vMI E (d - 1) M_X8_textLength [sl 0 23, sl 0 24, wi r1] V5 (fun r8 V8 => vMV E (d - 1) M_X0_become [sl g5 1, sl 0 24, wi (r1 + 3), wi r8] V8 (fun V12 => vMI E (d - 1) M_X5_read [sl 0 7, sl g5 0] V12 (fun r16 V16 => (r16 = 0 → vwp E d M_X11_load 114 [some (sl 0 28), some (wi x1), some (wi r1), some (wi r3), some (sl g5 0), some (wi r8)] [sl g5 0] V16 (zi K)) ∧ (¬ (r16 = 0) → vMI E (d - 1) M_X8_restore [sl 0 23, sl 0 24, wi ((r1 + 3) + r8), sl g5 0] V16 (fun r20 V20 => (r20 = 0 → vwp E d M_X11_load 114 [some (sl 0 28), some (wi x1), some (wi r1), some (wi r3), some (sl g5 0), some (wi r8)] [sl g5 0] V20 (zi K)) ∧ (¬ (r20 = 0) → vwp E d M_X11_load 115 [some (sl 0 28), some (wi x1), some (wi r1), some (wi r3), some (sl g5 0), some (wi r8)] [wi 1, sl g5 0] V20 (zi K)))))))))) ∧ (¬ (0 ≤ r3) → K (-100000) V3))) ∧ (¬ (0 ≤ r1) → K (-1) V1))) : vMI E d M_X11_load [sl 0 28, wi x1] V K := by
  intro G A hR
  obtain ⟨L, P, rfl, hS⟩ := hR
  have hx := Xt.refl (V := pl G A L P) (A := A)
  show wpM E d M_X11_load [vr (A 0 28), vi x1] G _
  refine wpM_of mk_X11_load (Nat.le_of_ble_eq_true rfl) ?_
  refine v_X11_load_0 h0 ?_
  refine ⟨hS.o (s0_28 hS), ?_⟩
  rw [l0_28_7 hS]
  refine ⟨hS.o (s0_23 hS), ?_⟩
  refine wpM.mono (h G A ⟨L, P, rfl, hS⟩) (fun rr1 G1 hr => ?_)
  obtain ⟨A1, W1, w1, ⟨L1, P1, rfl, hS1⟩, hy1, rfl, r1, rfl, h⟩ := hr
  refine ⟨r1, rfl, ?_⟩
  have hx1 := Xt.trans hx hy1
  have ee2 : A1 0 28 = A 0 28 := hy1.2 _ _ hS.1.1 (((n0_28 hS1)).trans ((n0_28 hS)).symm)
  try rw [← ee2]
  refine ⟨fun hc => ?_, fun hc => ?_⟩
  · have h := h.1 hc
    refine ⟨hS1.o (s0_28 hS1), ?_⟩
    refine wpM.mono (h G1 A1 ⟨L1, P1, rfl, hS1⟩) (fun rr3 G3 hr => ?_)
    obtain ⟨A3, W3, w3, ⟨L3, P3, rfl, hS3⟩, hy3, rfl, r3, rfl, h⟩ := hr
    refine ⟨r3, rfl, ?_⟩
    have hx3 := Xt.trans hx1 hy3
    have ee4 : A3 0 28 = A1 0 28 := hy3.2 _ _ hS1.1.1 (((n0_28 hS3)).trans ((n0_28 hS1)).symm)
    try rw [← ee4]
    refine ⟨fun hc => ?_, fun hc => ?_⟩
    · have h := h.1 hc
      refine ⟨hS3.o (s0_28 hS3), ?_⟩
      refine wpM.mono (h G3 A3 ⟨L3, P3, rfl, hS3⟩) (fun rr5 G5 hr => ?_)
      obtain ⟨A5, W5, w5, ⟨L5, P5, rfl, hS5⟩, hy5, rfl, g5, rfl, h⟩ := hr
      refine ⟨A5 g5 0, rfl, ?_⟩
      have hx5 := Xt.trans hx3 hy5
      have ee6 : A5 0 28 = A3 0 28 := hy5.2 _ _ hS3.1.1 (((n0_28 hS5)).trans ((n0_28 hS3)).symm)
      try rw [← ee6]
      obtain ⟨hg7, h⟩ := h
      refine ⟨hS5.o (s0_28 hS5), ?_⟩
      rw [l0_28_7 hS5]
      refine ⟨hS5.o (s0_23 hS5), ?_⟩
      rw [l0_23_0 hS5]
      refine wpM.mono (h G5 A5 ⟨L5, P5, rfl, hS5⟩) (fun rr8 G8 hr => ?_)
      obtain ⟨A8, W8, w8, ⟨L8, P8, rfl, hS8⟩, hy8, rfl, r8, rfl, h⟩ := hr
      refine ⟨r8, rfl, ?_⟩
      have hx8 := Xt.trans hx5 hy8
      have hg9 : PG L8 g5 := PG.up hy8 hg7
      have ee10 : A8 0 28 = A5 0 28 := hy8.2 _ _ hS5.1.1 (((n0_28 hS8)).trans ((n0_28 hS5)).symm)
      try rw [← ee10]
      have ee11 : A8 g5 0 = A5 g5 0 := hy8.2 _ _ hg7.1 (((nP_0 hS8 hg9)).trans ((nP_0 hS5 hg7)).symm)
      try rw [← ee11]
      refine ⟨hS8.o (sP_0 hg9), ?_⟩
      rw [lP_0_1 hS8 hg9]
      refine ⟨hS8.o (s0_28 hS8), ?_⟩
      rw [l0_28_7 hS8]
      refine ⟨hS8.o (s0_23 hS8), ?_⟩
      rw [l0_23_0 hS8]
      refine ⟨hS8.o (sP_1 hg9), ?_⟩
      refine wpM.mono (h G8 A8 ⟨L8, P8, rfl, hS8⟩) (fun rr12 G12 hr => ?_)
      obtain ⟨A12, W12, w12, ⟨L12, P12, rfl, hS12⟩, hy12, rfl, rfl, h⟩ := hr
      refine ⟨rfl, ?_⟩
      have hx12 := Xt.trans hx8 hy12
      have hg13 : PG L12 g5 := PG.up hy12 hg9
      have ee14 : A12 0 28 = A8 0 28 := hy12.2 _ _ hS8.1.1 (((n0_28 hS12)).trans ((n0_28 hS8)).symm)
      try rw [← ee14]
      have ee15 : A12 g5 0 = A8 g5 0 := hy12.2 _ _ hg9.1 (((nP_0 hS12 hg13)).trans ((nP_0 hS8 hg9)).symm)
      try rw [← ee15]
      refine ⟨hS12.o (s0_28 hS12), ?_⟩
      rw [l0_28_2 hS12]
      refine ⟨hS12.o (s0_7 hS12), ?_⟩
      refine wpM.mono (h G12 A12 ⟨L12, P12, rfl, hS12⟩) (fun rr16 G16 hr => ?_)
      obtain ⟨A16, W16, w16, ⟨L16, P16, rfl, hS16⟩, hy16, rfl, r16, rfl, h⟩ := hr
      refine ⟨r16, rfl, ?_⟩
      have hx16 := Xt.trans hx12 hy16
      have hg17 : PG L16 g5 := PG.up hy16 hg13
      have ee18 : A16 0 28 = A12 0 28 := hy16.2 _ _ hS12.1.1 (((n0_28 hS16)).trans ((n0_28 hS12)).symm)
      try rw [← ee18]
      have ee19 : A16 g5 0 = A12 g5 0 := hy16.2 _ _ hg13.1 (((nP_0 hS16 hg17)).trans ((nP_0 hS12 hg13)).symm)
      try rw [← ee19]
      refine ⟨fun hc => ?_, fun hc => ?_⟩
      · have h := h.1 hc
        exact wp.mono (h G16 A16 ⟨L16, P16, rfl, hS16⟩) (fun r G' q => qx_trans hx16 q)
      · have h := h.2 hc
        refine ⟨hS16.o (s0_28 hS16), ?_⟩
        rw [l0_28_7 hS16]
        refine ⟨hS16.o (s0_23 hS16), ?_⟩
        rw [l0_23_0 hS16]
        refine wpM.mono (h G16 A16 ⟨L16, P16, rfl, hS16⟩) (fun rr20 G20 hr => ?_)
        obtain ⟨A20, W20, w20, ⟨L20, P20, rfl, hS20⟩, hy20, rfl, r20, rfl, h⟩ := hr
        refine ⟨r20, rfl, ?_⟩
        have hx20 := Xt.trans hx16 hy20
        have hg21 : PG L20 g5 := PG.up hy20 hg17
        have ee22 : A20 0 28 = A16 0 28 := hy20.2 _ _ hS16.1.1 (((n0_28 hS20)).trans ((n0_28 hS16)).symm)
        try rw [← ee22]
        have ee23 : A20 g5 0 = A16 g5 0 := hy20.2 _ _ hg17.1 (((nP_0 hS20 hg21)).trans ((nP_0 hS16 hg17)).symm)
        try rw [← ee23]
        refine ⟨fun hc => ?_, fun hc => ?_⟩
        · have h := h.1 hc
          exact wp.mono (h G20 A20 ⟨L20, P20, rfl, hS20⟩) (fun r G' q => qx_trans hx20 q)
        · have h := h.2 hc
          exact wp.mono (h G20 A20 ⟨L20, P20, rfl, hS20⟩) (fun r G' q => qx_trans hx20 q)
    · have h := h.2 hc
      exact qx_i hS3 hx3 h
  · have h := h.2 hc
    exact qx_i hS1 hx1 h
theorem w_X11_load_114 {E : EE} {d : Nat} {V : VH} {K : Int32 → VH → Prop} {x1 : Int32} {x2 : Int32} {x3 : Int32} {g : Nat} {x5 : Int32} (hg : PG (vL V) g) (h : vwp E d M_X11_load 115 [some (sl 0 28), some (wi x1), some (wi x2), some (wi x3), some (sl g 0), some (wi x5)] [wi 0, sl g 0] V (zi K)) : vwp E d M_X11_load 114 [some (sl 0 28), some (wi x1), some (wi x2), some (wi x3), some (sl g 0), some (wi x5)] [sl g 0] V (zi K) := by
  intro G A hR
  obtain ⟨L, P, rfl, hS⟩ := hR
  have hx := Xt.refl (V := pl G A L P) (A := A)
  show wp E d M_X11_load 114 [some (vr (A 0 28)), some (vi x1), some (vi x2), some (vi x3), some (vr (A g 0)), some (vi x5)] [vr (A g 0)] G _
  refine v_X11_load_114 ?_
  exact wp.mono (h G A ⟨L, P, rfl, hS⟩) (fun r G' q => qx_trans hx q)
theorem w_X11_load_115 {E : EE} {d : Nat} {V : VH} {K : Int32 → VH → Prop} {x1 : Int32} {x2 : Int32} {x3 : Int32} {g : Nat} {x5 : Int32} {t1 : Int32} (hg : PG (vL V) g) (h : bz t1 ∧ (∀ V2 : VH, V2 = wrI V g 0 0 t1 → ((vI V2 g 0 0) = 0 → K (-1) V2) ∧ (¬ ((vI V2 g 0 0) = 0) → K x3 V2))) : vwp E d M_X11_load 115 [some (sl 0 28), some (wi x1), some (wi x2), some (wi x3), some (sl g 0), some (wi x5)] [wi t1, sl g 0] V (zi K) := by
  intro G A hR
  obtain ⟨L, P, rfl, hS⟩ := hR
  have hx := Xt.refl (V := pl G A L P) (A := A)
  show wp E d M_X11_load 115 [some (vr (A 0 28)), some (vi x1), some (vi x2), some (vi x3), some (vr (A g 0)), some (vi x5)] [vi t1, vr (A g 0)] G _
  refine v_X11_load_115 ?_
  refine ⟨hS.o (sP_0 hg), ?_⟩
  obtain ⟨hk1, h⟩ := h
  refine ⟨bz_ok hk1, ?_⟩
  have hS2 : Sh E (sI G (A g 0) 0 t1) A L P := Sh_sI (rfl : sI G (A g 0) 0 t1 = sI G (A g 0) 0 t1) hS (sP_0 hg) (okT_2 rfl hk1)
  have h := h (pl (sI G (A g 0) 0 t1) A L P) (pl_sI (rfl : sI G (A g 0) 0 t1 = sI G (A g 0) 0 t1) hS (sP_0 hg))
  have hx2 : Xt (pl G A L P) A (pl (sI G (A g 0) 0 t1) A L P) A := Xt_sI (rfl : sI G (A g 0) 0 t1 = sI G (A g 0) 0 t1) hx
  refine ⟨hS2.o (sP_0 hg), ?_⟩
  refine ⟨fun hc => ?_, fun hc => ?_⟩
  · have h := h.1 hc
    exact qx_i hS2 hx2 h
  · have h := h.2 hc
    exact qx_i hS2 hx2 h
theorem w_X11_freeNumber_0 {E : EE} {d : Nat} {V : VH} {K : Int32 → VH → Prop}   (h : vwp E d M_X11_freeNumber 2 [some (sl 0 28), some (wi 0), none] [] V (zi K)) : vMI E d M_X11_freeNumber [sl 0 28] V K := by
  intro G A hR
  obtain ⟨L, P, rfl, hS⟩ := hR
  have hx := Xt.refl (V := pl G A L P) (A := A)
  show wpM E d M_X11_freeNumber [vr (A 0 28)] G _
  refine wpM_of mk_X11_freeNumber (Nat.le_of_ble_eq_true rfl) ?_
  refine v_X11_freeNumber_0 ?_
  exact wp.mono (h G A ⟨L, P, rfl, hS⟩) (fun r G' q => qx_trans hx q)
theorem w_X11_freeNumber_2 {E : EE} {d : Nat} {V : VH} {K : Int32 → VH → Prop} {x1 : Int32}  (h : (4 ≤ x1 → K (-1) V) ∧ (¬ (4 ≤ x1) → vp_in x1 4 ∧ ((¬ vL V ((Int32.toNatClampNeg x1) + 1) = true → K x1 V) ∧ (vL V ((Int32.toNatClampNeg x1) + 1) = true → (((Int32.toNatClampNeg x1) + 1) ≠ 0 ∧ ((Int32.toNatClampNeg x1) + 1) ≠ 6) ∧ ((¬ (vI V ((Int32.toNatClampNeg x1) + 1) 0 0) = 0 → vwp E d M_X11_freeNumber 2 [some (sl 0 28), some (wi (x1 + 1)), none] [] V (zi K)) ∧ ((vI V ((Int32.toNatClampNeg x1) + 1) 0 0) = 0 → K x1 V)))))) : vwp E d M_X11_freeNumber 2 [some (sl 0 28), some (wi x1), none] [] V (zi K) := by
  intro G A hR
  obtain ⟨L, P, rfl, hS⟩ := hR
  have hx := Xt.refl (V := pl G A L P) (A := A)
  show wp E d M_X11_freeNumber 2 [some (vr (A 0 28)), some (vi x1), none] [] G _
  refine v_X11_freeNumber_2 ?_
  refine ⟨fun hc => ?_, fun hc => ?_⟩
  · have h := h.1 hc
    exact qx_i hS hx h
  · have h := h.2 hc
    refine ⟨hS.o (s0_28 hS), ?_⟩
    rw [l0_28_3 hS]
    refine ⟨hS.o (s0_9 hS), ?_⟩
    obtain ⟨hi1, h⟩ := h
    refine ⟨by first | (rw [(n0_9 hS)]; exact hi1) | exact (congrArg (vp_in _) (n0_9 hS)).mpr hi1 | exact hi1, ?_⟩
    rw [l0_9 hS hi1]
    refine ⟨fun hc => ?_, fun hc => ?_⟩
    · have h := h.1 ((hS.null (nf_pos _)).mp hc)
      exact qx_i hS hx h
    · have h := h.2 (hS.lv0 hc)
      obtain ⟨hw, h⟩ := h
      have hg2 : PG L ((Int32.toNatClampNeg x1) + 1) := ⟨hS.lv0 hc, hw⟩
      refine ⟨hS.o (sP_0 hg2), ?_⟩
      refine ⟨fun hc => ?_, fun hc => ?_⟩
      · have h := h.1 hc
        exact wp.mono (h G A ⟨L, P, rfl, hS⟩) (fun r G' q => qx_trans hx q)
      · have h := h.2 hc
        exact qx_i hS hx h
theorem w_X11_save_0 {E : EE} {d : Nat} {V : VH} {K : Int32 → VH → Prop} {x1 : Int32}  (h0 : 0 < d) (h : vMP E (d - 1) M_X11_known [sl 0 28, wi x1] V (fun g1 V1 => (vL V1 g1 = true → (g1 ≠ 0 ∧ g1 ≠ 6) ∧ (vMI E (d - 1) M_X8_add [sl 0 23, sl g1 0] V1 (fun r4 V4 => K r4 V4))) ∧ (¬ vL V1 g1 = true → K (-1) V1))) : vMI E d M_X11_save [sl 0 28, wi x1] V K := by
  intro G A hR
  obtain ⟨L, P, rfl, hS⟩ := hR
  have hx := Xt.refl (V := pl G A L P) (A := A)
  show wpM E d M_X11_save [vr (A 0 28), vi x1] G _
  refine wpM_of mk_X11_save (Nat.le_of_ble_eq_true rfl) ?_
  refine v_X11_save_0 h0 ?_
  refine ⟨hS.o (s0_28 hS), ?_⟩
  refine wpM.mono (h G A ⟨L, P, rfl, hS⟩) (fun rr1 G1 hr => ?_)
  obtain ⟨A1, W1, w1, ⟨L1, P1, rfl, hS1⟩, hy1, rfl, g1, rfl, h⟩ := hr
  refine ⟨A1 g1 0, rfl, ?_⟩
  have hx1 := Xt.trans hx hy1
  have ee2 : A1 0 28 = A 0 28 := hy1.2 _ _ hS.1.1 (((n0_28 hS1)).trans ((n0_28 hS)).symm)
  try rw [← ee2]
  refine ⟨fun hc => ?_, fun hc => ?_⟩
  · have h := h.1 (hS1.lv0 hc)
    obtain ⟨hw, h⟩ := h
    have hg3 : PG L1 g1 := ⟨hS1.lv0 hc, hw⟩
    refine ⟨hS1.o (s0_28 hS1), ?_⟩
    rw [l0_28_7 hS1]
    refine ⟨hS1.o (s0_23 hS1), ?_⟩
    refine wpM.mono (h G1 A1 ⟨L1, P1, rfl, hS1⟩) (fun rr4 G4 hr => ?_)
    obtain ⟨A4, W4, w4, ⟨L4, P4, rfl, hS4⟩, hy4, rfl, r4, rfl, h⟩ := hr
    refine ⟨r4, rfl, ?_⟩
    have hx4 := Xt.trans hx1 hy4
    have hg5 : PG L4 g1 := PG.up hy4 hg3
    have ee6 : A4 0 28 = A1 0 28 := hy4.2 _ _ hS1.1.1 (((n0_28 hS4)).trans ((n0_28 hS1)).symm)
    try rw [← ee6]
    have ee7 : A4 g1 0 = A1 g1 0 := hy4.2 _ _ hg3.1 (((nP_0 hS4 hg5)).trans ((nP_0 hS1 hg3)).symm)
    try rw [← ee7]
    exact qx_i hS4 hx4 h
  · have h := h.2 ((hS1.null (nf_pos _)).mp hc)
    exact qx_i hS1 hx1 h
theorem w_X11_known_0 {E : EE} {d : Nat} {V : VH} {K : Nat → VH → Prop} {x1 : Int32}  (h : (x1 < 0 → K 7 V) ∧ (¬ (x1 < 0) → (x1 < 4 → vp_in x1 4 ∧ ((¬ vL V ((Int32.toNatClampNeg x1) + 1) = true → K 7 V) ∧ (vL V ((Int32.toNatClampNeg x1) + 1) = true → (((Int32.toNatClampNeg x1) + 1) ≠ 0 ∧ ((Int32.toNatClampNeg x1) + 1) ≠ 6) ∧ (((vI V ((Int32.toNatClampNeg x1) + 1) 0 0) = 0 → K 7 V) ∧ (¬ ((vI V ((Int32.toNatClampNeg x1) + 1) 0 0) = 0) → K ((Int32.toNatClampNeg x1) + 1) V))))) ∧ (¬ (x1 < 4) → K 7 V))) : vMP E d M_X11_known [sl 0 28, wi x1] V K := by
  intro G A hR
  obtain ⟨L, P, rfl, hS⟩ := hR
  have hx := Xt.refl (V := pl G A L P) (A := A)
  show wpM E d M_X11_known [vr (A 0 28), vi x1] G _
  refine wpM_of mk_X11_known (Nat.le_of_ble_eq_true rfl) ?_
  refine v_X11_known_0 ?_
  refine ⟨fun hc => ?_, fun hc => ?_⟩
  · have h := h.1 hc
    exact qx_n hS hx h
  · have h := h.2 hc
    refine ⟨fun hc => ?_, fun hc => ?_⟩
    · have h := h.1 hc
      refine ⟨hS.o (s0_28 hS), ?_⟩
      rw [l0_28_3 hS]
      refine ⟨hS.o (s0_9 hS), ?_⟩
      obtain ⟨hi1, h⟩ := h
      refine ⟨by first | (rw [(n0_9 hS)]; exact hi1) | exact (congrArg (vp_in _) (n0_9 hS)).mpr hi1 | exact hi1, ?_⟩
      rw [l0_9 hS hi1]
      refine ⟨fun hc => ?_, fun hc => ?_⟩
      · have h := h.1 ((hS.null (nf_pos _)).mp hc)
        exact qx_n hS hx h
      · have h := h.2 (hS.lv0 hc)
        obtain ⟨hw, h⟩ := h
        have hg2 : PG L ((Int32.toNatClampNeg x1) + 1) := ⟨hS.lv0 hc, hw⟩
        refine ⟨hS.o (sP_0 hg2), ?_⟩
        refine ⟨fun hc => ?_, fun hc => ?_⟩
        · have h := h.1 hc
          exact qx_n hS hx h
        · have h := h.2 hc
          exact qx_p hS hx h
    · have h := h.2 hc
      exact qx_n hS hx h
theorem w_X11_below_0 {E : EE} {d : Nat} {V : VH} {K : Int64 → VH → Prop}   (h : K (vJ V 0 28 11) V) : vMJ E d M_X11_below [sl 0 28] V K := by
  intro G A hR
  obtain ⟨L, P, rfl, hS⟩ := hR
  have hx := Xt.refl (V := pl G A L P) (A := A)
  show wpM E d M_X11_below [vr (A 0 28)] G _
  refine wpM_of mk_X11_below (Nat.le_of_ble_eq_true rfl) ?_
  refine v_X11_below_0 ?_
  refine ⟨hS.o (s0_28 hS), ?_⟩
  exact qx_j hS hx h
theorem w_X11_above_0 {E : EE} {d : Nat} {V : VH} {K : Int64 → VH → Prop}   (h : K (vJ V 0 28 10) V) : vMJ E d M_X11_above [sl 0 28] V K := by
  intro G A hR
  obtain ⟨L, P, rfl, hS⟩ := hR
  have hx := Xt.refl (V := pl G A L P) (A := A)
  show wpM E d M_X11_above [vr (A 0 28)] G _
  refine wpM_of mk_X11_above (Nat.le_of_ble_eq_true rfl) ?_
  refine v_X11_above_0 ?_
  refine ⟨hS.o (s0_28 hS), ?_⟩
  exact qx_j hS hx h
theorem w_X11_prove_0 {E : EE} {d : Nat} {V : VH} {K : Int32 → VH → Prop} {x1 : Int32}  (h0 : 0 < d) (h : vMP E (d - 1) M_X11_scored [sl 0 28, wi x1] V (fun g1 V1 => (¬ vL V1 g1 = true → K (-1) V1) ∧ (vL V1 g1 = true → (g1 ≠ 0 ∧ g1 ≠ 6) ∧ (vMI E (d - 1) M_X9_beatsHand [sl g1 19, sl g1 0] V1 (fun r4 V4 => (¬ r4 = 0 → K (-1) V4) ∧ (r4 = 0 → vMI E (d - 1) M_X4_fits [sl 0 20, sl g1 0] V4 (fun r8 V8 => (¬ r8 = 0 → vMV E (d - 1) M_X4_write [sl 0 20, sl g1 0, sl 0 0] V8 (fun V12 => K (vI V12 0 0 1) V12)) ∧ (r8 = 0 → K (-1) V8)))))))) : vMI E d M_X11_prove [sl 0 28, wi x1] V K := by
  intro G A hR
  obtain ⟨L, P, rfl, hS⟩ := hR
  have hx := Xt.refl (V := pl G A L P) (A := A)
  show wpM E d M_X11_prove [vr (A 0 28), vi x1] G _
  refine wpM_of mk_X11_prove (Nat.le_of_ble_eq_true rfl) ?_
  refine v_X11_prove_0 h0 ?_
  refine ⟨hS.o (s0_28 hS), ?_⟩
  refine wpM.mono (h G A ⟨L, P, rfl, hS⟩) (fun rr1 G1 hr => ?_)
  obtain ⟨A1, W1, w1, ⟨L1, P1, rfl, hS1⟩, hy1, rfl, g1, rfl, h⟩ := hr
  refine ⟨A1 g1 0, rfl, ?_⟩
  have hx1 := Xt.trans hx hy1
  have ee2 : A1 0 28 = A 0 28 := hy1.2 _ _ hS.1.1 (((n0_28 hS1)).trans ((n0_28 hS)).symm)
  try rw [← ee2]
  refine ⟨fun hc => ?_, fun hc => ?_⟩
  · have h := h.1 ((hS1.null (nf_pos _)).mp hc)
    exact qx_i hS1 hx1 h
  · have h := h.2 (hS1.lv0 hc)
    obtain ⟨hw, h⟩ := h
    have hg3 : PG L1 g1 := ⟨hS1.lv0 hc, hw⟩
    refine ⟨hS1.o (sP_0 hg3), ?_⟩
    rw [lP_0_6 hS1 hg3]
    refine ⟨hS1.o (sP_19 hg3), ?_⟩
    refine wpM.mono (h G1 A1 ⟨L1, P1, rfl, hS1⟩) (fun rr4 G4 hr => ?_)
    obtain ⟨A4, W4, w4, ⟨L4, P4, rfl, hS4⟩, hy4, rfl, r4, rfl, h⟩ := hr
    refine ⟨r4, rfl, ?_⟩
    have hx4 := Xt.trans hx1 hy4
    have hg5 : PG L4 g1 := PG.up hy4 hg3
    have ee6 : A4 0 28 = A1 0 28 := hy4.2 _ _ hS1.1.1 (((n0_28 hS4)).trans ((n0_28 hS1)).symm)
    try rw [← ee6]
    have ee7 : A4 g1 0 = A1 g1 0 := hy4.2 _ _ hg3.1 (((nP_0 hS4 hg5)).trans ((nP_0 hS1 hg3)).symm)
    try rw [← ee7]
    refine ⟨fun hc => ?_, fun hc => ?_⟩
    · have h := h.1 hc
      exact qx_i hS4 hx4 h
    · have h := h.2 hc
      refine ⟨hS4.o (s0_28 hS4), ?_⟩
      rw [l0_28_6 hS4]
      refine ⟨hS4.o (s0_20 hS4), ?_⟩
      refine wpM.mono (h G4 A4 ⟨L4, P4, rfl, hS4⟩) (fun rr8 G8 hr => ?_)
      obtain ⟨A8, W8, w8, ⟨L8, P8, rfl, hS8⟩, hy8, rfl, r8, rfl, h⟩ := hr
      refine ⟨r8, rfl, ?_⟩
      have hx8 := Xt.trans hx4 hy8
      have hg9 : PG L8 g1 := PG.up hy8 hg5
      have ee10 : A8 0 28 = A4 0 28 := hy8.2 _ _ hS4.1.1 (((n0_28 hS8)).trans ((n0_28 hS4)).symm)
      try rw [← ee10]
      have ee11 : A8 g1 0 = A4 g1 0 := hy8.2 _ _ hg5.1 (((nP_0 hS8 hg9)).trans ((nP_0 hS4 hg5)).symm)
      try rw [← ee11]
      refine ⟨fun hc => ?_, fun hc => ?_⟩
      · have h := h.1 hc
        refine ⟨hS8.o (s0_28 hS8), ?_⟩
        rw [l0_28_6 hS8]
        rw [l0_28_0 hS8]
        refine ⟨hS8.o (s0_20 hS8), ?_⟩
        refine wpM.mono (h G8 A8 ⟨L8, P8, rfl, hS8⟩) (fun rr12 G12 hr => ?_)
        obtain ⟨A12, W12, w12, ⟨L12, P12, rfl, hS12⟩, hy12, rfl, rfl, h⟩ := hr
        refine ⟨rfl, ?_⟩
        have hx12 := Xt.trans hx8 hy12
        have hg13 : PG L12 g1 := PG.up hy12 hg9
        have ee14 : A12 0 28 = A8 0 28 := hy12.2 _ _ hS8.1.1 (((n0_28 hS12)).trans ((n0_28 hS8)).symm)
        try rw [← ee14]
        have ee15 : A12 g1 0 = A8 g1 0 := hy12.2 _ _ hg9.1 (((nP_0 hS12 hg13)).trans ((nP_0 hS8 hg9)).symm)
        try rw [← ee15]
        refine ⟨hS12.o (s0_28 hS12), ?_⟩
        rw [l0_28_0 hS12]
        refine ⟨hS12.o (s0_0 hS12), ?_⟩
        exact qx_i hS12 hx12 h
      · have h := h.2 hc
        exact qx_i hS8 hx8 h
theorem w_X11_scored_0 {E : EE} {d : Nat} {V : VH} {K : Nat → VH → Prop} {x1 : Int32}  (h0 : 0 < d) (h : vMP E (d - 1) M_X11_known [sl 0 28, wi x1] V (fun g1 V1 => (¬ vL V1 g1 = true → K g1 V1) ∧ (vL V1 g1 = true → (g1 ≠ 0 ∧ g1 ≠ 6) ∧ (vMV E (d - 1) M_X9_renew [sl g1 19, sl g1 0] V1 (fun V4 => K g1 V4))))) : vMP E d M_X11_scored [sl 0 28, wi x1] V K := by
  intro G A hR
  obtain ⟨L, P, rfl, hS⟩ := hR
  have hx := Xt.refl (V := pl G A L P) (A := A)
  show wpM E d M_X11_scored [vr (A 0 28), vi x1] G _
  refine wpM_of mk_X11_scored (Nat.le_of_ble_eq_true rfl) ?_
  refine v_X11_scored_0 h0 ?_
  refine ⟨hS.o (s0_28 hS), ?_⟩
  refine wpM.mono (h G A ⟨L, P, rfl, hS⟩) (fun rr1 G1 hr => ?_)
  obtain ⟨A1, W1, w1, ⟨L1, P1, rfl, hS1⟩, hy1, rfl, g1, rfl, h⟩ := hr
  refine ⟨A1 g1 0, rfl, ?_⟩
  have hx1 := Xt.trans hx hy1
  have ee2 : A1 0 28 = A 0 28 := hy1.2 _ _ hS.1.1 (((n0_28 hS1)).trans ((n0_28 hS)).symm)
  try rw [← ee2]
  refine ⟨fun hc => ?_, fun hc => ?_⟩
  · have h := h.1 ((hS1.null (nf_pos _)).mp hc)
    exact qx_p hS1 hx1 h
  · have h := h.2 (hS1.lv0 hc)
    obtain ⟨hw, h⟩ := h
    have hg3 : PG L1 g1 := ⟨hS1.lv0 hc, hw⟩
    refine ⟨hS1.o (sP_0 hg3), ?_⟩
    rw [lP_0_6 hS1 hg3]
    refine ⟨hS1.o (sP_19 hg3), ?_⟩
    refine wpM.mono (h G1 A1 ⟨L1, P1, rfl, hS1⟩) (fun rr4 G4 hr => ?_)
    obtain ⟨A4, W4, w4, ⟨L4, P4, rfl, hS4⟩, hy4, rfl, rfl, h⟩ := hr
    refine ⟨rfl, ?_⟩
    have hx4 := Xt.trans hx1 hy4
    have hg5 : PG L4 g1 := PG.up hy4 hg3
    have ee6 : A4 0 28 = A1 0 28 := hy4.2 _ _ hS1.1.1 (((n0_28 hS4)).trans ((n0_28 hS1)).symm)
    try rw [← ee6]
    have ee7 : A4 g1 0 = A1 g1 0 := hy4.2 _ _ hg3.1 (((nP_0 hS4 hg5)).trans ((nP_0 hS1 hg3)).symm)
    try rw [← ee7]
    exact qx_p hS4 hx4 h
theorem w_X11_check_0 {E : EE} {d : Nat} {V : VH} {K : Int32 → VH → Prop} {x1 : Int32}  (h0 : 0 < d) (h : vMP E (d - 1) M_X11_scored [sl 0 28, wi x1] V (fun g1 V1 => (vL V1 g1 = true → (g1 ≠ 0 ∧ g1 ≠ 6) ∧ (vMI E (d - 1) M_X4_isRight [sl 0 20, sl g1 0, sl 0 0] V1 (fun r4 V4 => ∀ V8 : VH, V8 = wrI V4 0 28 9 (vI V4 0 2 10) → (r4 = 0 → K ((-1) - (vI V8 0 2 11)) V8) ∧ (¬ (r4 = 0) → K 0 V8)))) ∧ (¬ vL V1 g1 = true → K (-100000) V1))) : vMI E d M_X11_check [sl 0 28, wi x1] V K := by
  intro G A hR
  obtain ⟨L, P, rfl, hS⟩ := hR
  have hx := Xt.refl (V := pl G A L P) (A := A)
  show wpM E d M_X11_check [vr (A 0 28), vi x1] G _
  refine wpM_of mk_X11_check (Nat.le_of_ble_eq_true rfl) ?_
  refine v_X11_check_0 h0 ?_
  refine ⟨hS.o (s0_28 hS), ?_⟩
  refine wpM.mono (h G A ⟨L, P, rfl, hS⟩) (fun rr1 G1 hr => ?_)
  obtain ⟨A1, W1, w1, ⟨L1, P1, rfl, hS1⟩, hy1, rfl, g1, rfl, h⟩ := hr
  refine ⟨A1 g1 0, rfl, ?_⟩
  have hx1 := Xt.trans hx hy1
  have ee2 : A1 0 28 = A 0 28 := hy1.2 _ _ hS.1.1 (((n0_28 hS1)).trans ((n0_28 hS)).symm)
  try rw [← ee2]
  refine ⟨fun hc => ?_, fun hc => ?_⟩
  · have h := h.1 (hS1.lv0 hc)
    obtain ⟨hw, h⟩ := h
    have hg3 : PG L1 g1 := ⟨hS1.lv0 hc, hw⟩
    refine ⟨hS1.o (s0_28 hS1), ?_⟩
    rw [l0_28_6 hS1]
    rw [l0_28_0 hS1]
    refine ⟨hS1.o (s0_20 hS1), ?_⟩
    refine wpM.mono (h G1 A1 ⟨L1, P1, rfl, hS1⟩) (fun rr4 G4 hr => ?_)
    obtain ⟨A4, W4, w4, ⟨L4, P4, rfl, hS4⟩, hy4, rfl, r4, rfl, h⟩ := hr
    refine ⟨r4, rfl, ?_⟩
    have hx4 := Xt.trans hx1 hy4
    have hg5 : PG L4 g1 := PG.up hy4 hg3
    have ee6 : A4 0 28 = A1 0 28 := hy4.2 _ _ hS1.1.1 (((n0_28 hS4)).trans ((n0_28 hS1)).symm)
    try rw [← ee6]
    have ee7 : A4 g1 0 = A1 g1 0 := hy4.2 _ _ hg3.1 (((nP_0 hS4 hg5)).trans ((nP_0 hS1 hg3)).symm)
    try rw [← ee7]
    refine ⟨hS4.o (s0_28 hS4), ?_⟩
    rw [l0_28_1 hS4]
    refine ⟨hS4.o (s0_2 hS4), ?_⟩
    have hS8 : Sh E (sI G4 (A4 0 28) 9 (gI G4 (A4 0 2) 10)) A4 L4 P4 := Sh_sI (rfl : sI G4 (A4 0 28) 9 (gI G4 (A4 0 2) 10) = sI G4 (A4 0 28) 9 (gI G4 (A4 0 2) 10)) hS4 (s0_28 hS4) (okT_0 rfl)
    have h := h (pl (sI G4 (A4 0 28) 9 (gI G4 (A4 0 2) 10)) A4 L4 P4) (pl_sI (rfl : sI G4 (A4 0 28) 9 (gI G4 (A4 0 2) 10) = sI G4 (A4 0 28) 9 (gI G4 (A4 0 2) 10)) hS4 (s0_28 hS4))
    have hx8 : Xt (pl G A L P) A (pl (sI G4 (A4 0 28) 9 (gI G4 (A4 0 2) 10)) A4 L4 P4) A4 := Xt_sI (rfl : sI G4 (A4 0 28) 9 (gI G4 (A4 0 2) 10) = sI G4 (A4 0 28) 9 (gI G4 (A4 0 2) 10)) hx4
    refine ⟨fun hc => ?_, fun hc => ?_⟩
    · have h := h.1 hc
      exact qx_i hS8 hx8 h
    · have h := h.2 hc
      exact qx_i hS8 hx8 h
  · have h := h.2 ((hS1.null (nf_pos _)).mp hc)
    exact qx_i hS1 hx1 h
theorem w_X11_searched_0 {E : EE} {d : Nat} {V : VH} {K : Int32 → VH → Prop} {x1 : Int32}  (h : (¬ (vI V 0 16 0) = 0 → (x1 = 0 → K (vI V 0 16 1) V) ∧ ((x1 = 1 → K (vI V 0 16 2) V) ∧ ((x1 = 2 → K (vI V 0 16 3) V) ∧ ((¬ x1 = 0 → ¬ x1 = 1 → ¬ x1 = 2 → K (-1) V))))) ∧ ((vI V 0 16 0) = 0 → K (-1) V)) : vMI E d M_X11_searched [sl 0 28, wi x1] V K := by
  intro G A hR
  obtain ⟨L, P, rfl, hS⟩ := hR
  have hx := Xt.refl (V := pl G A L P) (A := A)
  show wpM E d M_X11_searched [vr (A 0 28), vi x1] G _
  refine wpM_of mk_X11_searched (Nat.le_of_ble_eq_true rfl) ?_
  refine v_X11_searched_0 ?_
  refine ⟨hS.o (s0_28 hS), ?_⟩
  rw [l0_28_5 hS]
  refine ⟨hS.o (s0_16 hS), ?_⟩
  refine ⟨fun hc => ?_, fun hc => ?_⟩
  · have h := h.1 hc
    refine ⟨fun hc => ?_, ?_⟩
    · have h := h.1 hc
      exact qx_i hS hx h
    have h := h.2
    refine ⟨fun hc => ?_, ?_⟩
    · have h := h.1 hc
      exact qx_i hS hx h
    have h := h.2
    refine ⟨fun hc => ?_, ?_⟩
    · have h := h.1 hc
      exact qx_i hS hx h
    have h := h.2
    intro q0 q1 q2
    have h := h q0 q1 q2
    exact qx_i hS hx h
  · have h := h.2 hc
    exact qx_i hS hx h
theorem w_X11_search_0 {E : EE} {d : Nat} {V : VH} {K : Int32 → VH → Prop} {x1 : Int32} {x2 : Int32} {x3 : Int32} {x4 : Int32} {x5 : Int32}  (h0 : 0 < d) (h : vMP E (d - 1) M_X11_known [sl 0 28, wi x1] V (fun g1 V1 => (¬ vL V1 g1 = true → K (-1) V1) ∧ (vL V1 g1 = true → (g1 ≠ 0 ∧ g1 ≠ 6) ∧ ((x5 < 0 → K (-1) V1) ∧ (¬ (x5 < 0) → (2000 < x5 → K (-1) V1) ∧ (¬ (2000 < x5) → vMI E (d - 1) M_X6_mayBe [wi x2, wi x3] V1 (fun r4 V4 => (¬ r4 = 0 → vMI E (d - 1) M_X6_seek [sl 0 16, sl g1 0, wi x2, wi x3, wi x4, wi x5] V4 (fun r8 V8 => K r8 V8)) ∧ (r4 = 0 → K (-1) V4)))))))) : vMI E d M_X11_search [sl 0 28, wi x1, wi x2, wi x3, wi x4, wi x5] V K := by
  intro G A hR
  obtain ⟨L, P, rfl, hS⟩ := hR
  have hx := Xt.refl (V := pl G A L P) (A := A)
  show wpM E d M_X11_search [vr (A 0 28), vi x1, vi x2, vi x3, vi x4, vi x5] G _
  refine wpM_of mk_X11_search (Nat.le_of_ble_eq_true rfl) ?_
  refine v_X11_search_0 h0 ?_
  refine ⟨hS.o (s0_28 hS), ?_⟩
  refine wpM.mono (h G A ⟨L, P, rfl, hS⟩) (fun rr1 G1 hr => ?_)
  obtain ⟨A1, W1, w1, ⟨L1, P1, rfl, hS1⟩, hy1, rfl, g1, rfl, h⟩ := hr
  refine ⟨A1 g1 0, rfl, ?_⟩
  have hx1 := Xt.trans hx hy1
  have ee2 : A1 0 28 = A 0 28 := hy1.2 _ _ hS.1.1 (((n0_28 hS1)).trans ((n0_28 hS)).symm)
  try rw [← ee2]
  refine ⟨fun hc => ?_, fun hc => ?_⟩
  · have h := h.1 ((hS1.null (nf_pos _)).mp hc)
    exact qx_i hS1 hx1 h
  · have h := h.2 (hS1.lv0 hc)
    obtain ⟨hw, h⟩ := h
    have hg3 : PG L1 g1 := ⟨hS1.lv0 hc, hw⟩
    refine ⟨fun hc => ?_, fun hc => ?_⟩
    · have h := h.1 hc
      exact qx_i hS1 hx1 h
    · have h := h.2 hc
      refine ⟨fun hc => ?_, fun hc => ?_⟩
      · have h := h.1 hc
        exact qx_i hS1 hx1 h
      · have h := h.2 hc
        refine wpM.mono (h G1 A1 ⟨L1, P1, rfl, hS1⟩) (fun rr4 G4 hr => ?_)
        obtain ⟨A4, W4, w4, ⟨L4, P4, rfl, hS4⟩, hy4, rfl, r4, rfl, h⟩ := hr
        refine ⟨r4, rfl, ?_⟩
        have hx4 := Xt.trans hx1 hy4
        have hg5 : PG L4 g1 := PG.up hy4 hg3
        have ee6 : A4 0 28 = A1 0 28 := hy4.2 _ _ hS1.1.1 (((n0_28 hS4)).trans ((n0_28 hS1)).symm)
        try rw [← ee6]
        have ee7 : A4 g1 0 = A1 g1 0 := hy4.2 _ _ hg3.1 (((nP_0 hS4 hg5)).trans ((nP_0 hS1 hg3)).symm)
        try rw [← ee7]
        refine ⟨fun hc => ?_, fun hc => ?_⟩
        · have h := h.1 hc
          refine ⟨hS4.o (s0_28 hS4), ?_⟩
          rw [l0_28_5 hS4]
          refine ⟨hS4.o (s0_16 hS4), ?_⟩
          refine wpM.mono (h G4 A4 ⟨L4, P4, rfl, hS4⟩) (fun rr8 G8 hr => ?_)
          obtain ⟨A8, W8, w8, ⟨L8, P8, rfl, hS8⟩, hy8, rfl, r8, rfl, h⟩ := hr
          refine ⟨r8, rfl, ?_⟩
          have hx8 := Xt.trans hx4 hy8
          have hg9 : PG L8 g1 := PG.up hy8 hg5
          have ee10 : A8 0 28 = A4 0 28 := hy8.2 _ _ hS4.1.1 (((n0_28 hS8)).trans ((n0_28 hS4)).symm)
          try rw [← ee10]
          have ee11 : A8 g1 0 = A4 g1 0 := hy8.2 _ _ hg5.1 (((nP_0 hS8 hg9)).trans ((nP_0 hS4 hg5)).symm)
          try rw [← ee11]
          exact qx_i hS8 hx8 h
        · have h := h.2 hc
          exact qx_i hS4 hx4 h
theorem w_X11_regret_0 {E : EE} {d : Nat} {V : VH} {K : Int64 → VH → Prop} {x1 : Int32} {x2 : Int32}  (h0 : 0 < d) (h : vMP E (d - 1) M_X11_known [sl 0 28, wi x1] V (fun g1 V1 => (¬ vL V1 g1 = true → K (-9223372036854775808) V1) ∧ (vL V1 g1 = true → (g1 ≠ 0 ∧ g1 ≠ 6) ∧ (((vI V1 g1 0 11) = 0 → K (-9223372036854775808) V1) ∧ (¬ ((vI V1 g1 0 11) = 0) → vMI E (d - 1) M_X11_isLevel [wi x2] V1 (fun r4 V4 => (¬ r4 = 0 → vwp E d M_X11_regret 36 [some (sl 0 28), some (wi x1), some (wi x2), some (sl g1 0), some (wj (-9223372036854775808)), none, some (wi 0), none, none] [] V4 (zj K)) ∧ (r4 = 0 → K (-9223372036854775808) V4))))))) : vMJ E d M_X11_regret [sl 0 28, wi x1, wi x2] V K := by
  intro G A hR
  obtain ⟨L, P, rfl, hS⟩ := hR
  have hx := Xt.refl (V := pl G A L P) (A := A)
  show wpM E d M_X11_regret [vr (A 0 28), vi x1, vi x2] G _
  refine wpM_of mk_X11_regret (Nat.le_of_ble_eq_true rfl) ?_
  refine v_X11_regret_0 h0 ?_
  refine ⟨hS.o (s0_28 hS), ?_⟩
  refine wpM.mono (h G A ⟨L, P, rfl, hS⟩) (fun rr1 G1 hr => ?_)
  obtain ⟨A1, W1, w1, ⟨L1, P1, rfl, hS1⟩, hy1, rfl, g1, rfl, h⟩ := hr
  refine ⟨A1 g1 0, rfl, ?_⟩
  have hx1 := Xt.trans hx hy1
  have ee2 : A1 0 28 = A 0 28 := hy1.2 _ _ hS.1.1 (((n0_28 hS1)).trans ((n0_28 hS)).symm)
  try rw [← ee2]
  refine ⟨fun hc => ?_, fun hc => ?_⟩
  · have h := h.1 ((hS1.null (nf_pos _)).mp hc)
    exact qx_j hS1 hx1 h
  · have h := h.2 (hS1.lv0 hc)
    obtain ⟨hw, h⟩ := h
    have hg3 : PG L1 g1 := ⟨hS1.lv0 hc, hw⟩
    refine ⟨hS1.o (sP_0 hg3), ?_⟩
    refine ⟨fun hc => ?_, fun hc => ?_⟩
    · have h := h.1 hc
      exact qx_j hS1 hx1 h
    · have h := h.2 hc
      refine wpM.mono (h G1 A1 ⟨L1, P1, rfl, hS1⟩) (fun rr4 G4 hr => ?_)
      obtain ⟨A4, W4, w4, ⟨L4, P4, rfl, hS4⟩, hy4, rfl, r4, rfl, h⟩ := hr
      refine ⟨r4, rfl, ?_⟩
      have hx4 := Xt.trans hx1 hy4
      have hg5 : PG L4 g1 := PG.up hy4 hg3
      have ee6 : A4 0 28 = A1 0 28 := hy4.2 _ _ hS1.1.1 (((n0_28 hS4)).trans ((n0_28 hS1)).symm)
      try rw [← ee6]
      have ee7 : A4 g1 0 = A1 g1 0 := hy4.2 _ _ hg3.1 (((nP_0 hS4 hg5)).trans ((nP_0 hS1 hg3)).symm)
      try rw [← ee7]
      refine ⟨fun hc => ?_, fun hc => ?_⟩
      · have h := h.1 hc
        exact wp.mono (h G4 A4 ⟨L4, P4, rfl, hS4⟩) (fun r G' q => qx_trans hx4 q)
      · have h := h.2 hc
        exact qx_j hS4 hx4 h
theorem w_X11_regret_36 {E : EE} {d : Nat} {V : VH} {K : Int64 → VH → Prop} {x1 : Int32} {x2 : Int32} {g : Nat} {x4 : Int64} {x6 : Int32} (hg : PG (vL V) g) (h0 : 0 < d) (h : ((vI V g 0 11) ≤ x6 → K x4 V) ∧ (¬ ((vI V g 0 11) ≤ x6) → vMJ E (d - 1) M_X3_regretIn [sl g 0, wi x6, wi x2] V (fun r1 V1 => (¬ r1 = (-9223372036854775808) → vwp E d M_X11_regret 36 [some (sl 0 28), some (wi x1), some (wi x2), some (sl g 0), some (wj (lmax x4 r1)), none, some (wi (x6 + 1)), none, none] [] V1 (zj K)) ∧ (r1 = (-9223372036854775808) → K (-9223372036854775808) V1)))) : vwp E d M_X11_regret 36 [some (sl 0 28), some (wi x1), some (wi x2), some (sl g 0), some (wj x4), none, some (wi x6), none, none] [] V (zj K) := by
  intro G A hR
  obtain ⟨L, P, rfl, hS⟩ := hR
  have hx := Xt.refl (V := pl G A L P) (A := A)
  show wp E d M_X11_regret 36 [some (vr (A 0 28)), some (vi x1), some (vi x2), some (vr (A g 0)), some (vj x4), none, some (vi x6), none, none] [] G _
  refine v_X11_regret_36 h0 ?_
  refine ⟨hS.o (sP_0 hg), ?_⟩
  refine ⟨fun hc => ?_, fun hc => ?_⟩
  · have h := h.1 hc
    exact qx_j hS hx h
  · have h := h.2 hc
    refine wpM.mono (h G A ⟨L, P, rfl, hS⟩) (fun rr1 G1 hr => ?_)
    obtain ⟨A1, W1, w1, ⟨L1, P1, rfl, hS1⟩, hy1, rfl, r1, rfl, h⟩ := hr
    refine ⟨r1, rfl, ?_⟩
    have hx1 := Xt.trans hx hy1
    have hg2 : PG L1 g := PG.up hy1 hg
    have ee3 : A1 0 28 = A 0 28 := hy1.2 _ _ hS.1.1 (((n0_28 hS1)).trans ((n0_28 hS)).symm)
    try rw [← ee3]
    have ee4 : A1 g 0 = A g 0 := hy1.2 _ _ hg.1 (((nP_0 hS1 hg2)).trans ((nP_0 hS hg)).symm)
    try rw [← ee4]
    refine ⟨fun hc => ?_, fun hc => ?_⟩
    · have h := h.1 hc
      exact wp.mono (h G1 A1 ⟨L1, P1, rfl, hS1⟩) (fun r G' q => qx_trans hx1 q)
    · have h := h.2 hc
      exact qx_j hS1 hx1 h
theorem w_X11_isLevel_0 {E : EE} {d : Nat} {V : VH} {K : Int32 → VH → Prop} {x0 : Int32}  (h : (x0 < 0 → K 0 V) ∧ (¬ (x0 < 0) → (3 ≤ x0 → K 0 V) ∧ (¬ (3 ≤ x0) → K 1 V))) : vMI E d M_X11_isLevel [wi x0] V K := by
  intro G A hR
  obtain ⟨L, P, rfl, hS⟩ := hR
  have hx := Xt.refl (V := pl G A L P) (A := A)
  show wpM E d M_X11_isLevel [vi x0] G _
  refine wpM_of mk_X11_isLevel (Nat.le_of_ble_eq_true rfl) ?_
  refine v_X11_isLevel_0 ?_
  refine ⟨fun hc => ?_, fun hc => ?_⟩
  · have h := h.1 hc
    exact qx_i hS hx h
  · have h := h.2 hc
    refine ⟨fun hc => ?_, fun hc => ?_⟩
    · have h := h.1 hc
      exact qx_i hS hx h
    · have h := h.2 hc
      exact qx_i hS hx h
theorem w_X11_expected_0 {E : EE} {d : Nat} {V : VH} {K : Int64 → VH → Prop} {x1 : Int32} {x2 : Int32}  (h0 : 0 < d) (h : vMP E (d - 1) M_X11_known [sl 0 28, wi x1] V (fun g1 V1 => (¬ vL V1 g1 = true → K (-9223372036854775808) V1) ∧ (vL V1 g1 = true → (g1 ≠ 0 ∧ g1 ≠ 6) ∧ (((vI V1 g1 0 11) = 0 → K (-9223372036854775808) V1) ∧ (¬ ((vI V1 g1 0 11) = 0) → vMI E (d - 1) M_X11_isLevel [wi x2] V1 (fun r4 V4 => (¬ r4 = 0 → vMI E (d - 1) M_X3_sumOverFutures [sl g1 0, wi (vI V4 g1 0 8)] V4 (fun r8 V8 => vp_in x2 3 ∧ (vMI E (d - 1) M_X3_allOdds [sl g1 0] V8 (fun r13 V13 => vMV E (d - 1) M_X11_show [sl 0 28, wj (vJ V8 g1 28 (Int32.toNatClampNeg x2)), wj (Int32.toInt64 r13)] V13 (fun V17 => vp_in x2 3 ∧ (K (vJ V17 g1 28 (Int32.toNatClampNeg x2)) V17)))))) ∧ (r4 = 0 → K (-9223372036854775808) V4))))))) : vMJ E d M_X11_expected [sl 0 28, wi x1, wi x2] V K := by
  intro G A hR
  obtain ⟨L, P, rfl, hS⟩ := hR
  have hx := Xt.refl (V := pl G A L P) (A := A)
  show wpM E d M_X11_expected [vr (A 0 28), vi x1, vi x2] G _
  refine wpM_of mk_X11_expected (Nat.le_of_ble_eq_true rfl) ?_
  refine v_X11_expected_0 h0 ?_
  refine ⟨hS.o (s0_28 hS), ?_⟩
  refine wpM.mono (h G A ⟨L, P, rfl, hS⟩) (fun rr1 G1 hr => ?_)
  obtain ⟨A1, W1, w1, ⟨L1, P1, rfl, hS1⟩, hy1, rfl, g1, rfl, h⟩ := hr
  refine ⟨A1 g1 0, rfl, ?_⟩
  have hx1 := Xt.trans hx hy1
  have ee2 : A1 0 28 = A 0 28 := hy1.2 _ _ hS.1.1 (((n0_28 hS1)).trans ((n0_28 hS)).symm)
  try rw [← ee2]
  refine ⟨fun hc => ?_, fun hc => ?_⟩
  · have h := h.1 ((hS1.null (nf_pos _)).mp hc)
    exact qx_j hS1 hx1 h
  · have h := h.2 (hS1.lv0 hc)
    obtain ⟨hw, h⟩ := h
    have hg3 : PG L1 g1 := ⟨hS1.lv0 hc, hw⟩
    refine ⟨hS1.o (sP_0 hg3), ?_⟩
    refine ⟨fun hc => ?_, fun hc => ?_⟩
    · have h := h.1 hc
      exact qx_j hS1 hx1 h
    · have h := h.2 hc
      refine wpM.mono (h G1 A1 ⟨L1, P1, rfl, hS1⟩) (fun rr4 G4 hr => ?_)
      obtain ⟨A4, W4, w4, ⟨L4, P4, rfl, hS4⟩, hy4, rfl, r4, rfl, h⟩ := hr
      refine ⟨r4, rfl, ?_⟩
      have hx4 := Xt.trans hx1 hy4
      have hg5 : PG L4 g1 := PG.up hy4 hg3
      have ee6 : A4 0 28 = A1 0 28 := hy4.2 _ _ hS1.1.1 (((n0_28 hS4)).trans ((n0_28 hS1)).symm)
      try rw [← ee6]
      have ee7 : A4 g1 0 = A1 g1 0 := hy4.2 _ _ hg3.1 (((nP_0 hS4 hg5)).trans ((nP_0 hS1 hg3)).symm)
      try rw [← ee7]
      refine ⟨fun hc => ?_, fun hc => ?_⟩
      · have h := h.1 hc
        refine ⟨hS4.o (sP_0 hg5), ?_⟩
        refine wpM.mono (h G4 A4 ⟨L4, P4, rfl, hS4⟩) (fun rr8 G8 hr => ?_)
        obtain ⟨A8, W8, w8, ⟨L8, P8, rfl, hS8⟩, hy8, rfl, r8, rfl, h⟩ := hr
        refine ⟨r8, rfl, ?_⟩
        have hx8 := Xt.trans hx4 hy8
        have hg9 : PG L8 g1 := PG.up hy8 hg5
        have ee10 : A8 0 28 = A4 0 28 := hy8.2 _ _ hS4.1.1 (((n0_28 hS8)).trans ((n0_28 hS4)).symm)
        try rw [← ee10]
        have ee11 : A8 g1 0 = A4 g1 0 := hy8.2 _ _ hg5.1 (((nP_0 hS8 hg9)).trans ((nP_0 hS4 hg5)).symm)
        try rw [← ee11]
        refine ⟨hS8.o (sP_0 hg9), ?_⟩
        rw [lP_0_15 hS8 hg9]
        refine ⟨hS8.o (sP_28 hg9), ?_⟩
        obtain ⟨hi12, h⟩ := h
        refine ⟨by first | (rw [(nP_28 hS8 hg9)]; exact hi12) | exact (congrArg (vp_in _) (nP_28 hS8 hg9)).mpr hi12 | exact hi12, ?_⟩
        refine wpM.mono (h G8 A8 ⟨L8, P8, rfl, hS8⟩) (fun rr13 G13 hr => ?_)
        obtain ⟨A13, W13, w13, ⟨L13, P13, rfl, hS13⟩, hy13, rfl, r13, rfl, h⟩ := hr
        refine ⟨r13, rfl, ?_⟩
        have hx13 := Xt.trans hx8 hy13
        have hg14 : PG L13 g1 := PG.up hy13 hg9
        have ee15 : A13 0 28 = A8 0 28 := hy13.2 _ _ hS8.1.1 (((n0_28 hS13)).trans ((n0_28 hS8)).symm)
        try rw [← ee15]
        have ee16 : A13 g1 0 = A8 g1 0 := hy13.2 _ _ hg9.1 (((nP_0 hS13 hg14)).trans ((nP_0 hS8 hg9)).symm)
        try rw [← ee16]
        refine ⟨hS13.o (s0_28 hS13), ?_⟩
        refine wpM.mono (h G13 A13 ⟨L13, P13, rfl, hS13⟩) (fun rr17 G17 hr => ?_)
        obtain ⟨A17, W17, w17, ⟨L17, P17, rfl, hS17⟩, hy17, rfl, rfl, h⟩ := hr
        refine ⟨rfl, ?_⟩
        have hx17 := Xt.trans hx13 hy17
        have hg18 : PG L17 g1 := PG.up hy17 hg14
        have ee19 : A17 0 28 = A13 0 28 := hy17.2 _ _ hS13.1.1 (((n0_28 hS17)).trans ((n0_28 hS13)).symm)
        try rw [← ee19]
        have ee20 : A17 g1 0 = A13 g1 0 := hy17.2 _ _ hg14.1 (((nP_0 hS17 hg18)).trans ((nP_0 hS13 hg14)).symm)
        try rw [← ee20]
        refine ⟨hS17.o (sP_0 hg18), ?_⟩
        rw [lP_0_15 hS17 hg18]
        refine ⟨hS17.o (sP_28 hg18), ?_⟩
        obtain ⟨hi21, h⟩ := h
        refine ⟨by first | (rw [(nP_28 hS17 hg18)]; exact hi21) | exact (congrArg (vp_in _) (nP_28 hS17 hg18)).mpr hi21 | exact hi21, ?_⟩
        exact qx_j hS17 hx17 h
      · have h := h.2 hc
        exact qx_j hS4 hx4 h
theorem w_X11_show_0 {E : EE} {d : Nat} {V : VH} {K : VH → Prop} {x1 : Int64} {x3 : Int64}  (h0 : 0 < d) (h : vwp E d M_X11_show 12 [some (sl 0 28), some (wj x1), none, some (wj x3), none, some (wj (labs x1)), none, some (wj x3), none, some (wi 0), none, none] [] V (zv K)) : vMV E d M_X11_show [sl 0 28, wj x1, wj x3] V K := by
  intro G A hR
  obtain ⟨L, P, rfl, hS⟩ := hR
  have hx := Xt.refl (V := pl G A L P) (A := A)
  show wpM E d M_X11_show [vr (A 0 28), vj x1, vj x3] G _
  refine wpM_of mk_X11_show (Nat.le_of_ble_eq_true rfl) ?_
  refine v_X11_show_0 h0 ?_
  exact wp.mono (h G A ⟨L, P, rfl, hS⟩) (fun r G' q => qx_trans hx q)
theorem w_X11_show_12 {E : EE} {d : Nat} {V : VH} {K : VH → Prop} {x1 : Int64} {x3 : Int64} {x5 : Int64} {x7 : Int64} {x9 : Int32}  (h : (200 ≤ x9 → vwp E d M_X11_show 48 [some (sl 0 28), some (wj x1), none, some (wj x3), none, some (wj x5), none, some (wj x7), none, some (wi x9), none, none] [] V (zv K)) ∧ (¬ (200 ≤ x9) → (x7 = 0 → vwp E d M_X11_show 48 [some (sl 0 28), some (wj x1), none, some (wj x3), none, some (wj x5), none, some (wj x7), none, some (wi x9), none, none] [] V (zv K)) ∧ (¬ (x7 = 0) → ¬ x7 = 0 ∧ (vwp E d M_X11_show 12 [some (sl 0 28), some (wj x1), none, some (wj x3), none, some (wj x7), none, some (wj (x5 - x5 / x7 * x7)), none, some (wi (x9 + 1)), none, none] [] V (zv K))))) : vwp E d M_X11_show 12 [some (sl 0 28), some (wj x1), none, some (wj x3), none, some (wj x5), none, some (wj x7), none, some (wi x9), none, none] [] V (zv K) := by
  intro G A hR
  obtain ⟨L, P, rfl, hS⟩ := hR
  have hx := Xt.refl (V := pl G A L P) (A := A)
  show wp E d M_X11_show 12 [some (vr (A 0 28)), some (vj x1), none, some (vj x3), none, some (vj x5), none, some (vj x7), none, some (vi x9), none, none] [] G _
  refine v_X11_show_12 ?_
  refine ⟨fun hc => ?_, fun hc => ?_⟩
  · have h := h.1 hc
    exact wp.mono (h G A ⟨L, P, rfl, hS⟩) (fun r G' q => qx_trans hx q)
  · have h := h.2 hc
    refine ⟨fun hc => ?_, fun hc => ?_⟩
    · have h := h.1 hc
      exact wp.mono (h G A ⟨L, P, rfl, hS⟩) (fun r G' q => qx_trans hx q)
    · have h := h.2 hc
      obtain ⟨hz1, h⟩ := h
      refine ⟨hz1, ?_⟩
      exact wp.mono (h G A ⟨L, P, rfl, hS⟩) (fun r G' q => qx_trans hx q)
theorem w_X11_show_48 {E : EE} {d : Nat} {V : VH} {K : VH → Prop} {x1 : Int64} {x3 : Int64} {x5 : Int64} {x7 : Int64} {x9 : Int32}  (h : (x3 = 0 → vwp E d M_X11_show 62 [some (sl 0 28), some (wj x1), none, some (wj x3), none, some (wj x5), none, some (wj x7), none, some (wi x9), none, none] [sl 0 28] V (zv K)) ∧ (¬ (x3 = 0) → (¬ x5 = 0 → ¬ x5 = 0 ∧ (vwp E d M_X11_show 70 [some (sl 0 28), some (wj x1), none, some (wj x3), none, some (wj x5), none, some (wj x7), none, some (wi x9), none, none] [wj (x1 / x5), sl 0 28] V (zv K))) ∧ (x5 = 0 → vwp E d M_X11_show 62 [some (sl 0 28), some (wj x1), none, some (wj x3), none, some (wj x5), none, some (wj x7), none, some (wi x9), none, none] [sl 0 28] V (zv K)))) : vwp E d M_X11_show 48 [some (sl 0 28), some (wj x1), none, some (wj x3), none, some (wj x5), none, some (wj x7), none, some (wi x9), none, none] [] V (zv K) := by
  intro G A hR
  obtain ⟨L, P, rfl, hS⟩ := hR
  have hx := Xt.refl (V := pl G A L P) (A := A)
  show wp E d M_X11_show 48 [some (vr (A 0 28)), some (vj x1), none, some (vj x3), none, some (vj x5), none, some (vj x7), none, some (vi x9), none, none] [] G _
  refine v_X11_show_48 ?_
  refine ⟨fun hc => ?_, fun hc => ?_⟩
  · have h := h.1 hc
    exact wp.mono (h G A ⟨L, P, rfl, hS⟩) (fun r G' q => qx_trans hx q)
  · have h := h.2 hc
    refine ⟨fun hc => ?_, fun hc => ?_⟩
    · have h := h.1 hc
      obtain ⟨hz1, h⟩ := h
      refine ⟨hz1, ?_⟩
      exact wp.mono (h G A ⟨L, P, rfl, hS⟩) (fun r G' q => qx_trans hx q)
    · have h := h.2 hc
      exact wp.mono (h G A ⟨L, P, rfl, hS⟩) (fun r G' q => qx_trans hx q)
theorem w_X11_show_62 {E : EE} {d : Nat} {V : VH} {K : VH → Prop} {x1 : Int64} {x3 : Int64} {x5 : Int64} {x7 : Int64} {x9 : Int32}  (h : vwp E d M_X11_show 70 [some (sl 0 28), some (wj x1), none, some (wj x3), none, some (wj x5), none, some (wj x7), none, some (wi x9), none, none] [wj 0, sl 0 28] V (zv K)) : vwp E d M_X11_show 62 [some (sl 0 28), some (wj x1), none, some (wj x3), none, some (wj x5), none, some (wj x7), none, some (wi x9), none, none] [sl 0 28] V (zv K) := by
  intro G A hR
  obtain ⟨L, P, rfl, hS⟩ := hR
  have hx := Xt.refl (V := pl G A L P) (A := A)
  show wp E d M_X11_show 62 [some (vr (A 0 28)), some (vj x1), none, some (vj x3), none, some (vj x5), none, some (vj x7), none, some (vi x9), none, none] [vr (A 0 28)] G _
  refine v_X11_show_62 ?_
  exact wp.mono (h G A ⟨L, P, rfl, hS⟩) (fun r G' q => qx_trans hx q)
theorem w_X11_show_70 {E : EE} {d : Nat} {V : VH} {K : VH → Prop} {x1 : Int64} {x3 : Int64} {x5 : Int64} {x7 : Int64} {x9 : Int32} {t1 : Int64}  (h : ∀ V1 : VH, V1 = wrJ V 0 28 10 t1 → (x3 = 0 → vwp E d M_X11_show 87 [some (sl 0 28), some (wj x1), none, some (wj x3), none, some (wj x5), none, some (wj x7), none, some (wi x9), none, none] [sl 0 28] V1 (zv K)) ∧ (¬ (x3 = 0) → (¬ x5 = 0 → ¬ x5 = 0 ∧ (vwp E d M_X11_show 95 [some (sl 0 28), some (wj x1), none, some (wj x3), none, some (wj x5), none, some (wj x7), none, some (wi x9), none, none] [wj (x3 / x5), sl 0 28] V1 (zv K))) ∧ (x5 = 0 → vwp E d M_X11_show 87 [some (sl 0 28), some (wj x1), none, some (wj x3), none, some (wj x5), none, some (wj x7), none, some (wi x9), none, none] [sl 0 28] V1 (zv K)))) : vwp E d M_X11_show 70 [some (sl 0 28), some (wj x1), none, some (wj x3), none, some (wj x5), none, some (wj x7), none, some (wi x9), none, none] [wj t1, sl 0 28] V (zv K) := by
  intro G A hR
  obtain ⟨L, P, rfl, hS⟩ := hR
  have hx := Xt.refl (V := pl G A L P) (A := A)
  show wp E d M_X11_show 70 [some (vr (A 0 28)), some (vj x1), none, some (vj x3), none, some (vj x5), none, some (vj x7), none, some (vi x9), none, none] [vj t1, vr (A 0 28)] G _
  refine v_X11_show_70 ?_
  refine ⟨hS.o (s0_28 hS), ?_⟩
  have hS1 : Sh E (sJ G (A 0 28) 10 t1) A L P := Sh_sJ (rfl : sJ G (A 0 28) 10 t1 = sJ G (A 0 28) 10 t1) hS
  have h := h (pl (sJ G (A 0 28) 10 t1) A L P) (pl_sJ (rfl : sJ G (A 0 28) 10 t1 = sJ G (A 0 28) 10 t1) hS (s0_28 hS))
  have hx1 : Xt (pl G A L P) A (pl (sJ G (A 0 28) 10 t1) A L P) A := Xt_sJ (rfl : sJ G (A 0 28) 10 t1 = sJ G (A 0 28) 10 t1) hx
  refine ⟨fun hc => ?_, fun hc => ?_⟩
  · have h := h.1 hc
    exact wp.mono (h (sJ G (A 0 28) 10 t1) A ⟨L, P, rfl, hS1⟩) (fun r G' q => qx_trans hx1 q)
  · have h := h.2 hc
    refine ⟨fun hc => ?_, fun hc => ?_⟩
    · have h := h.1 hc
      obtain ⟨hz2, h⟩ := h
      refine ⟨hz2, ?_⟩
      exact wp.mono (h (sJ G (A 0 28) 10 t1) A ⟨L, P, rfl, hS1⟩) (fun r G' q => qx_trans hx1 q)
    · have h := h.2 hc
      exact wp.mono (h (sJ G (A 0 28) 10 t1) A ⟨L, P, rfl, hS1⟩) (fun r G' q => qx_trans hx1 q)
theorem w_X11_show_87 {E : EE} {d : Nat} {V : VH} {K : VH → Prop} {x1 : Int64} {x3 : Int64} {x5 : Int64} {x7 : Int64} {x9 : Int32}  (h : vwp E d M_X11_show 95 [some (sl 0 28), some (wj x1), none, some (wj x3), none, some (wj x5), none, some (wj x7), none, some (wi x9), none, none] [wj 1, sl 0 28] V (zv K)) : vwp E d M_X11_show 87 [some (sl 0 28), some (wj x1), none, some (wj x3), none, some (wj x5), none, some (wj x7), none, some (wi x9), none, none] [sl 0 28] V (zv K) := by
  intro G A hR
  obtain ⟨L, P, rfl, hS⟩ := hR
  have hx := Xt.refl (V := pl G A L P) (A := A)
  show wp E d M_X11_show 87 [some (vr (A 0 28)), some (vj x1), none, some (vj x3), none, some (vj x5), none, some (vj x7), none, some (vi x9), none, none] [vr (A 0 28)] G _
  refine v_X11_show_87 ?_
  exact wp.mono (h G A ⟨L, P, rfl, hS⟩) (fun r G' q => qx_trans hx q)
theorem w_X11_show_95 {E : EE} {d : Nat} {V : VH} {K : VH → Prop} {x1 : Int64} {x3 : Int64} {x5 : Int64} {x7 : Int64} {x9 : Int32} {t1 : Int64}  (h : ∀ V1 : VH, V1 = wrJ V 0 28 11 t1 → K V1) : vwp E d M_X11_show 95 [some (sl 0 28), some (wj x1), none, some (wj x3), none, some (wj x5), none, some (wj x7), none, some (wi x9), none, none] [wj t1, sl 0 28] V (zv K) := by
  intro G A hR
  obtain ⟨L, P, rfl, hS⟩ := hR
  have hx := Xt.refl (V := pl G A L P) (A := A)
  show wp E d M_X11_show 95 [some (vr (A 0 28)), some (vj x1), none, some (vj x3), none, some (vj x5), none, some (vj x7), none, some (vi x9), none, none] [vj t1, vr (A 0 28)] G _
  refine v_X11_show_95 ?_
  refine ⟨hS.o (s0_28 hS), ?_⟩
  have hS1 : Sh E (sJ G (A 0 28) 11 t1) A L P := Sh_sJ (rfl : sJ G (A 0 28) 11 t1 = sJ G (A 0 28) 11 t1) hS
  have h := h (pl (sJ G (A 0 28) 11 t1) A L P) (pl_sJ (rfl : sJ G (A 0 28) 11 t1 = sJ G (A 0 28) 11 t1) hS (s0_28 hS))
  have hx1 : Xt (pl G A L P) A (pl (sJ G (A 0 28) 11 t1) A L P) A := Xt_sJ (rfl : sJ G (A 0 28) 11 t1 = sJ G (A 0 28) 11 t1) hx
  exact qx_v hS1 hx1 h
theorem w_X11_robust_0 {E : EE} {d : Nat} {V : VH} {K : Int32 → VH → Prop} {x1 : Int32}  (h0 : 0 < d) (h : vMP E (d - 1) M_X11_known [sl 0 28, wi x1] V (fun g1 V1 => (vL V1 g1 = true → (g1 ≠ 0 ∧ g1 ≠ 6) ∧ ((¬ (vI V1 g1 0 11) = 0 → vMI E (d - 1) M_X3_mostRobust [sl g1 0] V1 (fun r4 V4 => vwp E d M_X11_robust 27 [some (sl 0 28), some (wi x1), some (sl g1 0), none] [wi r4] V4 (zi K))) ∧ ((vI V1 g1 0 11) = 0 → vwp E d M_X11_robust 27 [some (sl 0 28), some (wi x1), some (sl g1 0), none] [wi (-1)] V1 (zi K)))) ∧ (¬ vL V1 g1 = true → K (-1) V1))) : vMI E d M_X11_robust [sl 0 28, wi x1] V K := by
  intro G A hR
  obtain ⟨L, P, rfl, hS⟩ := hR
  have hx := Xt.refl (V := pl G A L P) (A := A)
  show wpM E d M_X11_robust [vr (A 0 28), vi x1] G _
  refine wpM_of mk_X11_robust (Nat.le_of_ble_eq_true rfl) ?_
  refine v_X11_robust_0 h0 ?_
  refine ⟨hS.o (s0_28 hS), ?_⟩
  refine wpM.mono (h G A ⟨L, P, rfl, hS⟩) (fun rr1 G1 hr => ?_)
  obtain ⟨A1, W1, w1, ⟨L1, P1, rfl, hS1⟩, hy1, rfl, g1, rfl, h⟩ := hr
  refine ⟨A1 g1 0, rfl, ?_⟩
  have hx1 := Xt.trans hx hy1
  have ee2 : A1 0 28 = A 0 28 := hy1.2 _ _ hS.1.1 (((n0_28 hS1)).trans ((n0_28 hS)).symm)
  try rw [← ee2]
  refine ⟨fun hc => ?_, fun hc => ?_⟩
  · have h := h.1 (hS1.lv0 hc)
    obtain ⟨hw, h⟩ := h
    have hg3 : PG L1 g1 := ⟨hS1.lv0 hc, hw⟩
    refine ⟨hS1.o (sP_0 hg3), ?_⟩
    refine ⟨fun hc => ?_, fun hc => ?_⟩
    · have h := h.1 hc
      refine wpM.mono (h G1 A1 ⟨L1, P1, rfl, hS1⟩) (fun rr4 G4 hr => ?_)
      obtain ⟨A4, W4, w4, ⟨L4, P4, rfl, hS4⟩, hy4, rfl, r4, rfl, h⟩ := hr
      refine ⟨r4, rfl, ?_⟩
      have hx4 := Xt.trans hx1 hy4
      have hg5 : PG L4 g1 := PG.up hy4 hg3
      have ee6 : A4 0 28 = A1 0 28 := hy4.2 _ _ hS1.1.1 (((n0_28 hS4)).trans ((n0_28 hS1)).symm)
      try rw [← ee6]
      have ee7 : A4 g1 0 = A1 g1 0 := hy4.2 _ _ hg3.1 (((nP_0 hS4 hg5)).trans ((nP_0 hS1 hg3)).symm)
      try rw [← ee7]
      exact wp.mono (h G4 A4 ⟨L4, P4, rfl, hS4⟩) (fun r G' q => qx_trans hx4 q)
    · have h := h.2 hc
      exact wp.mono (h G1 A1 ⟨L1, P1, rfl, hS1⟩) (fun r G' q => qx_trans hx1 q)
  · have h := h.2 ((hS1.null (nf_pos _)).mp hc)
    exact qx_i hS1 hx1 h
theorem w_X11_robust_27 {E : EE} {d : Nat} {V : VH} {K : Int32 → VH → Prop} {x1 : Int32} {g : Nat} {t0 : Int32} (hg : PG (vL V) g) (h0 : 0 < d) (h : (t0 < 0 → K 0 V) ∧ (¬ (t0 < 0) → vMI E (d - 1) M_X3_moveTo [sl g 0, wi t0] V (fun r1 V1 => (r1 = 0 → K 0 V1) ∧ (¬ (r1 = 0) → K 1 V1)))) : vwp E d M_X11_robust 27 [some (sl 0 28), some (wi x1), some (sl g 0), none] [wi t0] V (zi K) := by
  intro G A hR
  obtain ⟨L, P, rfl, hS⟩ := hR
  have hx := Xt.refl (V := pl G A L P) (A := A)
  show wp E d M_X11_robust 27 [some (vr (A 0 28)), some (vi x1), some (vr (A g 0)), none] [vi t0] G _
  refine v_X11_robust_27 h0 ?_
  refine ⟨fun hc => ?_, fun hc => ?_⟩
  · have h := h.1 hc
    exact qx_i hS hx h
  · have h := h.2 hc
    refine ⟨hS.o (sP_0 hg), ?_⟩
    refine wpM.mono (h G A ⟨L, P, rfl, hS⟩) (fun rr1 G1 hr => ?_)
    obtain ⟨A1, W1, w1, ⟨L1, P1, rfl, hS1⟩, hy1, rfl, r1, rfl, h⟩ := hr
    refine ⟨r1, rfl, ?_⟩
    have hx1 := Xt.trans hx hy1
    have hg2 : PG L1 g := PG.up hy1 hg
    have ee3 : A1 0 28 = A 0 28 := hy1.2 _ _ hS.1.1 (((n0_28 hS1)).trans ((n0_28 hS)).symm)
    try rw [← ee3]
    have ee4 : A1 g 0 = A g 0 := hy1.2 _ _ hg.1 (((nP_0 hS1 hg2)).trans ((nP_0 hS hg)).symm)
    try rw [← ee4]
    refine ⟨fun hc => ?_, fun hc => ?_⟩
    · have h := h.1 hc
      exact qx_i hS1 hx1 h
    · have h := h.2 hc
      exact qx_i hS1 hx1 h
theorem w_X11_unfold_0 {E : EE} {d : Nat} {V : VH} {K : Int32 → VH → Prop} {x1 : Int32}  (h0 : 0 < d) (h : vMP E (d - 1) M_X11_known [sl 0 28, wi x1] V (fun g1 V1 => (vL V1 g1 = true → (g1 ≠ 0 ∧ g1 ≠ 6) ∧ (∀ V4 : VH, V4 = wrI V1 g1 0 11 0 → K (vI V1 g1 0 11) V4)) ∧ (¬ vL V1 g1 = true → K (-1) V1))) : vMI E d M_X11_unfold [sl 0 28, wi x1] V K := by
  intro G A hR
  obtain ⟨L, P, rfl, hS⟩ := hR
  have hx := Xt.refl (V := pl G A L P) (A := A)
  show wpM E d M_X11_unfold [vr (A 0 28), vi x1] G _
  refine wpM_of mk_X11_unfold (Nat.le_of_ble_eq_true rfl) ?_
  refine v_X11_unfold_0 h0 ?_
  refine ⟨hS.o (s0_28 hS), ?_⟩
  refine wpM.mono (h G A ⟨L, P, rfl, hS⟩) (fun rr1 G1 hr => ?_)
  obtain ⟨A1, W1, w1, ⟨L1, P1, rfl, hS1⟩, hy1, rfl, g1, rfl, h⟩ := hr
  refine ⟨A1 g1 0, rfl, ?_⟩
  have hx1 := Xt.trans hx hy1
  have ee2 : A1 0 28 = A 0 28 := hy1.2 _ _ hS.1.1 (((n0_28 hS1)).trans ((n0_28 hS)).symm)
  try rw [← ee2]
  refine ⟨fun hc => ?_, fun hc => ?_⟩
  · have h := h.1 (hS1.lv0 hc)
    obtain ⟨hw, h⟩ := h
    have hg3 : PG L1 g1 := ⟨hS1.lv0 hc, hw⟩
    refine ⟨hS1.o (sP_0 hg3), ?_⟩
    have hS4 : Sh E (sI G1 (A1 g1 0) 11 0) A1 L1 P1 := Sh_sI (rfl : sI G1 (A1 g1 0) 11 0 = sI G1 (A1 g1 0) 11 0) hS1 (sP_0 hg3) (okT_0 rfl)
    have h := h (pl (sI G1 (A1 g1 0) 11 0) A1 L1 P1) (pl_sI (rfl : sI G1 (A1 g1 0) 11 0 = sI G1 (A1 g1 0) 11 0) hS1 (sP_0 hg3))
    have hx4 : Xt (pl G A L P) A (pl (sI G1 (A1 g1 0) 11 0) A1 L1 P1) A1 := Xt_sI (rfl : sI G1 (A1 g1 0) 11 0 = sI G1 (A1 g1 0) 11 0) hx1
    exact qx_i hS4 hx4 h
  · have h := h.2 ((hS1.null (nf_pos _)).mp hc)
    exact qx_i hS1 hx1 h
theorem w_X11_told_0 {E : EE} {d : Nat} {V : VH} {K : Int32 → VH → Prop} {x1 : Int32} {x2 : Int32} {x3 : Int32} {x4 : Int32}  (h0 : 0 < d) (h : vMP E (d - 1) M_X11_known [sl 0 28, wi x1] V (fun g1 V1 => (¬ vL V1 g1 = true → K 0 V1) ∧ (vL V1 g1 = true → (g1 ≠ 0 ∧ g1 ≠ 6) ∧ ((x2 < 0 → K 0 V1) ∧ (¬ (x2 < 0) → ((vI V1 g1 0 11) ≤ x2 → K 0 V1) ∧ (¬ ((vI V1 g1 0 11) ≤ x2) → vMI E (d - 1) M_X3_isFact [sl g1 0, wi x3] V1 (fun r4 V4 => (¬ r4 = 0 → (x4 < (-9999) → K 0 V4) ∧ (¬ (x4 < (-9999)) → (x4 ≤ 9999 → vp_in x2 6 ∧ (vp_in x2 6 ∧ (∀ V10 : VH, V10 = wrI V4 g1 25 (Int32.toNatClampNeg x2) ((vI V4 g1 25 (Int32.toNatClampNeg x2)) ||| (1 <<< (x3 &&& 31))) → vp_in ((x2 * 16) + x3) 96 ∧ (∀ V12 : VH, V12 = wrI V10 g1 26 (Int32.toNatClampNeg ((x2 * 16) + x3)) x4 → K 1 V12)))) ∧ (¬ (x4 ≤ 9999) → K 0 V4))) ∧ (r4 = 0 → K 0 V4)))))))) : vMI E d M_X11_told [sl 0 28, wi x1, wi x2, wi x3, wi x4] V K := by
  intro G A hR
  obtain ⟨L, P, rfl, hS⟩ := hR
  have hx := Xt.refl (V := pl G A L P) (A := A)
  show wpM E d M_X11_told [vr (A 0 28), vi x1, vi x2, vi x3, vi x4] G _
  refine wpM_of mk_X11_told (Nat.le_of_ble_eq_true rfl) ?_
  refine v_X11_told_0 h0 ?_
  refine ⟨hS.o (s0_28 hS), ?_⟩
  refine wpM.mono (h G A ⟨L, P, rfl, hS⟩) (fun rr1 G1 hr => ?_)
  obtain ⟨A1, W1, w1, ⟨L1, P1, rfl, hS1⟩, hy1, rfl, g1, rfl, h⟩ := hr
  refine ⟨A1 g1 0, rfl, ?_⟩
  have hx1 := Xt.trans hx hy1
  have ee2 : A1 0 28 = A 0 28 := hy1.2 _ _ hS.1.1 (((n0_28 hS1)).trans ((n0_28 hS)).symm)
  try rw [← ee2]
  refine ⟨fun hc => ?_, fun hc => ?_⟩
  · have h := h.1 ((hS1.null (nf_pos _)).mp hc)
    exact qx_i hS1 hx1 h
  · have h := h.2 (hS1.lv0 hc)
    obtain ⟨hw, h⟩ := h
    have hg3 : PG L1 g1 := ⟨hS1.lv0 hc, hw⟩
    refine ⟨fun hc => ?_, fun hc => ?_⟩
    · have h := h.1 hc
      exact qx_i hS1 hx1 h
    · have h := h.2 hc
      refine ⟨hS1.o (sP_0 hg3), ?_⟩
      refine ⟨fun hc => ?_, fun hc => ?_⟩
      · have h := h.1 hc
        exact qx_i hS1 hx1 h
      · have h := h.2 hc
        refine wpM.mono (h G1 A1 ⟨L1, P1, rfl, hS1⟩) (fun rr4 G4 hr => ?_)
        obtain ⟨A4, W4, w4, ⟨L4, P4, rfl, hS4⟩, hy4, rfl, r4, rfl, h⟩ := hr
        refine ⟨r4, rfl, ?_⟩
        have hx4 := Xt.trans hx1 hy4
        have hg5 : PG L4 g1 := PG.up hy4 hg3
        have ee6 : A4 0 28 = A1 0 28 := hy4.2 _ _ hS1.1.1 (((n0_28 hS4)).trans ((n0_28 hS1)).symm)
        try rw [← ee6]
        have ee7 : A4 g1 0 = A1 g1 0 := hy4.2 _ _ hg3.1 (((nP_0 hS4 hg5)).trans ((nP_0 hS1 hg3)).symm)
        try rw [← ee7]
        refine ⟨fun hc => ?_, fun hc => ?_⟩
        · have h := h.1 hc
          refine ⟨fun hc => ?_, fun hc => ?_⟩
          · have h := h.1 hc
            exact qx_i hS4 hx4 h
          · have h := h.2 hc
            refine ⟨fun hc => ?_, fun hc => ?_⟩
            · have h := h.1 hc
              refine ⟨hS4.o (sP_0 hg5), ?_⟩
              rw [lP_0_12 hS4 hg5]
              refine ⟨hS4.o (sP_25 hg5), ?_⟩
              obtain ⟨hi8, h⟩ := h
              refine ⟨by first | (rw [(nP_25 hS4 hg5)]; exact hi8) | exact (congrArg (vp_in _) (nP_25 hS4 hg5)).mpr hi8 | exact hi8, ?_⟩
              obtain ⟨hi9, h⟩ := h
              refine ⟨by first | (rw [(nP_25 hS4 hg5)]; exact hi9) | exact (congrArg (vp_in _) (nP_25 hS4 hg5)).mpr hi9 | exact hi9, ?_⟩
              intro G10 eG10
              have hS10 : Sh E G10 A4 L4 P4 := Sh_sI eG10 hS4 (sP_25 hg5) (okT_0 rfl)
              have h := h (pl G10 A4 L4 P4) (pl_sI eG10 hS4 (sP_25 hg5))
              have hx10 : Xt (pl G A L P) A (pl G10 A4 L4 P4) A4 := Xt_sI eG10 hx4
              rw [lP_0_13 hS10 hg5]
              refine ⟨hS10.o (sP_26 hg5), ?_⟩
              obtain ⟨hi11, h⟩ := h
              refine ⟨by first | (rw [(nP_26 hS10 hg5)]; exact hi11) | exact (congrArg (vp_in _) (nP_26 hS10 hg5)).mpr hi11 | exact hi11, ?_⟩
              intro G12 eG12
              have hS12 : Sh E G12 A4 L4 P4 := Sh_sI eG12 hS10 (sP_26 hg5) (okT_0 rfl)
              have h := h (pl G12 A4 L4 P4) (pl_sI eG12 hS10 (sP_26 hg5))
              have hx12 : Xt (pl G A L P) A (pl G12 A4 L4 P4) A4 := Xt_sI eG12 hx10
              exact qx_i hS12 hx12 h
            · have h := h.2 hc
              exact qx_i hS4 hx4 h
        · have h := h.2 hc
          exact qx_i hS4 hx4 h
theorem w_X11_future_0 {E : EE} {d : Nat} {V : VH} {K : Int32 → VH → Prop} {x1 : Int32} {x2 : Int32}  (h0 : 0 < d) (h : vMP E (d - 1) M_X11_known [sl 0 28, wi x1] V (fun g1 V1 => (¬ vL V1 g1 = true → K (-1) V1) ∧ (vL V1 g1 = true → (g1 ≠ 0 ∧ g1 ≠ 6) ∧ ((x2 < 1 → K (-1) V1) ∧ (¬ (x2 < 1) → (x2 ≤ 100 → ((vI V1 g1 0 11) < 6 → vMI E (d - 1) M_X3_addFuture [sl g1 0, wi x2] V1 (fun r4 V4 => K r4 V4)) ∧ (¬ ((vI V1 g1 0 11) < 6) → K (-100000) V1)) ∧ (¬ (x2 ≤ 100) → K (-1) V1)))))) : vMI E d M_X11_future [sl 0 28, wi x1, wi x2] V K := by
  intro G A hR
  obtain ⟨L, P, rfl, hS⟩ := hR
  have hx := Xt.refl (V := pl G A L P) (A := A)
  show wpM E d M_X11_future [vr (A 0 28), vi x1, vi x2] G _
  refine wpM_of mk_X11_future (Nat.le_of_ble_eq_true rfl) ?_
  refine v_X11_future_0 h0 ?_
  refine ⟨hS.o (s0_28 hS), ?_⟩
  refine wpM.mono (h G A ⟨L, P, rfl, hS⟩) (fun rr1 G1 hr => ?_)
  obtain ⟨A1, W1, w1, ⟨L1, P1, rfl, hS1⟩, hy1, rfl, g1, rfl, h⟩ := hr
  refine ⟨A1 g1 0, rfl, ?_⟩
  have hx1 := Xt.trans hx hy1
  have ee2 : A1 0 28 = A 0 28 := hy1.2 _ _ hS.1.1 (((n0_28 hS1)).trans ((n0_28 hS)).symm)
  try rw [← ee2]
  refine ⟨fun hc => ?_, fun hc => ?_⟩
  · have h := h.1 ((hS1.null (nf_pos _)).mp hc)
    exact qx_i hS1 hx1 h
  · have h := h.2 (hS1.lv0 hc)
    obtain ⟨hw, h⟩ := h
    have hg3 : PG L1 g1 := ⟨hS1.lv0 hc, hw⟩
    refine ⟨fun hc => ?_, fun hc => ?_⟩
    · have h := h.1 hc
      exact qx_i hS1 hx1 h
    · have h := h.2 hc
      refine ⟨fun hc => ?_, fun hc => ?_⟩
      · have h := h.1 hc
        refine ⟨hS1.o (sP_0 hg3), ?_⟩
        refine ⟨fun hc => ?_, fun hc => ?_⟩
        · have h := h.1 hc
          refine wpM.mono (h G1 A1 ⟨L1, P1, rfl, hS1⟩) (fun rr4 G4 hr => ?_)
          obtain ⟨A4, W4, w4, ⟨L4, P4, rfl, hS4⟩, hy4, rfl, r4, rfl, h⟩ := hr
          refine ⟨r4, rfl, ?_⟩
          have hx4 := Xt.trans hx1 hy4
          have hg5 : PG L4 g1 := PG.up hy4 hg3
          have ee6 : A4 0 28 = A1 0 28 := hy4.2 _ _ hS1.1.1 (((n0_28 hS4)).trans ((n0_28 hS1)).symm)
          try rw [← ee6]
          have ee7 : A4 g1 0 = A1 g1 0 := hy4.2 _ _ hg3.1 (((nP_0 hS4 hg5)).trans ((nP_0 hS1 hg3)).symm)
          try rw [← ee7]
          exact qx_i hS4 hx4 h
        · have h := h.2 hc
          exact qx_i hS1 hx1 h
      · have h := h.2 hc
        exact qx_i hS1 hx1 h
theorem w_X11_because_0 {E : EE} {d : Nat} {V : VH} {K : Int32 → VH → Prop} {x1 : Int32} {x2 : Int32} {x3 : Int32}  (h0 : 0 < d) (h : vMP E (d - 1) M_X11_scored [sl 0 28, wi x1] V (fun g1 V1 => (vL V1 g1 = true → (g1 ≠ 0 ∧ g1 ≠ 6) ∧ (vMI E (d - 1) M_X3_firstBestWith [sl g1 0, wi x2, wi x3] V1 (fun r4 V4 => (r4 < 0 → K (-1) V4) ∧ (¬ (r4 < 0) → vMI E (d - 1) M_X9_gatherFor [sl g1 19, sl g1 0, wi 1] V4 (fun r8 V8 => (¬ r8 = 0 → vp_in 0 (vN V8 g1 20) ∧ (vMI E (d - 1) M_X3_firstWorseRule [sl g1 0, wi r4, wi (vI V8 g1 20 (Int32.toNatClampNeg 0))] V8 (fun r13 V13 => K r13 V13))) ∧ (r8 = 0 → K (-1) V8)))))) ∧ (¬ vL V1 g1 = true → K (-1) V1))) : vMI E d M_X11_because [sl 0 28, wi x1, wi x2, wi x3] V K := by
  intro G A hR
  obtain ⟨L, P, rfl, hS⟩ := hR
  have hx := Xt.refl (V := pl G A L P) (A := A)
  show wpM E d M_X11_because [vr (A 0 28), vi x1, vi x2, vi x3] G _
  refine wpM_of mk_X11_because (Nat.le_of_ble_eq_true rfl) ?_
  refine v_X11_because_0 h0 ?_
  refine ⟨hS.o (s0_28 hS), ?_⟩
  refine wpM.mono (h G A ⟨L, P, rfl, hS⟩) (fun rr1 G1 hr => ?_)
  obtain ⟨A1, W1, w1, ⟨L1, P1, rfl, hS1⟩, hy1, rfl, g1, rfl, h⟩ := hr
  refine ⟨A1 g1 0, rfl, ?_⟩
  have hx1 := Xt.trans hx hy1
  have ee2 : A1 0 28 = A 0 28 := hy1.2 _ _ hS.1.1 (((n0_28 hS1)).trans ((n0_28 hS)).symm)
  try rw [← ee2]
  refine ⟨fun hc => ?_, fun hc => ?_⟩
  · have h := h.1 (hS1.lv0 hc)
    obtain ⟨hw, h⟩ := h
    have hg3 : PG L1 g1 := ⟨hS1.lv0 hc, hw⟩
    refine ⟨hS1.o (sP_0 hg3), ?_⟩
    refine wpM.mono (h G1 A1 ⟨L1, P1, rfl, hS1⟩) (fun rr4 G4 hr => ?_)
    obtain ⟨A4, W4, w4, ⟨L4, P4, rfl, hS4⟩, hy4, rfl, r4, rfl, h⟩ := hr
    refine ⟨r4, rfl, ?_⟩
    have hx4 := Xt.trans hx1 hy4
    have hg5 : PG L4 g1 := PG.up hy4 hg3
    have ee6 : A4 0 28 = A1 0 28 := hy4.2 _ _ hS1.1.1 (((n0_28 hS4)).trans ((n0_28 hS1)).symm)
    try rw [← ee6]
    have ee7 : A4 g1 0 = A1 g1 0 := hy4.2 _ _ hg3.1 (((nP_0 hS4 hg5)).trans ((nP_0 hS1 hg3)).symm)
    try rw [← ee7]
    refine ⟨fun hc => ?_, fun hc => ?_⟩
    · have h := h.1 hc
      exact qx_i hS4 hx4 h
    · have h := h.2 hc
      refine ⟨hS4.o (sP_0 hg5), ?_⟩
      rw [lP_0_6 hS4 hg5]
      refine ⟨hS4.o (sP_19 hg5), ?_⟩
      refine wpM.mono (h G4 A4 ⟨L4, P4, rfl, hS4⟩) (fun rr8 G8 hr => ?_)
      obtain ⟨A8, W8, w8, ⟨L8, P8, rfl, hS8⟩, hy8, rfl, r8, rfl, h⟩ := hr
      refine ⟨r8, rfl, ?_⟩
      have hx8 := Xt.trans hx4 hy8
      have hg9 : PG L8 g1 := PG.up hy8 hg5
      have ee10 : A8 0 28 = A4 0 28 := hy8.2 _ _ hS4.1.1 (((n0_28 hS8)).trans ((n0_28 hS4)).symm)
      try rw [← ee10]
      have ee11 : A8 g1 0 = A4 g1 0 := hy8.2 _ _ hg5.1 (((nP_0 hS8 hg9)).trans ((nP_0 hS4 hg5)).symm)
      try rw [← ee11]
      refine ⟨fun hc => ?_, fun hc => ?_⟩
      · have h := h.1 hc
        refine ⟨hS8.o (sP_0 hg9), ?_⟩
        rw [lP_0_6 hS8 hg9]
        refine ⟨hS8.o (sP_19 hg9), ?_⟩
        rw [lP_19_2 hS8 hg9]
        refine ⟨hS8.o (sP_20 hg9), ?_⟩
        obtain ⟨hi12, h⟩ := h
        refine ⟨hi12, ?_⟩
        refine wpM.mono (h G8 A8 ⟨L8, P8, rfl, hS8⟩) (fun rr13 G13 hr => ?_)
        obtain ⟨A13, W13, w13, ⟨L13, P13, rfl, hS13⟩, hy13, rfl, r13, rfl, h⟩ := hr
        refine ⟨r13, rfl, ?_⟩
        have hx13 := Xt.trans hx8 hy13
        have hg14 : PG L13 g1 := PG.up hy13 hg9
        have ee15 : A13 0 28 = A8 0 28 := hy13.2 _ _ hS8.1.1 (((n0_28 hS13)).trans ((n0_28 hS8)).symm)
        try rw [← ee15]
        have ee16 : A13 g1 0 = A8 g1 0 := hy13.2 _ _ hg9.1 (((nP_0 hS13 hg14)).trans ((nP_0 hS8 hg9)).symm)
        try rw [← ee16]
        exact qx_i hS13 hx13 h
      · have h := h.2 hc
        exact qx_i hS8 hx8 h
  · have h := h.2 ((hS1.null (nf_pos _)).mp hc)
    exact qx_i hS1 hx1 h
theorem w_X11_whyNot_0 {E : EE} {d : Nat} {V : VH} {K : Int64 → VH → Prop} {x1 : Int32} {x2 : Int32} {x3 : Int32} {x4 : Int32}  (h0 : 0 < d) (h : vMP E (d - 1) M_X11_scored [sl 0 28, wi x1] V (fun g1 V1 => (¬ vL V1 g1 = true → K (-9223372036854775808) V1) ∧ (vL V1 g1 = true → (g1 ≠ 0 ∧ g1 ≠ 6) ∧ (vMI E (d - 1) M_X11_isLevel [wi x4] V1 (fun r4 V4 => (¬ r4 = 0 → vMI E (d - 1) M_X3_firstBestWith [sl g1 0, wi x2, wi x3] V4 (fun r8 V8 => (0 ≤ r8 → vMJ E (d - 1) M_X9_scoreOf [sl g1 19, wi r8, wi x4] V8 (fun r12 V12 => K r12 V12)) ∧ (¬ (0 ≤ r8) → K (-9223372036854775808) V8))) ∧ (r4 = 0 → K (-9223372036854775808) V4)))))) : vMJ E d M_X11_whyNot [sl 0 28, wi x1, wi x2, wi x3, wi x4] V K := by
  intro G A hR
  obtain ⟨L, P, rfl, hS⟩ := hR
  have hx := Xt.refl (V := pl G A L P) (A := A)
  show wpM E d M_X11_whyNot [vr (A 0 28), vi x1, vi x2, vi x3, vi x4] G _
  refine wpM_of mk_X11_whyNot (Nat.le_of_ble_eq_true rfl) ?_
  refine v_X11_whyNot_0 h0 ?_
  refine ⟨hS.o (s0_28 hS), ?_⟩
  refine wpM.mono (h G A ⟨L, P, rfl, hS⟩) (fun rr1 G1 hr => ?_)
  obtain ⟨A1, W1, w1, ⟨L1, P1, rfl, hS1⟩, hy1, rfl, g1, rfl, h⟩ := hr
  refine ⟨A1 g1 0, rfl, ?_⟩
  have hx1 := Xt.trans hx hy1
  have ee2 : A1 0 28 = A 0 28 := hy1.2 _ _ hS.1.1 (((n0_28 hS1)).trans ((n0_28 hS)).symm)
  try rw [← ee2]
  refine ⟨fun hc => ?_, fun hc => ?_⟩
  · have h := h.1 ((hS1.null (nf_pos _)).mp hc)
    exact qx_j hS1 hx1 h
  · have h := h.2 (hS1.lv0 hc)
    obtain ⟨hw, h⟩ := h
    have hg3 : PG L1 g1 := ⟨hS1.lv0 hc, hw⟩
    refine wpM.mono (h G1 A1 ⟨L1, P1, rfl, hS1⟩) (fun rr4 G4 hr => ?_)
    obtain ⟨A4, W4, w4, ⟨L4, P4, rfl, hS4⟩, hy4, rfl, r4, rfl, h⟩ := hr
    refine ⟨r4, rfl, ?_⟩
    have hx4 := Xt.trans hx1 hy4
    have hg5 : PG L4 g1 := PG.up hy4 hg3
    have ee6 : A4 0 28 = A1 0 28 := hy4.2 _ _ hS1.1.1 (((n0_28 hS4)).trans ((n0_28 hS1)).symm)
    try rw [← ee6]
    have ee7 : A4 g1 0 = A1 g1 0 := hy4.2 _ _ hg3.1 (((nP_0 hS4 hg5)).trans ((nP_0 hS1 hg3)).symm)
    try rw [← ee7]
    refine ⟨fun hc => ?_, fun hc => ?_⟩
    · have h := h.1 hc
      refine ⟨hS4.o (sP_0 hg5), ?_⟩
      refine wpM.mono (h G4 A4 ⟨L4, P4, rfl, hS4⟩) (fun rr8 G8 hr => ?_)
      obtain ⟨A8, W8, w8, ⟨L8, P8, rfl, hS8⟩, hy8, rfl, r8, rfl, h⟩ := hr
      refine ⟨r8, rfl, ?_⟩
      have hx8 := Xt.trans hx4 hy8
      have hg9 : PG L8 g1 := PG.up hy8 hg5
      have ee10 : A8 0 28 = A4 0 28 := hy8.2 _ _ hS4.1.1 (((n0_28 hS8)).trans ((n0_28 hS4)).symm)
      try rw [← ee10]
      have ee11 : A8 g1 0 = A4 g1 0 := hy8.2 _ _ hg5.1 (((nP_0 hS8 hg9)).trans ((nP_0 hS4 hg5)).symm)
      try rw [← ee11]
      refine ⟨fun hc => ?_, fun hc => ?_⟩
      · have h := h.1 hc
        refine ⟨hS8.o (sP_0 hg9), ?_⟩
        rw [lP_0_6 hS8 hg9]
        refine ⟨hS8.o (sP_19 hg9), ?_⟩
        refine wpM.mono (h G8 A8 ⟨L8, P8, rfl, hS8⟩) (fun rr12 G12 hr => ?_)
        obtain ⟨A12, W12, w12, ⟨L12, P12, rfl, hS12⟩, hy12, rfl, r12, rfl, h⟩ := hr
        refine ⟨r12, rfl, ?_⟩
        have hx12 := Xt.trans hx8 hy12
        have hg13 : PG L12 g1 := PG.up hy12 hg9
        have ee14 : A12 0 28 = A8 0 28 := hy12.2 _ _ hS8.1.1 (((n0_28 hS12)).trans ((n0_28 hS8)).symm)
        try rw [← ee14]
        have ee15 : A12 g1 0 = A8 g1 0 := hy12.2 _ _ hg9.1 (((nP_0 hS12 hg13)).trans ((nP_0 hS8 hg9)).symm)
        try rw [← ee15]
        exact qx_j hS12 hx12 h
      · have h := h.2 hc
        exact qx_j hS8 hx8 h
    · have h := h.2 hc
      exact qx_j hS4 hx4 h
theorem w_X11_without_0 {E : EE} {d : Nat} {V : VH} {K : Int64 → VH → Prop} {x1 : Int32} {x2 : Int32} {x3 : Int32}  (h0 : 0 < d) (h : vMP E (d - 1) M_X11_scored [sl 0 28, wi x1] V (fun g1 V1 => (¬ vL V1 g1 = true → K (-9223372036854775808) V1) ∧ (vL V1 g1 = true → (g1 ≠ 0 ∧ g1 ≠ 6) ∧ (vMI E (d - 1) M_X3_isRule [sl g1 0, wi x2] V1 (fun r4 V4 => (r4 = 0 → K (-9223372036854775808) V4) ∧ (¬ (r4 = 0) → vMI E (d - 1) M_X11_isLevel [wi x3] V4 (fun r8 V8 => (¬ r8 = 0 → vMI E (d - 1) M_X3_bestLacking [sl g1 0, wi x2] V8 (fun r12 V12 => (r12 = 0 → K (-9223372036854775808) V12) ∧ (¬ (r12 = 0) → vp_in x3 3 ∧ (K (vJ V12 g1 28 (Int32.toNatClampNeg x3)) V12)))) ∧ (r8 = 0 → K (-9223372036854775808) V8)))))))) : vMJ E d M_X11_without [sl 0 28, wi x1, wi x2, wi x3] V K := by
  intro G A hR
  obtain ⟨L, P, rfl, hS⟩ := hR
  have hx := Xt.refl (V := pl G A L P) (A := A)
  show wpM E d M_X11_without [vr (A 0 28), vi x1, vi x2, vi x3] G _
  refine wpM_of mk_X11_without (Nat.le_of_ble_eq_true rfl) ?_
  refine v_X11_without_0 h0 ?_
  refine ⟨hS.o (s0_28 hS), ?_⟩
  refine wpM.mono (h G A ⟨L, P, rfl, hS⟩) (fun rr1 G1 hr => ?_)
  obtain ⟨A1, W1, w1, ⟨L1, P1, rfl, hS1⟩, hy1, rfl, g1, rfl, h⟩ := hr
  refine ⟨A1 g1 0, rfl, ?_⟩
  have hx1 := Xt.trans hx hy1
  have ee2 : A1 0 28 = A 0 28 := hy1.2 _ _ hS.1.1 (((n0_28 hS1)).trans ((n0_28 hS)).symm)
  try rw [← ee2]
  refine ⟨fun hc => ?_, fun hc => ?_⟩
  · have h := h.1 ((hS1.null (nf_pos _)).mp hc)
    exact qx_j hS1 hx1 h
  · have h := h.2 (hS1.lv0 hc)
    obtain ⟨hw, h⟩ := h
    have hg3 : PG L1 g1 := ⟨hS1.lv0 hc, hw⟩
    refine ⟨hS1.o (sP_0 hg3), ?_⟩
    refine wpM.mono (h G1 A1 ⟨L1, P1, rfl, hS1⟩) (fun rr4 G4 hr => ?_)
    obtain ⟨A4, W4, w4, ⟨L4, P4, rfl, hS4⟩, hy4, rfl, r4, rfl, h⟩ := hr
    refine ⟨r4, rfl, ?_⟩
    have hx4 := Xt.trans hx1 hy4
    have hg5 : PG L4 g1 := PG.up hy4 hg3
    have ee6 : A4 0 28 = A1 0 28 := hy4.2 _ _ hS1.1.1 (((n0_28 hS4)).trans ((n0_28 hS1)).symm)
    try rw [← ee6]
    have ee7 : A4 g1 0 = A1 g1 0 := hy4.2 _ _ hg3.1 (((nP_0 hS4 hg5)).trans ((nP_0 hS1 hg3)).symm)
    try rw [← ee7]
    refine ⟨fun hc => ?_, fun hc => ?_⟩
    · have h := h.1 hc
      exact qx_j hS4 hx4 h
    · have h := h.2 hc
      refine wpM.mono (h G4 A4 ⟨L4, P4, rfl, hS4⟩) (fun rr8 G8 hr => ?_)
      obtain ⟨A8, W8, w8, ⟨L8, P8, rfl, hS8⟩, hy8, rfl, r8, rfl, h⟩ := hr
      refine ⟨r8, rfl, ?_⟩
      have hx8 := Xt.trans hx4 hy8
      have hg9 : PG L8 g1 := PG.up hy8 hg5
      have ee10 : A8 0 28 = A4 0 28 := hy8.2 _ _ hS4.1.1 (((n0_28 hS8)).trans ((n0_28 hS4)).symm)
      try rw [← ee10]
      have ee11 : A8 g1 0 = A4 g1 0 := hy8.2 _ _ hg5.1 (((nP_0 hS8 hg9)).trans ((nP_0 hS4 hg5)).symm)
      try rw [← ee11]
      refine ⟨fun hc => ?_, fun hc => ?_⟩
      · have h := h.1 hc
        refine ⟨hS8.o (sP_0 hg9), ?_⟩
        refine wpM.mono (h G8 A8 ⟨L8, P8, rfl, hS8⟩) (fun rr12 G12 hr => ?_)
        obtain ⟨A12, W12, w12, ⟨L12, P12, rfl, hS12⟩, hy12, rfl, r12, rfl, h⟩ := hr
        refine ⟨r12, rfl, ?_⟩
        have hx12 := Xt.trans hx8 hy12
        have hg13 : PG L12 g1 := PG.up hy12 hg9
        have ee14 : A12 0 28 = A8 0 28 := hy12.2 _ _ hS8.1.1 (((n0_28 hS12)).trans ((n0_28 hS8)).symm)
        try rw [← ee14]
        have ee15 : A12 g1 0 = A8 g1 0 := hy12.2 _ _ hg9.1 (((nP_0 hS12 hg13)).trans ((nP_0 hS8 hg9)).symm)
        try rw [← ee15]
        refine ⟨fun hc => ?_, fun hc => ?_⟩
        · have h := h.1 hc
          exact qx_j hS12 hx12 h
        · have h := h.2 hc
          refine ⟨hS12.o (sP_0 hg13), ?_⟩
          rw [lP_0_15 hS12 hg13]
          refine ⟨hS12.o (sP_28 hg13), ?_⟩
          obtain ⟨hi16, h⟩ := h
          refine ⟨by first | (rw [(nP_28 hS12 hg13)]; exact hi16) | exact (congrArg (vp_in _) (nP_28 hS12 hg13)).mpr hi16 | exact hi16, ?_⟩
          exact qx_j hS12 hx12 h
      · have h := h.2 hc
        exact qx_j hS8 hx8 h
theorem w_X11_relax_0 {E : EE} {d : Nat} {V : VH} {K : Int32 → VH → Prop} {x1 : Int32}  (h0 : 0 < d) (h : vMP E (d - 1) M_X11_scored [sl 0 28, wi x1] V (fun g1 V1 => (vL V1 g1 = true → (g1 ≠ 0 ∧ g1 ≠ 6) ∧ (vMI E (d - 1) M_X1_cheapest [sl 0 10, sl g1 0] V1 (fun r4 V4 => K r4 V4))) ∧ (¬ vL V1 g1 = true → K (-1) V1))) : vMI E d M_X11_relax [sl 0 28, wi x1] V K := by
  intro G A hR
  obtain ⟨L, P, rfl, hS⟩ := hR
  have hx := Xt.refl (V := pl G A L P) (A := A)
  show wpM E d M_X11_relax [vr (A 0 28), vi x1] G _
  refine wpM_of mk_X11_relax (Nat.le_of_ble_eq_true rfl) ?_
  refine v_X11_relax_0 h0 ?_
  refine ⟨hS.o (s0_28 hS), ?_⟩
  refine wpM.mono (h G A ⟨L, P, rfl, hS⟩) (fun rr1 G1 hr => ?_)
  obtain ⟨A1, W1, w1, ⟨L1, P1, rfl, hS1⟩, hy1, rfl, g1, rfl, h⟩ := hr
  refine ⟨A1 g1 0, rfl, ?_⟩
  have hx1 := Xt.trans hx hy1
  have ee2 : A1 0 28 = A 0 28 := hy1.2 _ _ hS.1.1 (((n0_28 hS1)).trans ((n0_28 hS)).symm)
  try rw [← ee2]
  refine ⟨fun hc => ?_, fun hc => ?_⟩
  · have h := h.1 (hS1.lv0 hc)
    obtain ⟨hw, h⟩ := h
    have hg3 : PG L1 g1 := ⟨hS1.lv0 hc, hw⟩
    refine ⟨hS1.o (s0_28 hS1), ?_⟩
    rw [l0_28_4 hS1]
    refine ⟨hS1.o (s0_10 hS1), ?_⟩
    refine wpM.mono (h G1 A1 ⟨L1, P1, rfl, hS1⟩) (fun rr4 G4 hr => ?_)
    obtain ⟨A4, W4, w4, ⟨L4, P4, rfl, hS4⟩, hy4, rfl, r4, rfl, h⟩ := hr
    refine ⟨r4, rfl, ?_⟩
    have hx4 := Xt.trans hx1 hy4
    have hg5 : PG L4 g1 := PG.up hy4 hg3
    have ee6 : A4 0 28 = A1 0 28 := hy4.2 _ _ hS1.1.1 (((n0_28 hS4)).trans ((n0_28 hS1)).symm)
    try rw [← ee6]
    have ee7 : A4 g1 0 = A1 g1 0 := hy4.2 _ _ hg3.1 (((nP_0 hS4 hg5)).trans ((nP_0 hS1 hg3)).symm)
    try rw [← ee7]
    exact qx_i hS4 hx4 h
  · have h := h.2 ((hS1.null (nf_pos _)).mp hc)
    exact qx_i hS1 hx1 h
theorem w_X11_fewest_0 {E : EE} {d : Nat} {V : VH} {K : Int32 → VH → Prop} {x1 : Int32}  (h0 : 0 < d) (h : vMP E (d - 1) M_X11_scored [sl 0 28, wi x1] V (fun g1 V1 => (vL V1 g1 = true → (g1 ≠ 0 ∧ g1 ≠ 6) ∧ (vMI E (d - 1) M_X1_smallest [sl 0 10, sl g1 0] V1 (fun r4 V4 => K r4 V4))) ∧ (¬ vL V1 g1 = true → K (-1) V1))) : vMI E d M_X11_fewest [sl 0 28, wi x1] V K := by
  intro G A hR
  obtain ⟨L, P, rfl, hS⟩ := hR
  have hx := Xt.refl (V := pl G A L P) (A := A)
  show wpM E d M_X11_fewest [vr (A 0 28), vi x1] G _
  refine wpM_of mk_X11_fewest (Nat.le_of_ble_eq_true rfl) ?_
  refine v_X11_fewest_0 h0 ?_
  refine ⟨hS.o (s0_28 hS), ?_⟩
  refine wpM.mono (h G A ⟨L, P, rfl, hS⟩) (fun rr1 G1 hr => ?_)
  obtain ⟨A1, W1, w1, ⟨L1, P1, rfl, hS1⟩, hy1, rfl, g1, rfl, h⟩ := hr
  refine ⟨A1 g1 0, rfl, ?_⟩
  have hx1 := Xt.trans hx hy1
  have ee2 : A1 0 28 = A 0 28 := hy1.2 _ _ hS.1.1 (((n0_28 hS1)).trans ((n0_28 hS)).symm)
  try rw [← ee2]
  refine ⟨fun hc => ?_, fun hc => ?_⟩
  · have h := h.1 (hS1.lv0 hc)
    obtain ⟨hw, h⟩ := h
    have hg3 : PG L1 g1 := ⟨hS1.lv0 hc, hw⟩
    refine ⟨hS1.o (s0_28 hS1), ?_⟩
    rw [l0_28_4 hS1]
    refine ⟨hS1.o (s0_10 hS1), ?_⟩
    refine wpM.mono (h G1 A1 ⟨L1, P1, rfl, hS1⟩) (fun rr4 G4 hr => ?_)
    obtain ⟨A4, W4, w4, ⟨L4, P4, rfl, hS4⟩, hy4, rfl, r4, rfl, h⟩ := hr
    refine ⟨r4, rfl, ?_⟩
    have hx4 := Xt.trans hx1 hy4
    have hg5 : PG L4 g1 := PG.up hy4 hg3
    have ee6 : A4 0 28 = A1 0 28 := hy4.2 _ _ hS1.1.1 (((n0_28 hS4)).trans ((n0_28 hS1)).symm)
    try rw [← ee6]
    have ee7 : A4 g1 0 = A1 g1 0 := hy4.2 _ _ hg3.1 (((nP_0 hS4 hg5)).trans ((nP_0 hS1 hg3)).symm)
    try rw [← ee7]
    exact qx_i hS4 hx4 h
  · have h := h.2 ((hS1.null (nf_pos _)).mp hc)
    exact qx_i hS1 hx1 h
theorem w_X11_clash_0 {E : EE} {d : Nat} {V : VH} {K : Int32 → VH → Prop} {x1 : Int32}  (h0 : 0 < d) (h : vMP E (d - 1) M_X11_scored [sl 0 28, wi x1] V (fun g1 V1 => (vL V1 g1 = true → (g1 ≠ 0 ∧ g1 ≠ 6) ∧ (vMI E (d - 1) M_X1_narrowed [sl 0 10, sl g1 0] V1 (fun r4 V4 => K r4 V4))) ∧ (¬ vL V1 g1 = true → K (-1) V1))) : vMI E d M_X11_clash [sl 0 28, wi x1] V K := by
  intro G A hR
  obtain ⟨L, P, rfl, hS⟩ := hR
  have hx := Xt.refl (V := pl G A L P) (A := A)
  show wpM E d M_X11_clash [vr (A 0 28), vi x1] G _
  refine wpM_of mk_X11_clash (Nat.le_of_ble_eq_true rfl) ?_
  refine v_X11_clash_0 h0 ?_
  refine ⟨hS.o (s0_28 hS), ?_⟩
  refine wpM.mono (h G A ⟨L, P, rfl, hS⟩) (fun rr1 G1 hr => ?_)
  obtain ⟨A1, W1, w1, ⟨L1, P1, rfl, hS1⟩, hy1, rfl, g1, rfl, h⟩ := hr
  refine ⟨A1 g1 0, rfl, ?_⟩
  have hx1 := Xt.trans hx hy1
  have ee2 : A1 0 28 = A 0 28 := hy1.2 _ _ hS.1.1 (((n0_28 hS1)).trans ((n0_28 hS)).symm)
  try rw [← ee2]
  refine ⟨fun hc => ?_, fun hc => ?_⟩
  · have h := h.1 (hS1.lv0 hc)
    obtain ⟨hw, h⟩ := h
    have hg3 : PG L1 g1 := ⟨hS1.lv0 hc, hw⟩
    refine ⟨hS1.o (s0_28 hS1), ?_⟩
    rw [l0_28_4 hS1]
    refine ⟨hS1.o (s0_10 hS1), ?_⟩
    refine wpM.mono (h G1 A1 ⟨L1, P1, rfl, hS1⟩) (fun rr4 G4 hr => ?_)
    obtain ⟨A4, W4, w4, ⟨L4, P4, rfl, hS4⟩, hy4, rfl, r4, rfl, h⟩ := hr
    refine ⟨r4, rfl, ?_⟩
    have hx4 := Xt.trans hx1 hy4
    have hg5 : PG L4 g1 := PG.up hy4 hg3
    have ee6 : A4 0 28 = A1 0 28 := hy4.2 _ _ hS1.1.1 (((n0_28 hS4)).trans ((n0_28 hS1)).symm)
    try rw [← ee6]
    have ee7 : A4 g1 0 = A1 g1 0 := hy4.2 _ _ hg3.1 (((nP_0 hS4 hg5)).trans ((nP_0 hS1 hg3)).symm)
    try rw [← ee7]
    exact qx_i hS4 hx4 h
  · have h := h.2 ((hS1.null (nf_pos _)).mp hc)
    exact qx_i hS1 hx1 h
theorem w_X11_near_0 {E : EE} {d : Nat} {V : VH} {K : Int32 → VH → Prop} {x1 : Int32} {x2 : Int32}  (h0 : 0 < d) (h : vMP E (d - 1) M_X11_scored [sl 0 28, wi x1] V (fun g1 V1 => (¬ vL V1 g1 = true → K (-1) V1) ∧ (vL V1 g1 = true → (g1 ≠ 0 ∧ g1 ≠ 6) ∧ (vMI E (d - 1) M_X9_gatherFor [sl g1 19, sl g1 0, wi x2] V1 (fun r4 V4 => (¬ r4 = 0 → vp_in 0 (vN V4 g1 20) ∧ (vMI E (d - 1) M_X3_costTo [sl g1 0, wi (vI V4 g1 20 (Int32.toNatClampNeg 0))] V4 (fun r9 V9 => vwp E d M_X11_near 46 [some (sl 0 28), some (wi x1), some (wi x2), some (sl g1 0), some (wi (vI V4 g1 20 (Int32.toNatClampNeg 0))), some (wi r9), some (wi 1), none] [] V9 (zi K)))) ∧ (r4 = 0 → K (-1) V4)))))) : vMI E d M_X11_near [sl 0 28, wi x1, wi x2] V K := by
  intro G A hR
  obtain ⟨L, P, rfl, hS⟩ := hR
  have hx := Xt.refl (V := pl G A L P) (A := A)
  show wpM E d M_X11_near [vr (A 0 28), vi x1, vi x2] G _
  refine wpM_of mk_X11_near (Nat.le_of_ble_eq_true rfl) ?_
  refine v_X11_near_0 h0 ?_
  refine ⟨hS.o (s0_28 hS), ?_⟩
  refine wpM.mono (h G A ⟨L, P, rfl, hS⟩) (fun rr1 G1 hr => ?_)
  obtain ⟨A1, W1, w1, ⟨L1, P1, rfl, hS1⟩, hy1, rfl, g1, rfl, h⟩ := hr
  refine ⟨A1 g1 0, rfl, ?_⟩
  have hx1 := Xt.trans hx hy1
  have ee2 : A1 0 28 = A 0 28 := hy1.2 _ _ hS.1.1 (((n0_28 hS1)).trans ((n0_28 hS)).symm)
  try rw [← ee2]
  refine ⟨fun hc => ?_, fun hc => ?_⟩
  · have h := h.1 ((hS1.null (nf_pos _)).mp hc)
    exact qx_i hS1 hx1 h
  · have h := h.2 (hS1.lv0 hc)
    obtain ⟨hw, h⟩ := h
    have hg3 : PG L1 g1 := ⟨hS1.lv0 hc, hw⟩
    refine ⟨hS1.o (sP_0 hg3), ?_⟩
    rw [lP_0_6 hS1 hg3]
    refine ⟨hS1.o (sP_19 hg3), ?_⟩
    refine wpM.mono (h G1 A1 ⟨L1, P1, rfl, hS1⟩) (fun rr4 G4 hr => ?_)
    obtain ⟨A4, W4, w4, ⟨L4, P4, rfl, hS4⟩, hy4, rfl, r4, rfl, h⟩ := hr
    refine ⟨r4, rfl, ?_⟩
    have hx4 := Xt.trans hx1 hy4
    have hg5 : PG L4 g1 := PG.up hy4 hg3
    have ee6 : A4 0 28 = A1 0 28 := hy4.2 _ _ hS1.1.1 (((n0_28 hS4)).trans ((n0_28 hS1)).symm)
    try rw [← ee6]
    have ee7 : A4 g1 0 = A1 g1 0 := hy4.2 _ _ hg3.1 (((nP_0 hS4 hg5)).trans ((nP_0 hS1 hg3)).symm)
    try rw [← ee7]
    refine ⟨fun hc => ?_, fun hc => ?_⟩
    · have h := h.1 hc
      refine ⟨hS4.o (sP_0 hg5), ?_⟩
      rw [lP_0_6 hS4 hg5]
      refine ⟨hS4.o (sP_19 hg5), ?_⟩
      rw [lP_19_2 hS4 hg5]
      refine ⟨hS4.o (sP_20 hg5), ?_⟩
      obtain ⟨hi8, h⟩ := h
      refine ⟨hi8, ?_⟩
      refine wpM.mono (h G4 A4 ⟨L4, P4, rfl, hS4⟩) (fun rr9 G9 hr => ?_)
      obtain ⟨A9, W9, w9, ⟨L9, P9, rfl, hS9⟩, hy9, rfl, r9, rfl, h⟩ := hr
      refine ⟨r9, rfl, ?_⟩
      have hx9 := Xt.trans hx4 hy9
      have hg10 : PG L9 g1 := PG.up hy9 hg5
      have ee11 : A9 0 28 = A4 0 28 := hy9.2 _ _ hS4.1.1 (((n0_28 hS9)).trans ((n0_28 hS4)).symm)
      try rw [← ee11]
      have ee12 : A9 g1 0 = A4 g1 0 := hy9.2 _ _ hg5.1 (((nP_0 hS9 hg10)).trans ((nP_0 hS4 hg5)).symm)
      try rw [← ee12]
      exact wp.mono (h G9 A9 ⟨L9, P9, rfl, hS9⟩) (fun r G' q => qx_trans hx9 q)
    · have h := h.2 hc
      exact qx_i hS4 hx4 h
theorem w_X11_near_46 {E : EE} {d : Nat} {V : VH} {K : Int32 → VH → Prop} {x1 : Int32} {x2 : Int32} {g : Nat} {x4 : Int32} {x5 : Int32} {x6 : Int32} (hg : PG (vL V) g) (h0 : 0 < d) (h : ((vI V g 19 3) ≤ x6 → vMI E (d - 1) M_X3_moveTo [sl g 0, wi x4] V (fun r1 V1 => K x5 V1)) ∧ (¬ ((vI V g 19 3) ≤ x6) → vp_in x6 (vN V g 20) ∧ (vMI E (d - 1) M_X3_costTo [sl g 0, wi (vI V g 20 (Int32.toNatClampNeg x6))] V (fun r6 V6 => (x5 ≤ r6 → vwp E d M_X11_near 97 [some (sl 0 28), some (wi x1), some (wi x2), some (sl g 0), some (wi x4), some (wi x5), some (wi x6), some (wi r6)] [] V6 (zi K)) ∧ (¬ (x5 ≤ r6) → vp_in x6 (vN V6 g 20) ∧ (vwp E d M_X11_near 97 [some (sl 0 28), some (wi x1), some (wi x2), some (sl g 0), some (wi (vI V6 g 20 (Int32.toNatClampNeg x6))), some (wi r6), some (wi x6), some (wi r6)] [] V6 (zi K))))))) : vwp E d M_X11_near 46 [some (sl 0 28), some (wi x1), some (wi x2), some (sl g 0), some (wi x4), some (wi x5), some (wi x6), none] [] V (zi K) := by
  intro G A hR
  obtain ⟨L, P, rfl, hS⟩ := hR
  have hx := Xt.refl (V := pl G A L P) (A := A)
  show wp E d M_X11_near 46 [some (vr (A 0 28)), some (vi x1), some (vi x2), some (vr (A g 0)), some (vi x4), some (vi x5), some (vi x6), none] [] G _
  refine v_X11_near_46 h0 ?_
  refine ⟨hS.o (sP_0 hg), ?_⟩
  rw [lP_0_6 hS hg]
  refine ⟨hS.o (sP_19 hg), ?_⟩
  refine ⟨fun hc => ?_, fun hc => ?_⟩
  · have h := h.1 hc
    refine wpM.mono (h G A ⟨L, P, rfl, hS⟩) (fun rr1 G1 hr => ?_)
    obtain ⟨A1, W1, w1, ⟨L1, P1, rfl, hS1⟩, hy1, rfl, r1, rfl, h⟩ := hr
    refine ⟨r1, rfl, ?_⟩
    have hx1 := Xt.trans hx hy1
    have hg2 : PG L1 g := PG.up hy1 hg
    have ee3 : A1 0 28 = A 0 28 := hy1.2 _ _ hS.1.1 (((n0_28 hS1)).trans ((n0_28 hS)).symm)
    try rw [← ee3]
    have ee4 : A1 g 0 = A g 0 := hy1.2 _ _ hg.1 (((nP_0 hS1 hg2)).trans ((nP_0 hS hg)).symm)
    try rw [← ee4]
    exact qx_i hS1 hx1 h
  · have h := h.2 hc
    rw [lP_19_2 hS hg]
    refine ⟨hS.o (sP_20 hg), ?_⟩
    obtain ⟨hi5, h⟩ := h
    refine ⟨hi5, ?_⟩
    refine wpM.mono (h G A ⟨L, P, rfl, hS⟩) (fun rr6 G6 hr => ?_)
    obtain ⟨A6, W6, w6, ⟨L6, P6, rfl, hS6⟩, hy6, rfl, r6, rfl, h⟩ := hr
    refine ⟨r6, rfl, ?_⟩
    have hx6 := Xt.trans hx hy6
    have hg7 : PG L6 g := PG.up hy6 hg
    have ee8 : A6 0 28 = A 0 28 := hy6.2 _ _ hS.1.1 (((n0_28 hS6)).trans ((n0_28 hS)).symm)
    try rw [← ee8]
    have ee9 : A6 g 0 = A g 0 := hy6.2 _ _ hg.1 (((nP_0 hS6 hg7)).trans ((nP_0 hS hg)).symm)
    try rw [← ee9]
    refine ⟨fun hc => ?_, fun hc => ?_⟩
    · have h := h.1 hc
      exact wp.mono (h G6 A6 ⟨L6, P6, rfl, hS6⟩) (fun r G' q => qx_trans hx6 q)
    · have h := h.2 hc
      refine ⟨hS6.o (sP_0 hg7), ?_⟩
      rw [lP_0_6 hS6 hg7]
      refine ⟨hS6.o (sP_19 hg7), ?_⟩
      rw [lP_19_2 hS6 hg7]
      refine ⟨hS6.o (sP_20 hg7), ?_⟩
      obtain ⟨hi10, h⟩ := h
      refine ⟨hi10, ?_⟩
      exact wp.mono (h G6 A6 ⟨L6, P6, rfl, hS6⟩) (fun r G' q => qx_trans hx6 q)
theorem w_X11_near_97 {E : EE} {d : Nat} {V : VH} {K : Int32 → VH → Prop} {x1 : Int32} {x2 : Int32} {g : Nat} {x4 : Int32} {x5 : Int32} {x6 : Int32} {x7 : Int32} (hg : PG (vL V) g) (h : vwp E d M_X11_near 46 [some (sl 0 28), some (wi x1), some (wi x2), some (sl g 0), some (wi x4), some (wi x5), some (wi (x6 + 1)), none] [] V (zi K)) : vwp E d M_X11_near 97 [some (sl 0 28), some (wi x1), some (wi x2), some (sl g 0), some (wi x4), some (wi x5), some (wi x6), some (wi x7)] [] V (zi K) := by
  intro G A hR
  obtain ⟨L, P, rfl, hS⟩ := hR
  have hx := Xt.refl (V := pl G A L P) (A := A)
  show wp E d M_X11_near 97 [some (vr (A 0 28)), some (vi x1), some (vi x2), some (vr (A g 0)), some (vi x4), some (vi x5), some (vi x6), some (vi x7)] [] G _
  refine v_X11_near_97 ?_
  exact wp.mono (h G A ⟨L, P, rfl, hS⟩) (fun r G' q => qx_trans hx q)
theorem w_X11_frontPlan_0 {E : EE} {d : Nat} {V : VH} {K : Int32 → VH → Prop} {x1 : Int32} {x2 : Int32}  (h0 : 0 < d) (h : vMP E (d - 1) M_X11_scored [sl 0 28, wi x1] V (fun g1 V1 => (¬ vL V1 g1 = true → K 0 V1) ∧ (vL V1 g1 = true → (g1 ≠ 0 ∧ g1 ≠ 6) ∧ ((x2 < 0 → K 0 V1) ∧ (¬ (x2 < 0) → vMI E (d - 1) M_X9_walkFront [sl g1 19, sl g1 0, wi x2] V1 (fun r4 V4 => (r4 ≤ x2 → K 0 V4) ∧ (¬ (r4 ≤ x2) → vMI E (d - 1) M_X3_moveTo [sl g1 0, wi (vI V4 g1 19 4)] V4 (fun r8 V8 => (r8 = 0 → K 0 V8) ∧ (¬ (r8 = 0) → K 1 V8))))))))) : vMI E d M_X11_frontPlan [sl 0 28, wi x1, wi x2] V K := by
  intro G A hR
  obtain ⟨L, P, rfl, hS⟩ := hR
  have hx := Xt.refl (V := pl G A L P) (A := A)
  show wpM E d M_X11_frontPlan [vr (A 0 28), vi x1, vi x2] G _
  refine wpM_of mk_X11_frontPlan (Nat.le_of_ble_eq_true rfl) ?_
  refine v_X11_frontPlan_0 h0 ?_
  refine ⟨hS.o (s0_28 hS), ?_⟩
  refine wpM.mono (h G A ⟨L, P, rfl, hS⟩) (fun rr1 G1 hr => ?_)
  obtain ⟨A1, W1, w1, ⟨L1, P1, rfl, hS1⟩, hy1, rfl, g1, rfl, h⟩ := hr
  refine ⟨A1 g1 0, rfl, ?_⟩
  have hx1 := Xt.trans hx hy1
  have ee2 : A1 0 28 = A 0 28 := hy1.2 _ _ hS.1.1 (((n0_28 hS1)).trans ((n0_28 hS)).symm)
  try rw [← ee2]
  refine ⟨fun hc => ?_, fun hc => ?_⟩
  · have h := h.1 ((hS1.null (nf_pos _)).mp hc)
    exact qx_i hS1 hx1 h
  · have h := h.2 (hS1.lv0 hc)
    obtain ⟨hw, h⟩ := h
    have hg3 : PG L1 g1 := ⟨hS1.lv0 hc, hw⟩
    refine ⟨fun hc => ?_, fun hc => ?_⟩
    · have h := h.1 hc
      exact qx_i hS1 hx1 h
    · have h := h.2 hc
      refine ⟨hS1.o (sP_0 hg3), ?_⟩
      rw [lP_0_6 hS1 hg3]
      refine ⟨hS1.o (sP_19 hg3), ?_⟩
      refine wpM.mono (h G1 A1 ⟨L1, P1, rfl, hS1⟩) (fun rr4 G4 hr => ?_)
      obtain ⟨A4, W4, w4, ⟨L4, P4, rfl, hS4⟩, hy4, rfl, r4, rfl, h⟩ := hr
      refine ⟨r4, rfl, ?_⟩
      have hx4 := Xt.trans hx1 hy4
      have hg5 : PG L4 g1 := PG.up hy4 hg3
      have ee6 : A4 0 28 = A1 0 28 := hy4.2 _ _ hS1.1.1 (((n0_28 hS4)).trans ((n0_28 hS1)).symm)
      try rw [← ee6]
      have ee7 : A4 g1 0 = A1 g1 0 := hy4.2 _ _ hg3.1 (((nP_0 hS4 hg5)).trans ((nP_0 hS1 hg3)).symm)
      try rw [← ee7]
      refine ⟨fun hc => ?_, fun hc => ?_⟩
      · have h := h.1 hc
        exact qx_i hS4 hx4 h
      · have h := h.2 hc
        refine ⟨hS4.o (sP_0 hg5), ?_⟩
        rw [lP_0_6 hS4 hg5]
        refine ⟨hS4.o (sP_19 hg5), ?_⟩
        refine wpM.mono (h G4 A4 ⟨L4, P4, rfl, hS4⟩) (fun rr8 G8 hr => ?_)
        obtain ⟨A8, W8, w8, ⟨L8, P8, rfl, hS8⟩, hy8, rfl, r8, rfl, h⟩ := hr
        refine ⟨r8, rfl, ?_⟩
        have hx8 := Xt.trans hx4 hy8
        have hg9 : PG L8 g1 := PG.up hy8 hg5
        have ee10 : A8 0 28 = A4 0 28 := hy8.2 _ _ hS4.1.1 (((n0_28 hS8)).trans ((n0_28 hS4)).symm)
        try rw [← ee10]
        have ee11 : A8 g1 0 = A4 g1 0 := hy8.2 _ _ hg5.1 (((nP_0 hS8 hg9)).trans ((nP_0 hS4 hg5)).symm)
        try rw [← ee11]
        refine ⟨fun hc => ?_, fun hc => ?_⟩
        · have h := h.1 hc
          exact qx_i hS8 hx8 h
        · have h := h.2 hc
          exact qx_i hS8 hx8 h
theorem w_X11_frontAt_0 {E : EE} {d : Nat} {V : VH} {K : Int64 → VH → Prop} {x1 : Int32} {x2 : Int32} {x3 : Int32}  (h0 : 0 < d) (h : vMP E (d - 1) M_X11_scored [sl 0 28, wi x1] V (fun g1 V1 => (¬ vL V1 g1 = true → K (-9223372036854775808) V1) ∧ (vL V1 g1 = true → (g1 ≠ 0 ∧ g1 ≠ 6) ∧ ((x2 < 0 → K (-9223372036854775808) V1) ∧ (¬ (x2 < 0) → vMI E (d - 1) M_X11_isLevel [wi x3] V1 (fun r4 V4 => (r4 = 0 → K (-9223372036854775808) V4) ∧ (¬ (r4 = 0) → vMI E (d - 1) M_X9_walkFront [sl g1 19, sl g1 0, wi x2] V4 (fun r8 V8 => (x2 < r8 → (¬ x3 = 0 → vMJ E (d - 1) M_X9_scoreOf [sl g1 19, wi (vI V8 g1 19 4), wi x3] V8 (fun r12 V12 => K r12 V12)) ∧ (x3 = 0 → K (Int32.toInt64 (vI V8 g1 19 5)) V8)) ∧ (¬ (x2 < r8) → K (-9223372036854775808) V8))))))))) : vMJ E d M_X11_frontAt [sl 0 28, wi x1, wi x2, wi x3] V K := by
  intro G A hR
  obtain ⟨L, P, rfl, hS⟩ := hR
  have hx := Xt.refl (V := pl G A L P) (A := A)
  show wpM E d M_X11_frontAt [vr (A 0 28), vi x1, vi x2, vi x3] G _
  refine wpM_of mk_X11_frontAt (Nat.le_of_ble_eq_true rfl) ?_
  refine v_X11_frontAt_0 h0 ?_
  refine ⟨hS.o (s0_28 hS), ?_⟩
  refine wpM.mono (h G A ⟨L, P, rfl, hS⟩) (fun rr1 G1 hr => ?_)
  obtain ⟨A1, W1, w1, ⟨L1, P1, rfl, hS1⟩, hy1, rfl, g1, rfl, h⟩ := hr
  refine ⟨A1 g1 0, rfl, ?_⟩
  have hx1 := Xt.trans hx hy1
  have ee2 : A1 0 28 = A 0 28 := hy1.2 _ _ hS.1.1 (((n0_28 hS1)).trans ((n0_28 hS)).symm)
  try rw [← ee2]
  refine ⟨fun hc => ?_, fun hc => ?_⟩
  · have h := h.1 ((hS1.null (nf_pos _)).mp hc)
    exact qx_j hS1 hx1 h
  · have h := h.2 (hS1.lv0 hc)
    obtain ⟨hw, h⟩ := h
    have hg3 : PG L1 g1 := ⟨hS1.lv0 hc, hw⟩
    refine ⟨fun hc => ?_, fun hc => ?_⟩
    · have h := h.1 hc
      exact qx_j hS1 hx1 h
    · have h := h.2 hc
      refine wpM.mono (h G1 A1 ⟨L1, P1, rfl, hS1⟩) (fun rr4 G4 hr => ?_)
      obtain ⟨A4, W4, w4, ⟨L4, P4, rfl, hS4⟩, hy4, rfl, r4, rfl, h⟩ := hr
      refine ⟨r4, rfl, ?_⟩
      have hx4 := Xt.trans hx1 hy4
      have hg5 : PG L4 g1 := PG.up hy4 hg3
      have ee6 : A4 0 28 = A1 0 28 := hy4.2 _ _ hS1.1.1 (((n0_28 hS4)).trans ((n0_28 hS1)).symm)
      try rw [← ee6]
      have ee7 : A4 g1 0 = A1 g1 0 := hy4.2 _ _ hg3.1 (((nP_0 hS4 hg5)).trans ((nP_0 hS1 hg3)).symm)
      try rw [← ee7]
      refine ⟨fun hc => ?_, fun hc => ?_⟩
      · have h := h.1 hc
        exact qx_j hS4 hx4 h
      · have h := h.2 hc
        refine ⟨hS4.o (sP_0 hg5), ?_⟩
        rw [lP_0_6 hS4 hg5]
        refine ⟨hS4.o (sP_19 hg5), ?_⟩
        refine wpM.mono (h G4 A4 ⟨L4, P4, rfl, hS4⟩) (fun rr8 G8 hr => ?_)
        obtain ⟨A8, W8, w8, ⟨L8, P8, rfl, hS8⟩, hy8, rfl, r8, rfl, h⟩ := hr
        refine ⟨r8, rfl, ?_⟩
        have hx8 := Xt.trans hx4 hy8
        have hg9 : PG L8 g1 := PG.up hy8 hg5
        have ee10 : A8 0 28 = A4 0 28 := hy8.2 _ _ hS4.1.1 (((n0_28 hS8)).trans ((n0_28 hS4)).symm)
        try rw [← ee10]
        have ee11 : A8 g1 0 = A4 g1 0 := hy8.2 _ _ hg5.1 (((nP_0 hS8 hg9)).trans ((nP_0 hS4 hg5)).symm)
        try rw [← ee11]
        refine ⟨fun hc => ?_, fun hc => ?_⟩
        · have h := h.1 hc
          refine ⟨fun hc => ?_, fun hc => ?_⟩
          · have h := h.1 hc
            refine ⟨hS8.o (sP_0 hg9), ?_⟩
            rw [lP_0_6 hS8 hg9]
            refine ⟨hS8.o (sP_19 hg9), ?_⟩
            refine wpM.mono (h G8 A8 ⟨L8, P8, rfl, hS8⟩) (fun rr12 G12 hr => ?_)
            obtain ⟨A12, W12, w12, ⟨L12, P12, rfl, hS12⟩, hy12, rfl, r12, rfl, h⟩ := hr
            refine ⟨r12, rfl, ?_⟩
            have hx12 := Xt.trans hx8 hy12
            have hg13 : PG L12 g1 := PG.up hy12 hg9
            have ee14 : A12 0 28 = A8 0 28 := hy12.2 _ _ hS8.1.1 (((n0_28 hS12)).trans ((n0_28 hS8)).symm)
            try rw [← ee14]
            have ee15 : A12 g1 0 = A8 g1 0 := hy12.2 _ _ hg9.1 (((nP_0 hS12 hg13)).trans ((nP_0 hS8 hg9)).symm)
            try rw [← ee15]
            exact qx_j hS12 hx12 h
          · have h := h.2 hc
            refine ⟨hS8.o (sP_0 hg9), ?_⟩
            rw [lP_0_6 hS8 hg9]
            refine ⟨hS8.o (sP_19 hg9), ?_⟩
            exact qx_j hS8 hx8 h
        · have h := h.2 hc
          exact qx_j hS8 hx8 h
theorem w_X11_front_0 {E : EE} {d : Nat} {V : VH} {K : Int32 → VH → Prop} {x1 : Int32}  (h0 : 0 < d) (h : vMP E (d - 1) M_X11_scored [sl 0 28, wi x1] V (fun g1 V1 => (vL V1 g1 = true → (g1 ≠ 0 ∧ g1 ≠ 6) ∧ (vMI E (d - 1) M_X9_walkFront [sl g1 19, sl g1 0, wi (-1)] V1 (fun r4 V4 => K r4 V4))) ∧ (¬ vL V1 g1 = true → K (-1) V1))) : vMI E d M_X11_front [sl 0 28, wi x1] V K := by
  intro G A hR
  obtain ⟨L, P, rfl, hS⟩ := hR
  have hx := Xt.refl (V := pl G A L P) (A := A)
  show wpM E d M_X11_front [vr (A 0 28), vi x1] G _
  refine wpM_of mk_X11_front (Nat.le_of_ble_eq_true rfl) ?_
  refine v_X11_front_0 h0 ?_
  refine ⟨hS.o (s0_28 hS), ?_⟩
  refine wpM.mono (h G A ⟨L, P, rfl, hS⟩) (fun rr1 G1 hr => ?_)
  obtain ⟨A1, W1, w1, ⟨L1, P1, rfl, hS1⟩, hy1, rfl, g1, rfl, h⟩ := hr
  refine ⟨A1 g1 0, rfl, ?_⟩
  have hx1 := Xt.trans hx hy1
  have ee2 : A1 0 28 = A 0 28 := hy1.2 _ _ hS.1.1 (((n0_28 hS1)).trans ((n0_28 hS)).symm)
  try rw [← ee2]
  refine ⟨fun hc => ?_, fun hc => ?_⟩
  · have h := h.1 (hS1.lv0 hc)
    obtain ⟨hw, h⟩ := h
    have hg3 : PG L1 g1 := ⟨hS1.lv0 hc, hw⟩
    refine ⟨hS1.o (sP_0 hg3), ?_⟩
    rw [lP_0_6 hS1 hg3]
    refine ⟨hS1.o (sP_19 hg3), ?_⟩
    refine wpM.mono (h G1 A1 ⟨L1, P1, rfl, hS1⟩) (fun rr4 G4 hr => ?_)
    obtain ⟨A4, W4, w4, ⟨L4, P4, rfl, hS4⟩, hy4, rfl, r4, rfl, h⟩ := hr
    refine ⟨r4, rfl, ?_⟩
    have hx4 := Xt.trans hx1 hy4
    have hg5 : PG L4 g1 := PG.up hy4 hg3
    have ee6 : A4 0 28 = A1 0 28 := hy4.2 _ _ hS1.1.1 (((n0_28 hS4)).trans ((n0_28 hS1)).symm)
    try rw [← ee6]
    have ee7 : A4 g1 0 = A1 g1 0 := hy4.2 _ _ hg3.1 (((nP_0 hS4 hg5)).trans ((nP_0 hS1 hg3)).symm)
    try rw [← ee7]
    exact qx_i hS4 hx4 h
  · have h := h.2 ((hS1.null (nf_pos _)).mp hc)
    exact qx_i hS1 hx1 h
theorem w_X11_mend_0 {E : EE} {d : Nat} {V : VH} {K : Int32 → VH → Prop} {x1 : Int32} {x2 : Int32}  (h0 : 0 < d) (h : vMP E (d - 1) M_X11_scored [sl 0 28, wi x1] V (fun g1 V1 => (vL V1 g1 = true → (g1 ≠ 0 ∧ g1 ≠ 6) ∧ (vMI E (d - 1) M_X9_gather [sl g1 19, sl g1 0, wi (x2 ^^^ (-1))] V1 (fun r4 V4 => vMI E (d - 1) M_X9_keepBest [sl g1 19] V4 (fun r8 V8 => (r8 ≤ 0 → K 0 V8) ∧ (¬ (r8 ≤ 0) → vp_in 0 (vN V8 g1 20) ∧ (vMI E (d - 1) M_X3_moveTo [sl g1 0, wi (vI V8 g1 20 (Int32.toNatClampNeg 0))] V8 (fun r13 V13 => (r13 = 0 → K 0 V13) ∧ (¬ (r13 = 0) → K 1 V13)))))))) ∧ (¬ vL V1 g1 = true → K (-1) V1))) : vMI E d M_X11_mend [sl 0 28, wi x1, wi x2] V K := by
  intro G A hR
  obtain ⟨L, P, rfl, hS⟩ := hR
  have hx := Xt.refl (V := pl G A L P) (A := A)
  show wpM E d M_X11_mend [vr (A 0 28), vi x1, vi x2] G _
  refine wpM_of mk_X11_mend (Nat.le_of_ble_eq_true rfl) ?_
  refine v_X11_mend_0 h0 ?_
  refine ⟨hS.o (s0_28 hS), ?_⟩
  refine wpM.mono (h G A ⟨L, P, rfl, hS⟩) (fun rr1 G1 hr => ?_)
  obtain ⟨A1, W1, w1, ⟨L1, P1, rfl, hS1⟩, hy1, rfl, g1, rfl, h⟩ := hr
  refine ⟨A1 g1 0, rfl, ?_⟩
  have hx1 := Xt.trans hx hy1
  have ee2 : A1 0 28 = A 0 28 := hy1.2 _ _ hS.1.1 (((n0_28 hS1)).trans ((n0_28 hS)).symm)
  try rw [← ee2]
  refine ⟨fun hc => ?_, fun hc => ?_⟩
  · have h := h.1 (hS1.lv0 hc)
    obtain ⟨hw, h⟩ := h
    have hg3 : PG L1 g1 := ⟨hS1.lv0 hc, hw⟩
    refine ⟨hS1.o (sP_0 hg3), ?_⟩
    rw [lP_0_6 hS1 hg3]
    refine ⟨hS1.o (sP_19 hg3), ?_⟩
    refine wpM.mono (h G1 A1 ⟨L1, P1, rfl, hS1⟩) (fun rr4 G4 hr => ?_)
    obtain ⟨A4, W4, w4, ⟨L4, P4, rfl, hS4⟩, hy4, rfl, r4, rfl, h⟩ := hr
    refine ⟨r4, rfl, ?_⟩
    have hx4 := Xt.trans hx1 hy4
    have hg5 : PG L4 g1 := PG.up hy4 hg3
    have ee6 : A4 0 28 = A1 0 28 := hy4.2 _ _ hS1.1.1 (((n0_28 hS4)).trans ((n0_28 hS1)).symm)
    try rw [← ee6]
    have ee7 : A4 g1 0 = A1 g1 0 := hy4.2 _ _ hg3.1 (((nP_0 hS4 hg5)).trans ((nP_0 hS1 hg3)).symm)
    try rw [← ee7]
    refine ⟨hS4.o (sP_0 hg5), ?_⟩
    rw [lP_0_6 hS4 hg5]
    refine ⟨hS4.o (sP_19 hg5), ?_⟩
    refine wpM.mono (h G4 A4 ⟨L4, P4, rfl, hS4⟩) (fun rr8 G8 hr => ?_)
    obtain ⟨A8, W8, w8, ⟨L8, P8, rfl, hS8⟩, hy8, rfl, r8, rfl, h⟩ := hr
    refine ⟨r8, rfl, ?_⟩
    have hx8 := Xt.trans hx4 hy8
    have hg9 : PG L8 g1 := PG.up hy8 hg5
    have ee10 : A8 0 28 = A4 0 28 := hy8.2 _ _ hS4.1.1 (((n0_28 hS8)).trans ((n0_28 hS4)).symm)
    try rw [← ee10]
    have ee11 : A8 g1 0 = A4 g1 0 := hy8.2 _ _ hg5.1 (((nP_0 hS8 hg9)).trans ((nP_0 hS4 hg5)).symm)
    try rw [← ee11]
    refine ⟨fun hc => ?_, fun hc => ?_⟩
    · have h := h.1 hc
      exact qx_i hS8 hx8 h
    · have h := h.2 hc
      refine ⟨hS8.o (sP_0 hg9), ?_⟩
      rw [lP_0_6 hS8 hg9]
      refine ⟨hS8.o (sP_19 hg9), ?_⟩
      rw [lP_19_2 hS8 hg9]
      refine ⟨hS8.o (sP_20 hg9), ?_⟩
      obtain ⟨hi12, h⟩ := h
      refine ⟨hi12, ?_⟩
      refine wpM.mono (h G8 A8 ⟨L8, P8, rfl, hS8⟩) (fun rr13 G13 hr => ?_)
      obtain ⟨A13, W13, w13, ⟨L13, P13, rfl, hS13⟩, hy13, rfl, r13, rfl, h⟩ := hr
      refine ⟨r13, rfl, ?_⟩
      have hx13 := Xt.trans hx8 hy13
      have hg14 : PG L13 g1 := PG.up hy13 hg9
      have ee15 : A13 0 28 = A8 0 28 := hy13.2 _ _ hS8.1.1 (((n0_28 hS13)).trans ((n0_28 hS8)).symm)
      try rw [← ee15]
      have ee16 : A13 g1 0 = A8 g1 0 := hy13.2 _ _ hg9.1 (((nP_0 hS13 hg14)).trans ((nP_0 hS8 hg9)).symm)
      try rw [← ee16]
      refine ⟨fun hc => ?_, fun hc => ?_⟩
      · have h := h.1 hc
        exact qx_i hS13 hx13 h
      · have h := h.2 hc
        exact qx_i hS13 hx13 h
  · have h := h.2 ((hS1.null (nf_pos _)).mp hc)
    exact qx_i hS1 hx1 h
theorem w_X11_choices_0 {E : EE} {d : Nat} {V : VH} {K : Int32 → VH → Prop} {x1 : Int32} {x2 : Int32}  (h0 : 0 < d) (h : vMP E (d - 1) M_X11_scored [sl 0 28, wi x1] V (fun g1 V1 => (¬ vL V1 g1 = true → K (-1) V1) ∧ (vL V1 g1 = true → (g1 ≠ 0 ∧ g1 ≠ 6) ∧ (vMI E (d - 1) M_X7_isVar [sl g1 5, wi x2] V1 (fun r4 V4 => (¬ r4 = 0 → vMI E (d - 1) M_X9_gatherFor [sl g1 19, sl g1 0, wi 1] V4 (fun r8 V8 => vMI E (d - 1) M_X9_differentValues [sl g1 19, sl g1 5, wi x2] V8 (fun r12 V12 => K r12 V12))) ∧ (r4 = 0 → K (-1) V4)))))) : vMI E d M_X11_choices [sl 0 28, wi x1, wi x2] V K := by
  intro G A hR
  obtain ⟨L, P, rfl, hS⟩ := hR
  have hx := Xt.refl (V := pl G A L P) (A := A)
  show wpM E d M_X11_choices [vr (A 0 28), vi x1, vi x2] G _
  refine wpM_of mk_X11_choices (Nat.le_of_ble_eq_true rfl) ?_
  refine v_X11_choices_0 h0 ?_
  refine ⟨hS.o (s0_28 hS), ?_⟩
  refine wpM.mono (h G A ⟨L, P, rfl, hS⟩) (fun rr1 G1 hr => ?_)
  obtain ⟨A1, W1, w1, ⟨L1, P1, rfl, hS1⟩, hy1, rfl, g1, rfl, h⟩ := hr
  refine ⟨A1 g1 0, rfl, ?_⟩
  have hx1 := Xt.trans hx hy1
  have ee2 : A1 0 28 = A 0 28 := hy1.2 _ _ hS.1.1 (((n0_28 hS1)).trans ((n0_28 hS)).symm)
  try rw [← ee2]
  refine ⟨fun hc => ?_, fun hc => ?_⟩
  · have h := h.1 ((hS1.null (nf_pos _)).mp hc)
    exact qx_i hS1 hx1 h
  · have h := h.2 (hS1.lv0 hc)
    obtain ⟨hw, h⟩ := h
    have hg3 : PG L1 g1 := ⟨hS1.lv0 hc, hw⟩
    refine ⟨hS1.o (sP_0 hg3), ?_⟩
    rw [lP_0_4 hS1 hg3]
    refine ⟨hS1.o (sP_5 hg3), ?_⟩
    refine wpM.mono (h G1 A1 ⟨L1, P1, rfl, hS1⟩) (fun rr4 G4 hr => ?_)
    obtain ⟨A4, W4, w4, ⟨L4, P4, rfl, hS4⟩, hy4, rfl, r4, rfl, h⟩ := hr
    refine ⟨r4, rfl, ?_⟩
    have hx4 := Xt.trans hx1 hy4
    have hg5 : PG L4 g1 := PG.up hy4 hg3
    have ee6 : A4 0 28 = A1 0 28 := hy4.2 _ _ hS1.1.1 (((n0_28 hS4)).trans ((n0_28 hS1)).symm)
    try rw [← ee6]
    have ee7 : A4 g1 0 = A1 g1 0 := hy4.2 _ _ hg3.1 (((nP_0 hS4 hg5)).trans ((nP_0 hS1 hg3)).symm)
    try rw [← ee7]
    refine ⟨fun hc => ?_, fun hc => ?_⟩
    · have h := h.1 hc
      refine ⟨hS4.o (sP_0 hg5), ?_⟩
      rw [lP_0_6 hS4 hg5]
      refine ⟨hS4.o (sP_19 hg5), ?_⟩
      refine wpM.mono (h G4 A4 ⟨L4, P4, rfl, hS4⟩) (fun rr8 G8 hr => ?_)
      obtain ⟨A8, W8, w8, ⟨L8, P8, rfl, hS8⟩, hy8, rfl, r8, rfl, h⟩ := hr
      refine ⟨r8, rfl, ?_⟩
      have hx8 := Xt.trans hx4 hy8
      have hg9 : PG L8 g1 := PG.up hy8 hg5
      have ee10 : A8 0 28 = A4 0 28 := hy8.2 _ _ hS4.1.1 (((n0_28 hS8)).trans ((n0_28 hS4)).symm)
      try rw [← ee10]
      have ee11 : A8 g1 0 = A4 g1 0 := hy8.2 _ _ hg5.1 (((nP_0 hS8 hg9)).trans ((nP_0 hS4 hg5)).symm)
      try rw [← ee11]
      refine ⟨hS8.o (sP_0 hg9), ?_⟩
      rw [lP_0_6 hS8 hg9]
      rw [lP_0_4 hS8 hg9]
      refine ⟨hS8.o (sP_19 hg9), ?_⟩
      refine wpM.mono (h G8 A8 ⟨L8, P8, rfl, hS8⟩) (fun rr12 G12 hr => ?_)
      obtain ⟨A12, W12, w12, ⟨L12, P12, rfl, hS12⟩, hy12, rfl, r12, rfl, h⟩ := hr
      refine ⟨r12, rfl, ?_⟩
      have hx12 := Xt.trans hx8 hy12
      have hg13 : PG L12 g1 := PG.up hy12 hg9
      have ee14 : A12 0 28 = A8 0 28 := hy12.2 _ _ hS8.1.1 (((n0_28 hS12)).trans ((n0_28 hS8)).symm)
      try rw [← ee14]
      have ee15 : A12 g1 0 = A8 g1 0 := hy12.2 _ _ hg9.1 (((nP_0 hS12 hg13)).trans ((nP_0 hS8 hg9)).symm)
      try rw [← ee15]
      exact qx_i hS12 hx12 h
    · have h := h.2 hc
      exact qx_i hS4 hx4 h
theorem w_X11_has_0 {E : EE} {d : Nat} {V : VH} {K : Int32 → VH → Prop} {x1 : Int32} {x2 : Int32} {x3 : Int32} {x4 : Int32}  (h0 : 0 < d) (h : vMP E (d - 1) M_X11_scored [sl 0 28, wi x1] V (fun g1 V1 => (¬ vL V1 g1 = true → K (-1) V1) ∧ (vL V1 g1 = true → (g1 ≠ 0 ∧ g1 ≠ 6) ∧ (vMI E (d - 1) M_X7_isVar [sl g1 5, wi x2] V1 (fun r4 V4 => (¬ r4 = 0 → vMI E (d - 1) M_X9_gatherFor [sl g1 19, sl g1 0, wi x4] V4 (fun r8 V8 => vMI E (d - 1) M_X7_placeOfValue [sl g1 5, wi x2, wi x3] V8 (fun r12 V12 => vMI E (d - 1) M_X9_keepValue [sl g1 19, sl g1 5, wi x2, wi r12] V12 (fun r18 V18 => vMV E (d - 1) M_X11_show [sl 0 28, wj (Int32.toInt64 r18), wj (Int32.toInt64 r8)] V18 (fun V22 => K r18 V22))))) ∧ (r4 = 0 → K (-1) V4)))))) : vMI E d M_X11_has [sl 0 28, wi x1, wi x2, wi x3, wi x4] V K := by
  intro G A hR
  obtain ⟨L, P, rfl, hS⟩ := hR
  have hx := Xt.refl (V := pl G A L P) (A := A)
  show wpM E d M_X11_has [vr (A 0 28), vi x1, vi x2, vi x3, vi x4] G _
  refine wpM_of mk_X11_has (Nat.le_of_ble_eq_true rfl) ?_
  refine v_X11_has_0 h0 ?_
  refine ⟨hS.o (s0_28 hS), ?_⟩
  refine wpM.mono (h G A ⟨L, P, rfl, hS⟩) (fun rr1 G1 hr => ?_)
  obtain ⟨A1, W1, w1, ⟨L1, P1, rfl, hS1⟩, hy1, rfl, g1, rfl, h⟩ := hr
  refine ⟨A1 g1 0, rfl, ?_⟩
  have hx1 := Xt.trans hx hy1
  have ee2 : A1 0 28 = A 0 28 := hy1.2 _ _ hS.1.1 (((n0_28 hS1)).trans ((n0_28 hS)).symm)
  try rw [← ee2]
  refine ⟨fun hc => ?_, fun hc => ?_⟩
  · have h := h.1 ((hS1.null (nf_pos _)).mp hc)
    exact qx_i hS1 hx1 h
  · have h := h.2 (hS1.lv0 hc)
    obtain ⟨hw, h⟩ := h
    have hg3 : PG L1 g1 := ⟨hS1.lv0 hc, hw⟩
    refine ⟨hS1.o (sP_0 hg3), ?_⟩
    rw [lP_0_4 hS1 hg3]
    refine ⟨hS1.o (sP_5 hg3), ?_⟩
    refine wpM.mono (h G1 A1 ⟨L1, P1, rfl, hS1⟩) (fun rr4 G4 hr => ?_)
    obtain ⟨A4, W4, w4, ⟨L4, P4, rfl, hS4⟩, hy4, rfl, r4, rfl, h⟩ := hr
    refine ⟨r4, rfl, ?_⟩
    have hx4 := Xt.trans hx1 hy4
    have hg5 : PG L4 g1 := PG.up hy4 hg3
    have ee6 : A4 0 28 = A1 0 28 := hy4.2 _ _ hS1.1.1 (((n0_28 hS4)).trans ((n0_28 hS1)).symm)
    try rw [← ee6]
    have ee7 : A4 g1 0 = A1 g1 0 := hy4.2 _ _ hg3.1 (((nP_0 hS4 hg5)).trans ((nP_0 hS1 hg3)).symm)
    try rw [← ee7]
    refine ⟨fun hc => ?_, fun hc => ?_⟩
    · have h := h.1 hc
      refine ⟨hS4.o (sP_0 hg5), ?_⟩
      rw [lP_0_6 hS4 hg5]
      refine ⟨hS4.o (sP_19 hg5), ?_⟩
      refine wpM.mono (h G4 A4 ⟨L4, P4, rfl, hS4⟩) (fun rr8 G8 hr => ?_)
      obtain ⟨A8, W8, w8, ⟨L8, P8, rfl, hS8⟩, hy8, rfl, r8, rfl, h⟩ := hr
      refine ⟨r8, rfl, ?_⟩
      have hx8 := Xt.trans hx4 hy8
      have hg9 : PG L8 g1 := PG.up hy8 hg5
      have ee10 : A8 0 28 = A4 0 28 := hy8.2 _ _ hS4.1.1 (((n0_28 hS8)).trans ((n0_28 hS4)).symm)
      try rw [← ee10]
      have ee11 : A8 g1 0 = A4 g1 0 := hy8.2 _ _ hg5.1 (((nP_0 hS8 hg9)).trans ((nP_0 hS4 hg5)).symm)
      try rw [← ee11]
      refine ⟨hS8.o (sP_0 hg9), ?_⟩
      rw [lP_0_6 hS8 hg9]
      rw [lP_0_4 hS8 hg9]
      refine ⟨hS8.o (sP_5 hg9), ?_⟩
      refine wpM.mono (h G8 A8 ⟨L8, P8, rfl, hS8⟩) (fun rr12 G12 hr => ?_)
      obtain ⟨A12, W12, w12, ⟨L12, P12, rfl, hS12⟩, hy12, rfl, r12, rfl, h⟩ := hr
      refine ⟨r12, rfl, ?_⟩
      have hx12 := Xt.trans hx8 hy12
      have hg13 : PG L12 g1 := PG.up hy12 hg9
      have ee14 : A12 0 28 = A8 0 28 := hy12.2 _ _ hS8.1.1 (((n0_28 hS12)).trans ((n0_28 hS8)).symm)
      try rw [← ee14]
      have ee15 : A12 g1 0 = A8 g1 0 := hy12.2 _ _ hg9.1 (((nP_0 hS12 hg13)).trans ((nP_0 hS8 hg9)).symm)
      try rw [← ee15]
      have ee16 : A12 g1 19 = A8 g1 19 := hy12.2 _ _ hg9.1 (((nP_19 hS12 hg13)).trans ((nP_19 hS8 hg9)).symm)
      try rw [← ee16]
      have ee17 : A12 g1 5 = A8 g1 5 := hy12.2 _ _ hg9.1 (((nP_5 hS12 hg13)).trans ((nP_5 hS8 hg9)).symm)
      try rw [← ee17]
      refine ⟨hS12.o (sP_19 hg13), ?_⟩
      refine wpM.mono (h G12 A12 ⟨L12, P12, rfl, hS12⟩) (fun rr18 G18 hr => ?_)
      obtain ⟨A18, W18, w18, ⟨L18, P18, rfl, hS18⟩, hy18, rfl, r18, rfl, h⟩ := hr
      refine ⟨r18, rfl, ?_⟩
      have hx18 := Xt.trans hx12 hy18
      have hg19 : PG L18 g1 := PG.up hy18 hg13
      have ee20 : A18 0 28 = A12 0 28 := hy18.2 _ _ hS12.1.1 (((n0_28 hS18)).trans ((n0_28 hS12)).symm)
      try rw [← ee20]
      have ee21 : A18 g1 0 = A12 g1 0 := hy18.2 _ _ hg13.1 (((nP_0 hS18 hg19)).trans ((nP_0 hS12 hg13)).symm)
      try rw [← ee21]
      refine ⟨hS18.o (s0_28 hS18), ?_⟩
      refine wpM.mono (h G18 A18 ⟨L18, P18, rfl, hS18⟩) (fun rr22 G22 hr => ?_)
      obtain ⟨A22, W22, w22, ⟨L22, P22, rfl, hS22⟩, hy22, rfl, rfl, h⟩ := hr
      refine ⟨rfl, ?_⟩
      have hx22 := Xt.trans hx18 hy22
      have hg23 : PG L22 g1 := PG.up hy22 hg19
      have ee24 : A22 0 28 = A18 0 28 := hy22.2 _ _ hS18.1.1 (((n0_28 hS22)).trans ((n0_28 hS18)).symm)
      try rw [← ee24]
      have ee25 : A22 g1 0 = A18 g1 0 := hy22.2 _ _ hg19.1 (((nP_0 hS22 hg23)).trans ((nP_0 hS18 hg19)).symm)
      try rw [← ee25]
      exact qx_i hS22 hx22 h
    · have h := h.2 hc
      exact qx_i hS4 hx4 h
theorem w_X11_feasibleAt_0 {E : EE} {d : Nat} {V : VH} {K : Int32 → VH → Prop} {x1 : Int32} {x2 : Int32}  (h0 : 0 < d) (h : vMP E (d - 1) M_X11_scored [sl 0 28, wi x1] V (fun g1 V1 => (¬ vL V1 g1 = true → K 0 V1) ∧ (vL V1 g1 = true → (g1 ≠ 0 ∧ g1 ≠ 6) ∧ ((x2 < 0 → K 0 V1) ∧ (¬ (x2 < 0) → vMI E (d - 1) M_X9_gatherFor [sl g1 19, sl g1 0, wi 0] V1 (fun r4 V4 => (r4 ≤ x2 → K 0 V4) ∧ (¬ (r4 ≤ x2) → vp_in x2 (vN V4 g1 20) ∧ (vMI E (d - 1) M_X3_moveTo [sl g1 0, wi (vI V4 g1 20 (Int32.toNatClampNeg x2))] V4 (fun r9 V9 => (r9 = 0 → K 0 V9) ∧ (¬ (r9 = 0) → K 1 V9)))))))))) : vMI E d M_X11_feasibleAt [sl 0 28, wi x1, wi x2] V K := by
  intro G A hR
  obtain ⟨L, P, rfl, hS⟩ := hR
  have hx := Xt.refl (V := pl G A L P) (A := A)
  show wpM E d M_X11_feasibleAt [vr (A 0 28), vi x1, vi x2] G _
  refine wpM_of mk_X11_feasibleAt (Nat.le_of_ble_eq_true rfl) ?_
  refine v_X11_feasibleAt_0 h0 ?_
  refine ⟨hS.o (s0_28 hS), ?_⟩
  refine wpM.mono (h G A ⟨L, P, rfl, hS⟩) (fun rr1 G1 hr => ?_)
  obtain ⟨A1, W1, w1, ⟨L1, P1, rfl, hS1⟩, hy1, rfl, g1, rfl, h⟩ := hr
  refine ⟨A1 g1 0, rfl, ?_⟩
  have hx1 := Xt.trans hx hy1
  have ee2 : A1 0 28 = A 0 28 := hy1.2 _ _ hS.1.1 (((n0_28 hS1)).trans ((n0_28 hS)).symm)
  try rw [← ee2]
  refine ⟨fun hc => ?_, fun hc => ?_⟩
  · have h := h.1 ((hS1.null (nf_pos _)).mp hc)
    exact qx_i hS1 hx1 h
  · have h := h.2 (hS1.lv0 hc)
    obtain ⟨hw, h⟩ := h
    have hg3 : PG L1 g1 := ⟨hS1.lv0 hc, hw⟩
    refine ⟨fun hc => ?_, fun hc => ?_⟩
    · have h := h.1 hc
      exact qx_i hS1 hx1 h
    · have h := h.2 hc
      refine ⟨hS1.o (sP_0 hg3), ?_⟩
      rw [lP_0_6 hS1 hg3]
      refine ⟨hS1.o (sP_19 hg3), ?_⟩
      refine wpM.mono (h G1 A1 ⟨L1, P1, rfl, hS1⟩) (fun rr4 G4 hr => ?_)
      obtain ⟨A4, W4, w4, ⟨L4, P4, rfl, hS4⟩, hy4, rfl, r4, rfl, h⟩ := hr
      refine ⟨r4, rfl, ?_⟩
      have hx4 := Xt.trans hx1 hy4
      have hg5 : PG L4 g1 := PG.up hy4 hg3
      have ee6 : A4 0 28 = A1 0 28 := hy4.2 _ _ hS1.1.1 (((n0_28 hS4)).trans ((n0_28 hS1)).symm)
      try rw [← ee6]
      have ee7 : A4 g1 0 = A1 g1 0 := hy4.2 _ _ hg3.1 (((nP_0 hS4 hg5)).trans ((nP_0 hS1 hg3)).symm)
      try rw [← ee7]
      refine ⟨fun hc => ?_, fun hc => ?_⟩
      · have h := h.1 hc
        exact qx_i hS4 hx4 h
      · have h := h.2 hc
        refine ⟨hS4.o (sP_0 hg5), ?_⟩
        rw [lP_0_6 hS4 hg5]
        refine ⟨hS4.o (sP_19 hg5), ?_⟩
        rw [lP_19_2 hS4 hg5]
        refine ⟨hS4.o (sP_20 hg5), ?_⟩
        obtain ⟨hi8, h⟩ := h
        refine ⟨hi8, ?_⟩
        refine wpM.mono (h G4 A4 ⟨L4, P4, rfl, hS4⟩) (fun rr9 G9 hr => ?_)
        obtain ⟨A9, W9, w9, ⟨L9, P9, rfl, hS9⟩, hy9, rfl, r9, rfl, h⟩ := hr
        refine ⟨r9, rfl, ?_⟩
        have hx9 := Xt.trans hx4 hy9
        have hg10 : PG L9 g1 := PG.up hy9 hg5
        have ee11 : A9 0 28 = A4 0 28 := hy9.2 _ _ hS4.1.1 (((n0_28 hS9)).trans ((n0_28 hS4)).symm)
        try rw [← ee11]
        have ee12 : A9 g1 0 = A4 g1 0 := hy9.2 _ _ hg5.1 (((nP_0 hS9 hg10)).trans ((nP_0 hS4 hg5)).symm)
        try rw [← ee12]
        refine ⟨fun hc => ?_, fun hc => ?_⟩
        · have h := h.1 hc
          exact qx_i hS9 hx9 h
        · have h := h.2 hc
          exact qx_i hS9 hx9 h
theorem w_X11_feasibles_0 {E : EE} {d : Nat} {V : VH} {K : Int32 → VH → Prop} {x1 : Int32}  (h0 : 0 < d) (h : vMP E (d - 1) M_X11_scored [sl 0 28, wi x1] V (fun g1 V1 => (vL V1 g1 = true → (g1 ≠ 0 ∧ g1 ≠ 6) ∧ (vMI E (d - 1) M_X9_gatherFor [sl g1 19, sl g1 0, wi 0] V1 (fun r4 V4 => K r4 V4))) ∧ (¬ vL V1 g1 = true → K (-1) V1))) : vMI E d M_X11_feasibles [sl 0 28, wi x1] V K := by
  intro G A hR
  obtain ⟨L, P, rfl, hS⟩ := hR
  have hx := Xt.refl (V := pl G A L P) (A := A)
  show wpM E d M_X11_feasibles [vr (A 0 28), vi x1] G _
  refine wpM_of mk_X11_feasibles (Nat.le_of_ble_eq_true rfl) ?_
  refine v_X11_feasibles_0 h0 ?_
  refine ⟨hS.o (s0_28 hS), ?_⟩
  refine wpM.mono (h G A ⟨L, P, rfl, hS⟩) (fun rr1 G1 hr => ?_)
  obtain ⟨A1, W1, w1, ⟨L1, P1, rfl, hS1⟩, hy1, rfl, g1, rfl, h⟩ := hr
  refine ⟨A1 g1 0, rfl, ?_⟩
  have hx1 := Xt.trans hx hy1
  have ee2 : A1 0 28 = A 0 28 := hy1.2 _ _ hS.1.1 (((n0_28 hS1)).trans ((n0_28 hS)).symm)
  try rw [← ee2]
  refine ⟨fun hc => ?_, fun hc => ?_⟩
  · have h := h.1 (hS1.lv0 hc)
    obtain ⟨hw, h⟩ := h
    have hg3 : PG L1 g1 := ⟨hS1.lv0 hc, hw⟩
    refine ⟨hS1.o (sP_0 hg3), ?_⟩
    rw [lP_0_6 hS1 hg3]
    refine ⟨hS1.o (sP_19 hg3), ?_⟩
    refine wpM.mono (h G1 A1 ⟨L1, P1, rfl, hS1⟩) (fun rr4 G4 hr => ?_)
    obtain ⟨A4, W4, w4, ⟨L4, P4, rfl, hS4⟩, hy4, rfl, r4, rfl, h⟩ := hr
    refine ⟨r4, rfl, ?_⟩
    have hx4 := Xt.trans hx1 hy4
    have hg5 : PG L4 g1 := PG.up hy4 hg3
    have ee6 : A4 0 28 = A1 0 28 := hy4.2 _ _ hS1.1.1 (((n0_28 hS4)).trans ((n0_28 hS1)).symm)
    try rw [← ee6]
    have ee7 : A4 g1 0 = A1 g1 0 := hy4.2 _ _ hg3.1 (((nP_0 hS4 hg5)).trans ((nP_0 hS1 hg3)).symm)
    try rw [← ee7]
    exact qx_i hS4 hx4 h
  · have h := h.2 ((hS1.null (nf_pos _)).mp hc)
    exact qx_i hS1 hx1 h
theorem w_X11_bestAt_0 {E : EE} {d : Nat} {V : VH} {K : Int32 → VH → Prop} {x1 : Int32} {x2 : Int32}  (h0 : 0 < d) (h : vMP E (d - 1) M_X11_scored [sl 0 28, wi x1] V (fun g1 V1 => (¬ vL V1 g1 = true → K 0 V1) ∧ (vL V1 g1 = true → (g1 ≠ 0 ∧ g1 ≠ 6) ∧ ((x2 < 0 → K 0 V1) ∧ (¬ (x2 < 0) → vMI E (d - 1) M_X9_gatherFor [sl g1 19, sl g1 0, wi 1] V1 (fun r4 V4 => (r4 ≤ x2 → K 0 V4) ∧ (¬ (r4 ≤ x2) → vp_in x2 (vN V4 g1 20) ∧ (vMI E (d - 1) M_X3_moveTo [sl g1 0, wi (vI V4 g1 20 (Int32.toNatClampNeg x2))] V4 (fun r9 V9 => (r9 = 0 → K 0 V9) ∧ (¬ (r9 = 0) → K 1 V9)))))))))) : vMI E d M_X11_bestAt [sl 0 28, wi x1, wi x2] V K := by
  intro G A hR
  obtain ⟨L, P, rfl, hS⟩ := hR
  have hx := Xt.refl (V := pl G A L P) (A := A)
  show wpM E d M_X11_bestAt [vr (A 0 28), vi x1, vi x2] G _
  refine wpM_of mk_X11_bestAt (Nat.le_of_ble_eq_true rfl) ?_
  refine v_X11_bestAt_0 h0 ?_
  refine ⟨hS.o (s0_28 hS), ?_⟩
  refine wpM.mono (h G A ⟨L, P, rfl, hS⟩) (fun rr1 G1 hr => ?_)
  obtain ⟨A1, W1, w1, ⟨L1, P1, rfl, hS1⟩, hy1, rfl, g1, rfl, h⟩ := hr
  refine ⟨A1 g1 0, rfl, ?_⟩
  have hx1 := Xt.trans hx hy1
  have ee2 : A1 0 28 = A 0 28 := hy1.2 _ _ hS.1.1 (((n0_28 hS1)).trans ((n0_28 hS)).symm)
  try rw [← ee2]
  refine ⟨fun hc => ?_, fun hc => ?_⟩
  · have h := h.1 ((hS1.null (nf_pos _)).mp hc)
    exact qx_i hS1 hx1 h
  · have h := h.2 (hS1.lv0 hc)
    obtain ⟨hw, h⟩ := h
    have hg3 : PG L1 g1 := ⟨hS1.lv0 hc, hw⟩
    refine ⟨fun hc => ?_, fun hc => ?_⟩
    · have h := h.1 hc
      exact qx_i hS1 hx1 h
    · have h := h.2 hc
      refine ⟨hS1.o (sP_0 hg3), ?_⟩
      rw [lP_0_6 hS1 hg3]
      refine ⟨hS1.o (sP_19 hg3), ?_⟩
      refine wpM.mono (h G1 A1 ⟨L1, P1, rfl, hS1⟩) (fun rr4 G4 hr => ?_)
      obtain ⟨A4, W4, w4, ⟨L4, P4, rfl, hS4⟩, hy4, rfl, r4, rfl, h⟩ := hr
      refine ⟨r4, rfl, ?_⟩
      have hx4 := Xt.trans hx1 hy4
      have hg5 : PG L4 g1 := PG.up hy4 hg3
      have ee6 : A4 0 28 = A1 0 28 := hy4.2 _ _ hS1.1.1 (((n0_28 hS4)).trans ((n0_28 hS1)).symm)
      try rw [← ee6]
      have ee7 : A4 g1 0 = A1 g1 0 := hy4.2 _ _ hg3.1 (((nP_0 hS4 hg5)).trans ((nP_0 hS1 hg3)).symm)
      try rw [← ee7]
      refine ⟨fun hc => ?_, fun hc => ?_⟩
      · have h := h.1 hc
        exact qx_i hS4 hx4 h
      · have h := h.2 hc
        refine ⟨hS4.o (sP_0 hg5), ?_⟩
        rw [lP_0_6 hS4 hg5]
        refine ⟨hS4.o (sP_19 hg5), ?_⟩
        rw [lP_19_2 hS4 hg5]
        refine ⟨hS4.o (sP_20 hg5), ?_⟩
        obtain ⟨hi8, h⟩ := h
        refine ⟨hi8, ?_⟩
        refine wpM.mono (h G4 A4 ⟨L4, P4, rfl, hS4⟩) (fun rr9 G9 hr => ?_)
        obtain ⟨A9, W9, w9, ⟨L9, P9, rfl, hS9⟩, hy9, rfl, r9, rfl, h⟩ := hr
        refine ⟨r9, rfl, ?_⟩
        have hx9 := Xt.trans hx4 hy9
        have hg10 : PG L9 g1 := PG.up hy9 hg5
        have ee11 : A9 0 28 = A4 0 28 := hy9.2 _ _ hS4.1.1 (((n0_28 hS9)).trans ((n0_28 hS4)).symm)
        try rw [← ee11]
        have ee12 : A9 g1 0 = A4 g1 0 := hy9.2 _ _ hg5.1 (((nP_0 hS9 hg10)).trans ((nP_0 hS4 hg5)).symm)
        try rw [← ee12]
        refine ⟨fun hc => ?_, fun hc => ?_⟩
        · have h := h.1 hc
          exact qx_i hS9 hx9 h
        · have h := h.2 hc
          exact qx_i hS9 hx9 h
theorem w_X11_bests_0 {E : EE} {d : Nat} {V : VH} {K : Int32 → VH → Prop} {x1 : Int32}  (h0 : 0 < d) (h : vMP E (d - 1) M_X11_scored [sl 0 28, wi x1] V (fun g1 V1 => (vL V1 g1 = true → (g1 ≠ 0 ∧ g1 ≠ 6) ∧ (vMI E (d - 1) M_X9_gatherFor [sl g1 19, sl g1 0, wi 1] V1 (fun r4 V4 => K r4 V4))) ∧ (¬ vL V1 g1 = true → K (-1) V1))) : vMI E d M_X11_bests [sl 0 28, wi x1] V K := by
  intro G A hR
  obtain ⟨L, P, rfl, hS⟩ := hR
  have hx := Xt.refl (V := pl G A L P) (A := A)
  show wpM E d M_X11_bests [vr (A 0 28), vi x1] G _
  refine wpM_of mk_X11_bests (Nat.le_of_ble_eq_true rfl) ?_
  refine v_X11_bests_0 h0 ?_
  refine ⟨hS.o (s0_28 hS), ?_⟩
  refine wpM.mono (h G A ⟨L, P, rfl, hS⟩) (fun rr1 G1 hr => ?_)
  obtain ⟨A1, W1, w1, ⟨L1, P1, rfl, hS1⟩, hy1, rfl, g1, rfl, h⟩ := hr
  refine ⟨A1 g1 0, rfl, ?_⟩
  have hx1 := Xt.trans hx hy1
  have ee2 : A1 0 28 = A 0 28 := hy1.2 _ _ hS.1.1 (((n0_28 hS1)).trans ((n0_28 hS)).symm)
  try rw [← ee2]
  refine ⟨fun hc => ?_, fun hc => ?_⟩
  · have h := h.1 (hS1.lv0 hc)
    obtain ⟨hw, h⟩ := h
    have hg3 : PG L1 g1 := ⟨hS1.lv0 hc, hw⟩
    refine ⟨hS1.o (sP_0 hg3), ?_⟩
    rw [lP_0_6 hS1 hg3]
    refine ⟨hS1.o (sP_19 hg3), ?_⟩
    refine wpM.mono (h G1 A1 ⟨L1, P1, rfl, hS1⟩) (fun rr4 G4 hr => ?_)
    obtain ⟨A4, W4, w4, ⟨L4, P4, rfl, hS4⟩, hy4, rfl, r4, rfl, h⟩ := hr
    refine ⟨r4, rfl, ?_⟩
    have hx4 := Xt.trans hx1 hy4
    have hg5 : PG L4 g1 := PG.up hy4 hg3
    have ee6 : A4 0 28 = A1 0 28 := hy4.2 _ _ hS1.1.1 (((n0_28 hS4)).trans ((n0_28 hS1)).symm)
    try rw [← ee6]
    have ee7 : A4 g1 0 = A1 g1 0 := hy4.2 _ _ hg3.1 (((nP_0 hS4 hg5)).trans ((nP_0 hS1 hg3)).symm)
    try rw [← ee7]
    exact qx_i hS4 hx4 h
  · have h := h.2 ((hS1.null (nf_pos _)).mp hc)
    exact qx_i hS1 hx1 h
theorem w_X11_best_0 {E : EE} {d : Nat} {V : VH} {K : Int64 → VH → Prop} {x1 : Int32} {x2 : Int32}  (h0 : 0 < d) (h : vMP E (d - 1) M_X11_scored [sl 0 28, wi x1] V (fun g1 V1 => (¬ vL V1 g1 = true → K (-9223372036854775808) V1) ∧ (vL V1 g1 = true → (g1 ≠ 0 ∧ g1 ≠ 6) ∧ (vMI E (d - 1) M_X11_isLevel [wi x2] V1 (fun r4 V4 => (r4 = 0 → K (-9223372036854775808) V4) ∧ (¬ (r4 = 0) → vMI E (d - 1) M_X9_gatherFor [sl g1 19, sl g1 0, wi 1] V4 (fun r8 V8 => (¬ r8 = 0 → vp_in 0 (vN V8 g1 20) ∧ (vMJ E (d - 1) M_X9_scoreOf [sl g1 19, wi (vI V8 g1 20 (Int32.toNatClampNeg 0)), wi x2] V8 (fun r13 V13 => K r13 V13))) ∧ (r8 = 0 → K (-9223372036854775808) V8)))))))) : vMJ E d M_X11_best [sl 0 28, wi x1, wi x2] V K := by
  intro G A hR
  obtain ⟨L, P, rfl, hS⟩ := hR
  have hx := Xt.refl (V := pl G A L P) (A := A)
  show wpM E d M_X11_best [vr (A 0 28), vi x1, vi x2] G _
  refine wpM_of mk_X11_best (Nat.le_of_ble_eq_true rfl) ?_
  refine v_X11_best_0 h0 ?_
  refine ⟨hS.o (s0_28 hS), ?_⟩
  refine wpM.mono (h G A ⟨L, P, rfl, hS⟩) (fun rr1 G1 hr => ?_)
  obtain ⟨A1, W1, w1, ⟨L1, P1, rfl, hS1⟩, hy1, rfl, g1, rfl, h⟩ := hr
  refine ⟨A1 g1 0, rfl, ?_⟩
  have hx1 := Xt.trans hx hy1
  have ee2 : A1 0 28 = A 0 28 := hy1.2 _ _ hS.1.1 (((n0_28 hS1)).trans ((n0_28 hS)).symm)
  try rw [← ee2]
  refine ⟨fun hc => ?_, fun hc => ?_⟩
  · have h := h.1 ((hS1.null (nf_pos _)).mp hc)
    exact qx_j hS1 hx1 h
  · have h := h.2 (hS1.lv0 hc)
    obtain ⟨hw, h⟩ := h
    have hg3 : PG L1 g1 := ⟨hS1.lv0 hc, hw⟩
    refine wpM.mono (h G1 A1 ⟨L1, P1, rfl, hS1⟩) (fun rr4 G4 hr => ?_)
    obtain ⟨A4, W4, w4, ⟨L4, P4, rfl, hS4⟩, hy4, rfl, r4, rfl, h⟩ := hr
    refine ⟨r4, rfl, ?_⟩
    have hx4 := Xt.trans hx1 hy4
    have hg5 : PG L4 g1 := PG.up hy4 hg3
    have ee6 : A4 0 28 = A1 0 28 := hy4.2 _ _ hS1.1.1 (((n0_28 hS4)).trans ((n0_28 hS1)).symm)
    try rw [← ee6]
    have ee7 : A4 g1 0 = A1 g1 0 := hy4.2 _ _ hg3.1 (((nP_0 hS4 hg5)).trans ((nP_0 hS1 hg3)).symm)
    try rw [← ee7]
    refine ⟨fun hc => ?_, fun hc => ?_⟩
    · have h := h.1 hc
      exact qx_j hS4 hx4 h
    · have h := h.2 hc
      refine ⟨hS4.o (sP_0 hg5), ?_⟩
      rw [lP_0_6 hS4 hg5]
      refine ⟨hS4.o (sP_19 hg5), ?_⟩
      refine wpM.mono (h G4 A4 ⟨L4, P4, rfl, hS4⟩) (fun rr8 G8 hr => ?_)
      obtain ⟨A8, W8, w8, ⟨L8, P8, rfl, hS8⟩, hy8, rfl, r8, rfl, h⟩ := hr
      refine ⟨r8, rfl, ?_⟩
      have hx8 := Xt.trans hx4 hy8
      have hg9 : PG L8 g1 := PG.up hy8 hg5
      have ee10 : A8 0 28 = A4 0 28 := hy8.2 _ _ hS4.1.1 (((n0_28 hS8)).trans ((n0_28 hS4)).symm)
      try rw [← ee10]
      have ee11 : A8 g1 0 = A4 g1 0 := hy8.2 _ _ hg5.1 (((nP_0 hS8 hg9)).trans ((nP_0 hS4 hg5)).symm)
      try rw [← ee11]
      refine ⟨fun hc => ?_, fun hc => ?_⟩
      · have h := h.1 hc
        refine ⟨hS8.o (sP_0 hg9), ?_⟩
        rw [lP_0_6 hS8 hg9]
        refine ⟨hS8.o (sP_19 hg9), ?_⟩
        rw [lP_19_2 hS8 hg9]
        refine ⟨hS8.o (sP_20 hg9), ?_⟩
        obtain ⟨hi12, h⟩ := h
        refine ⟨hi12, ?_⟩
        refine wpM.mono (h G8 A8 ⟨L8, P8, rfl, hS8⟩) (fun rr13 G13 hr => ?_)
        obtain ⟨A13, W13, w13, ⟨L13, P13, rfl, hS13⟩, hy13, rfl, r13, rfl, h⟩ := hr
        refine ⟨r13, rfl, ?_⟩
        have hx13 := Xt.trans hx8 hy13
        have hg14 : PG L13 g1 := PG.up hy13 hg9
        have ee15 : A13 0 28 = A8 0 28 := hy13.2 _ _ hS8.1.1 (((n0_28 hS13)).trans ((n0_28 hS8)).symm)
        try rw [← ee15]
        have ee16 : A13 g1 0 = A8 g1 0 := hy13.2 _ _ hg9.1 (((nP_0 hS13 hg14)).trans ((nP_0 hS8 hg9)).symm)
        try rw [← ee16]
        exact qx_j hS13 hx13 h
      · have h := h.2 hc
        exact qx_j hS8 hx8 h
theorem w_X11_solve_0 {E : EE} {d : Nat} {V : VH} {K : Int32 → VH → Prop} {x1 : Int32}  (h0 : 0 < d) (h : vMP E (d - 1) M_X11_scored [sl 0 28, wi x1] V (fun g1 V1 => (vL V1 g1 = true → (g1 ≠ 0 ∧ g1 ≠ 6) ∧ (vMI E (d - 1) M_X9_gatherFor [sl g1 19, sl g1 0, wi 1] V1 (fun r4 V4 => (r4 ≤ 0 → K 0 V4) ∧ (¬ (r4 ≤ 0) → vp_in 0 (vN V4 g1 20) ∧ (vMI E (d - 1) M_X3_moveTo [sl g1 0, wi (vI V4 g1 20 (Int32.toNatClampNeg 0))] V4 (fun r9 V9 => (r9 = 0 → K 0 V9) ∧ (¬ (r9 = 0) → K 1 V9))))))) ∧ (¬ vL V1 g1 = true → K (-1) V1))) : vMI E d M_X11_solve [sl 0 28, wi x1] V K := by
  intro G A hR
  obtain ⟨L, P, rfl, hS⟩ := hR
  have hx := Xt.refl (V := pl G A L P) (A := A)
  show wpM E d M_X11_solve [vr (A 0 28), vi x1] G _
  refine wpM_of mk_X11_solve (Nat.le_of_ble_eq_true rfl) ?_
  refine v_X11_solve_0 h0 ?_
  refine ⟨hS.o (s0_28 hS), ?_⟩
  refine wpM.mono (h G A ⟨L, P, rfl, hS⟩) (fun rr1 G1 hr => ?_)
  obtain ⟨A1, W1, w1, ⟨L1, P1, rfl, hS1⟩, hy1, rfl, g1, rfl, h⟩ := hr
  refine ⟨A1 g1 0, rfl, ?_⟩
  have hx1 := Xt.trans hx hy1
  have ee2 : A1 0 28 = A 0 28 := hy1.2 _ _ hS.1.1 (((n0_28 hS1)).trans ((n0_28 hS)).symm)
  try rw [← ee2]
  refine ⟨fun hc => ?_, fun hc => ?_⟩
  · have h := h.1 (hS1.lv0 hc)
    obtain ⟨hw, h⟩ := h
    have hg3 : PG L1 g1 := ⟨hS1.lv0 hc, hw⟩
    refine ⟨hS1.o (sP_0 hg3), ?_⟩
    rw [lP_0_6 hS1 hg3]
    refine ⟨hS1.o (sP_19 hg3), ?_⟩
    refine wpM.mono (h G1 A1 ⟨L1, P1, rfl, hS1⟩) (fun rr4 G4 hr => ?_)
    obtain ⟨A4, W4, w4, ⟨L4, P4, rfl, hS4⟩, hy4, rfl, r4, rfl, h⟩ := hr
    refine ⟨r4, rfl, ?_⟩
    have hx4 := Xt.trans hx1 hy4
    have hg5 : PG L4 g1 := PG.up hy4 hg3
    have ee6 : A4 0 28 = A1 0 28 := hy4.2 _ _ hS1.1.1 (((n0_28 hS4)).trans ((n0_28 hS1)).symm)
    try rw [← ee6]
    have ee7 : A4 g1 0 = A1 g1 0 := hy4.2 _ _ hg3.1 (((nP_0 hS4 hg5)).trans ((nP_0 hS1 hg3)).symm)
    try rw [← ee7]
    refine ⟨fun hc => ?_, fun hc => ?_⟩
    · have h := h.1 hc
      exact qx_i hS4 hx4 h
    · have h := h.2 hc
      refine ⟨hS4.o (sP_0 hg5), ?_⟩
      rw [lP_0_6 hS4 hg5]
      refine ⟨hS4.o (sP_19 hg5), ?_⟩
      rw [lP_19_2 hS4 hg5]
      refine ⟨hS4.o (sP_20 hg5), ?_⟩
      obtain ⟨hi8, h⟩ := h
      refine ⟨hi8, ?_⟩
      refine wpM.mono (h G4 A4 ⟨L4, P4, rfl, hS4⟩) (fun rr9 G9 hr => ?_)
      obtain ⟨A9, W9, w9, ⟨L9, P9, rfl, hS9⟩, hy9, rfl, r9, rfl, h⟩ := hr
      refine ⟨r9, rfl, ?_⟩
      have hx9 := Xt.trans hx4 hy9
      have hg10 : PG L9 g1 := PG.up hy9 hg5
      have ee11 : A9 0 28 = A4 0 28 := hy9.2 _ _ hS4.1.1 (((n0_28 hS9)).trans ((n0_28 hS4)).symm)
      try rw [← ee11]
      have ee12 : A9 g1 0 = A4 g1 0 := hy9.2 _ _ hg5.1 (((nP_0 hS9 hg10)).trans ((nP_0 hS4 hg5)).symm)
      try rw [← ee12]
      refine ⟨fun hc => ?_, fun hc => ?_⟩
      · have h := h.1 hc
        exact qx_i hS9 hx9 h
      · have h := h.2 hc
        exact qx_i hS9 hx9 h
  · have h := h.2 ((hS1.null (nf_pos _)).mp hc)
    exact qx_i hS1 hx1 h
theorem w_X11_hopeless_0 {E : EE} {d : Nat} {V : VH} {K : Int32 → VH → Prop} {x1 : Int32}  (h0 : 0 < d) (h : vMP E (d - 1) M_X11_scored [sl 0 28, wi x1] V (fun g1 V1 => (vL V1 g1 = true → (g1 ≠ 0 ∧ g1 ≠ 6) ∧ (vMI E (d - 1) M_X1_alwaysBroken [sl 0 10, sl g1 0] V1 (fun r4 V4 => K r4 V4))) ∧ (¬ vL V1 g1 = true → K (-1) V1))) : vMI E d M_X11_hopeless [sl 0 28, wi x1] V K := by
  intro G A hR
  obtain ⟨L, P, rfl, hS⟩ := hR
  have hx := Xt.refl (V := pl G A L P) (A := A)
  show wpM E d M_X11_hopeless [vr (A 0 28), vi x1] G _
  refine wpM_of mk_X11_hopeless (Nat.le_of_ble_eq_true rfl) ?_
  refine v_X11_hopeless_0 h0 ?_
  refine ⟨hS.o (s0_28 hS), ?_⟩
  refine wpM.mono (h G A ⟨L, P, rfl, hS⟩) (fun rr1 G1 hr => ?_)
  obtain ⟨A1, W1, w1, ⟨L1, P1, rfl, hS1⟩, hy1, rfl, g1, rfl, h⟩ := hr
  refine ⟨A1 g1 0, rfl, ?_⟩
  have hx1 := Xt.trans hx hy1
  have ee2 : A1 0 28 = A 0 28 := hy1.2 _ _ hS.1.1 (((n0_28 hS1)).trans ((n0_28 hS)).symm)
  try rw [← ee2]
  refine ⟨fun hc => ?_, fun hc => ?_⟩
  · have h := h.1 (hS1.lv0 hc)
    obtain ⟨hw, h⟩ := h
    have hg3 : PG L1 g1 := ⟨hS1.lv0 hc, hw⟩
    refine ⟨hS1.o (s0_28 hS1), ?_⟩
    rw [l0_28_4 hS1]
    refine ⟨hS1.o (s0_10 hS1), ?_⟩
    refine wpM.mono (h G1 A1 ⟨L1, P1, rfl, hS1⟩) (fun rr4 G4 hr => ?_)
    obtain ⟨A4, W4, w4, ⟨L4, P4, rfl, hS4⟩, hy4, rfl, r4, rfl, h⟩ := hr
    refine ⟨r4, rfl, ?_⟩
    have hx4 := Xt.trans hx1 hy4
    have hg5 : PG L4 g1 := PG.up hy4 hg3
    have ee6 : A4 0 28 = A1 0 28 := hy4.2 _ _ hS1.1.1 (((n0_28 hS4)).trans ((n0_28 hS1)).symm)
    try rw [← ee6]
    have ee7 : A4 g1 0 = A1 g1 0 := hy4.2 _ _ hg3.1 (((nP_0 hS4 hg5)).trans ((nP_0 hS1 hg3)).symm)
    try rw [← ee7]
    exact qx_i hS4 hx4 h
  · have h := h.2 ((hS1.null (nf_pos _)).mp hc)
    exact qx_i hS1 hx1 h
theorem w_X11_isLeft_0 {E : EE} {d : Nat} {V : VH} {K : Int32 → VH → Prop} {x1 : Int32} {x2 : Int32} {x3 : Int32}  (h0 : 0 < d) (h : vMP E (d - 1) M_X11_scored [sl 0 28, wi x1] V (fun g1 V1 => (¬ vL V1 g1 = true → K 0 V1) ∧ (vL V1 g1 = true → (g1 ≠ 0 ∧ g1 ≠ 6) ∧ (vMI E (d - 1) M_X7_isVar [sl g1 5, wi x2] V1 (fun r4 V4 => (r4 = 0 → K 0 V4) ∧ (¬ (r4 = 0) → (x3 < 0 → K 0 V4) ∧ (¬ (x3 < 0) → vp_in x2 12 ∧ ((x3 < (vI V4 g1 6 (Int32.toNatClampNeg x2)) → vMI E (d - 1) M_X1_workOut [sl 0 10, sl g1 0] V4 (fun r9 V9 => vp_in x2 12 ∧ (((((vI V9 0 11 (Int32.toNatClampNeg x2)) >>> (x3 &&& 31)) &&& 1) = 0 → K 0 V9) ∧ (¬ ((((vI V9 0 11 (Int32.toNatClampNeg x2)) >>> (x3 &&& 31)) &&& 1) = 0) → K 1 V9)))) ∧ (¬ (x3 < (vI V4 g1 6 (Int32.toNatClampNeg x2))) → K 0 V4))))))))) : vMI E d M_X11_isLeft [sl 0 28, wi x1, wi x2, wi x3] V K := by
  intro G A hR
  obtain ⟨L, P, rfl, hS⟩ := hR
  have hx := Xt.refl (V := pl G A L P) (A := A)
  show wpM E d M_X11_isLeft [vr (A 0 28), vi x1, vi x2, vi x3] G _
  refine wpM_of mk_X11_isLeft (Nat.le_of_ble_eq_true rfl) ?_
  refine v_X11_isLeft_0 h0 ?_
  refine ⟨hS.o (s0_28 hS), ?_⟩
  refine wpM.mono (h G A ⟨L, P, rfl, hS⟩) (fun rr1 G1 hr => ?_)
  obtain ⟨A1, W1, w1, ⟨L1, P1, rfl, hS1⟩, hy1, rfl, g1, rfl, h⟩ := hr
  refine ⟨A1 g1 0, rfl, ?_⟩
  have hx1 := Xt.trans hx hy1
  have ee2 : A1 0 28 = A 0 28 := hy1.2 _ _ hS.1.1 (((n0_28 hS1)).trans ((n0_28 hS)).symm)
  try rw [← ee2]
  refine ⟨fun hc => ?_, fun hc => ?_⟩
  · have h := h.1 ((hS1.null (nf_pos _)).mp hc)
    exact qx_i hS1 hx1 h
  · have h := h.2 (hS1.lv0 hc)
    obtain ⟨hw, h⟩ := h
    have hg3 : PG L1 g1 := ⟨hS1.lv0 hc, hw⟩
    refine ⟨hS1.o (sP_0 hg3), ?_⟩
    rw [lP_0_4 hS1 hg3]
    refine ⟨hS1.o (sP_5 hg3), ?_⟩
    refine wpM.mono (h G1 A1 ⟨L1, P1, rfl, hS1⟩) (fun rr4 G4 hr => ?_)
    obtain ⟨A4, W4, w4, ⟨L4, P4, rfl, hS4⟩, hy4, rfl, r4, rfl, h⟩ := hr
    refine ⟨r4, rfl, ?_⟩
    have hx4 := Xt.trans hx1 hy4
    have hg5 : PG L4 g1 := PG.up hy4 hg3
    have ee6 : A4 0 28 = A1 0 28 := hy4.2 _ _ hS1.1.1 (((n0_28 hS4)).trans ((n0_28 hS1)).symm)
    try rw [← ee6]
    have ee7 : A4 g1 0 = A1 g1 0 := hy4.2 _ _ hg3.1 (((nP_0 hS4 hg5)).trans ((nP_0 hS1 hg3)).symm)
    try rw [← ee7]
    refine ⟨fun hc => ?_, fun hc => ?_⟩
    · have h := h.1 hc
      exact qx_i hS4 hx4 h
    · have h := h.2 hc
      refine ⟨fun hc => ?_, fun hc => ?_⟩
      · have h := h.1 hc
        exact qx_i hS4 hx4 h
      · have h := h.2 hc
        refine ⟨hS4.o (sP_0 hg5), ?_⟩
        rw [lP_0_4 hS4 hg5]
        refine ⟨hS4.o (sP_5 hg5), ?_⟩
        rw [lP_5_2 hS4 hg5]
        refine ⟨hS4.o (sP_6 hg5), ?_⟩
        obtain ⟨hi8, h⟩ := h
        refine ⟨by first | (rw [(nP_6 hS4 hg5)]; exact hi8) | exact (congrArg (vp_in _) (nP_6 hS4 hg5)).mpr hi8 | exact hi8, ?_⟩
        refine ⟨fun hc => ?_, fun hc => ?_⟩
        · have h := h.1 hc
          refine ⟨hS4.o (s0_28 hS4), ?_⟩
          rw [l0_28_4 hS4]
          refine ⟨hS4.o (s0_10 hS4), ?_⟩
          refine wpM.mono (h G4 A4 ⟨L4, P4, rfl, hS4⟩) (fun rr9 G9 hr => ?_)
          obtain ⟨A9, W9, w9, ⟨L9, P9, rfl, hS9⟩, hy9, rfl, r9, rfl, h⟩ := hr
          refine ⟨r9, rfl, ?_⟩
          have hx9 := Xt.trans hx4 hy9
          have hg10 : PG L9 g1 := PG.up hy9 hg5
          have ee11 : A9 0 28 = A4 0 28 := hy9.2 _ _ hS4.1.1 (((n0_28 hS9)).trans ((n0_28 hS4)).symm)
          try rw [← ee11]
          have ee12 : A9 g1 0 = A4 g1 0 := hy9.2 _ _ hg5.1 (((nP_0 hS9 hg10)).trans ((nP_0 hS4 hg5)).symm)
          try rw [← ee12]
          refine ⟨hS9.o (s0_28 hS9), ?_⟩
          rw [l0_28_4 hS9]
          refine ⟨hS9.o (s0_10 hS9), ?_⟩
          rw [l0_10_0 hS9]
          refine ⟨hS9.o (s0_11 hS9), ?_⟩
          obtain ⟨hi13, h⟩ := h
          refine ⟨by first | (rw [(n0_11 hS9)]; exact hi13) | exact (congrArg (vp_in _) (n0_11 hS9)).mpr hi13 | exact hi13, ?_⟩
          refine ⟨fun hc => ?_, fun hc => ?_⟩
          · have h := h.1 hc
            exact qx_i hS9 hx9 h
          · have h := h.2 hc
            exact qx_i hS9 hx9 h
        · have h := h.2 hc
          exact qx_i hS4 hx4 h
theorem w_X11_reach_0 {E : EE} {d : Nat} {V : VH} {K : Int32 → VH → Prop} {x1 : Int32}  (h0 : 0 < d) (h : vMP E (d - 1) M_X11_scored [sl 0 28, wi x1] V (fun g1 V1 => (vL V1 g1 = true → (g1 ≠ 0 ∧ g1 ≠ 6) ∧ (vMI E (d - 1) M_X1_workOut [sl 0 10, sl g1 0] V1 (fun r4 V4 => K r4 V4))) ∧ (¬ vL V1 g1 = true → K (-1) V1))) : vMI E d M_X11_reach [sl 0 28, wi x1] V K := by
  intro G A hR
  obtain ⟨L, P, rfl, hS⟩ := hR
  have hx := Xt.refl (V := pl G A L P) (A := A)
  show wpM E d M_X11_reach [vr (A 0 28), vi x1] G _
  refine wpM_of mk_X11_reach (Nat.le_of_ble_eq_true rfl) ?_
  refine v_X11_reach_0 h0 ?_
  refine ⟨hS.o (s0_28 hS), ?_⟩
  refine wpM.mono (h G A ⟨L, P, rfl, hS⟩) (fun rr1 G1 hr => ?_)
  obtain ⟨A1, W1, w1, ⟨L1, P1, rfl, hS1⟩, hy1, rfl, g1, rfl, h⟩ := hr
  refine ⟨A1 g1 0, rfl, ?_⟩
  have hx1 := Xt.trans hx hy1
  have ee2 : A1 0 28 = A 0 28 := hy1.2 _ _ hS.1.1 (((n0_28 hS1)).trans ((n0_28 hS)).symm)
  try rw [← ee2]
  refine ⟨fun hc => ?_, fun hc => ?_⟩
  · have h := h.1 (hS1.lv0 hc)
    obtain ⟨hw, h⟩ := h
    have hg3 : PG L1 g1 := ⟨hS1.lv0 hc, hw⟩
    refine ⟨hS1.o (s0_28 hS1), ?_⟩
    rw [l0_28_4 hS1]
    refine ⟨hS1.o (s0_10 hS1), ?_⟩
    refine wpM.mono (h G1 A1 ⟨L1, P1, rfl, hS1⟩) (fun rr4 G4 hr => ?_)
    obtain ⟨A4, W4, w4, ⟨L4, P4, rfl, hS4⟩, hy4, rfl, r4, rfl, h⟩ := hr
    refine ⟨r4, rfl, ?_⟩
    have hx4 := Xt.trans hx1 hy4
    have hg5 : PG L4 g1 := PG.up hy4 hg3
    have ee6 : A4 0 28 = A1 0 28 := hy4.2 _ _ hS1.1.1 (((n0_28 hS4)).trans ((n0_28 hS1)).symm)
    try rw [← ee6]
    have ee7 : A4 g1 0 = A1 g1 0 := hy4.2 _ _ hg3.1 (((nP_0 hS4 hg5)).trans ((nP_0 hS1 hg3)).symm)
    try rw [← ee7]
    exact qx_i hS4 hx4 h
  · have h := h.2 ((hS1.null (nf_pos _)).mp hc)
    exact qx_i hS1 hx1 h
theorem w_X11_feasible_0 {E : EE} {d : Nat} {V : VH} {K : Int32 → VH → Prop} {x1 : Int32}  (h0 : 0 < d) (h : vMP E (d - 1) M_X11_known [sl 0 28, wi x1] V (fun g1 V1 => (vL V1 g1 = true → (g1 ≠ 0 ∧ g1 ≠ 6) ∧ (vMI E (d - 1) M_X2_weighAll [sl g1 9, sl g1 5, wi (vI V1 g1 0 8), sl g1 23, sl g1 27, wi 0] V1 (fun r4 V4 => (¬ (r4 &&& (vI V4 g1 9 0)) = 0 → K 0 V4) ∧ ((r4 &&& (vI V4 g1 9 0)) = 0 → K 1 V4)))) ∧ (¬ vL V1 g1 = true → K 0 V1))) : vMI E d M_X11_feasible [sl 0 28, wi x1] V K := by
  intro G A hR
  obtain ⟨L, P, rfl, hS⟩ := hR
  have hx := Xt.refl (V := pl G A L P) (A := A)
  show wpM E d M_X11_feasible [vr (A 0 28), vi x1] G _
  refine wpM_of mk_X11_feasible (Nat.le_of_ble_eq_true rfl) ?_
  refine v_X11_feasible_0 h0 ?_
  refine ⟨hS.o (s0_28 hS), ?_⟩
  refine wpM.mono (h G A ⟨L, P, rfl, hS⟩) (fun rr1 G1 hr => ?_)
  obtain ⟨A1, W1, w1, ⟨L1, P1, rfl, hS1⟩, hy1, rfl, g1, rfl, h⟩ := hr
  refine ⟨A1 g1 0, rfl, ?_⟩
  have hx1 := Xt.trans hx hy1
  have ee2 : A1 0 28 = A 0 28 := hy1.2 _ _ hS.1.1 (((n0_28 hS1)).trans ((n0_28 hS)).symm)
  try rw [← ee2]
  refine ⟨fun hc => ?_, fun hc => ?_⟩
  · have h := h.1 (hS1.lv0 hc)
    obtain ⟨hw, h⟩ := h
    have hg3 : PG L1 g1 := ⟨hS1.lv0 hc, hw⟩
    refine ⟨hS1.o (sP_0 hg3), ?_⟩
    rw [lP_0_5 hS1 hg3]
    rw [lP_0_4 hS1 hg3]
    rw [lP_0_7 hS1 hg3]
    rw [lP_0_14 hS1 hg3]
    refine ⟨hS1.o (sP_9 hg3), ?_⟩
    refine wpM.mono (h G1 A1 ⟨L1, P1, rfl, hS1⟩) (fun rr4 G4 hr => ?_)
    obtain ⟨A4, W4, w4, ⟨L4, P4, rfl, hS4⟩, hy4, rfl, r4, rfl, h⟩ := hr
    refine ⟨r4, rfl, ?_⟩
    have hx4 := Xt.trans hx1 hy4
    have hg5 : PG L4 g1 := PG.up hy4 hg3
    have ee6 : A4 0 28 = A1 0 28 := hy4.2 _ _ hS1.1.1 (((n0_28 hS4)).trans ((n0_28 hS1)).symm)
    try rw [← ee6]
    have ee7 : A4 g1 0 = A1 g1 0 := hy4.2 _ _ hg3.1 (((nP_0 hS4 hg5)).trans ((nP_0 hS1 hg3)).symm)
    try rw [← ee7]
    refine ⟨hS4.o (sP_0 hg5), ?_⟩
    rw [lP_0_5 hS4 hg5]
    refine ⟨hS4.o (sP_9 hg5), ?_⟩
    refine ⟨fun hc => ?_, fun hc => ?_⟩
    · have h := h.1 hc
      exact qx_i hS4 hx4 h
    · have h := h.2 hc
      exact qx_i hS4 hx4 h
  · have h := h.2 ((hS1.null (nf_pos _)).mp hc)
    exact qx_i hS1 hx1 h
theorem w_X11_score_0 {E : EE} {d : Nat} {V : VH} {K : Int64 → VH → Prop} {x1 : Int32} {x2 : Int32}  (h0 : 0 < d) (h : vMP E (d - 1) M_X11_known [sl 0 28, wi x1] V (fun g1 V1 => (¬ vL V1 g1 = true → K (-9223372036854775808) V1) ∧ (vL V1 g1 = true → (g1 ≠ 0 ∧ g1 ≠ 6) ∧ (vMI E (d - 1) M_X11_isLevel [wi x2] V1 (fun r4 V4 => (¬ r4 = 0 → vMI E (d - 1) M_X2_weighAll [sl g1 9, sl g1 5, wi (vI V4 g1 0 8), sl g1 23, sl g1 27, wi 0] V4 (fun r8 V8 => vp_in x2 3 ∧ (K (vJ V8 g1 27 (Int32.toNatClampNeg x2)) V8))) ∧ (r4 = 0 → K (-9223372036854775808) V4)))))) : vMJ E d M_X11_score [sl 0 28, wi x1, wi x2] V K := by
  intro G A hR
  obtain ⟨L, P, rfl, hS⟩ := hR
  have hx := Xt.refl (V := pl G A L P) (A := A)
  show wpM E d M_X11_score [vr (A 0 28), vi x1, vi x2] G _
  refine wpM_of mk_X11_score (Nat.le_of_ble_eq_true rfl) ?_
  refine v_X11_score_0 h0 ?_
  refine ⟨hS.o (s0_28 hS), ?_⟩
  refine wpM.mono (h G A ⟨L, P, rfl, hS⟩) (fun rr1 G1 hr => ?_)
  obtain ⟨A1, W1, w1, ⟨L1, P1, rfl, hS1⟩, hy1, rfl, g1, rfl, h⟩ := hr
  refine ⟨A1 g1 0, rfl, ?_⟩
  have hx1 := Xt.trans hx hy1
  have ee2 : A1 0 28 = A 0 28 := hy1.2 _ _ hS.1.1 (((n0_28 hS1)).trans ((n0_28 hS)).symm)
  try rw [← ee2]
  refine ⟨fun hc => ?_, fun hc => ?_⟩
  · have h := h.1 ((hS1.null (nf_pos _)).mp hc)
    exact qx_j hS1 hx1 h
  · have h := h.2 (hS1.lv0 hc)
    obtain ⟨hw, h⟩ := h
    have hg3 : PG L1 g1 := ⟨hS1.lv0 hc, hw⟩
    refine wpM.mono (h G1 A1 ⟨L1, P1, rfl, hS1⟩) (fun rr4 G4 hr => ?_)
    obtain ⟨A4, W4, w4, ⟨L4, P4, rfl, hS4⟩, hy4, rfl, r4, rfl, h⟩ := hr
    refine ⟨r4, rfl, ?_⟩
    have hx4 := Xt.trans hx1 hy4
    have hg5 : PG L4 g1 := PG.up hy4 hg3
    have ee6 : A4 0 28 = A1 0 28 := hy4.2 _ _ hS1.1.1 (((n0_28 hS4)).trans ((n0_28 hS1)).symm)
    try rw [← ee6]
    have ee7 : A4 g1 0 = A1 g1 0 := hy4.2 _ _ hg3.1 (((nP_0 hS4 hg5)).trans ((nP_0 hS1 hg3)).symm)
    try rw [← ee7]
    refine ⟨fun hc => ?_, fun hc => ?_⟩
    · have h := h.1 hc
      refine ⟨hS4.o (sP_0 hg5), ?_⟩
      rw [lP_0_5 hS4 hg5]
      rw [lP_0_4 hS4 hg5]
      rw [lP_0_7 hS4 hg5]
      rw [lP_0_14 hS4 hg5]
      refine ⟨hS4.o (sP_9 hg5), ?_⟩
      refine wpM.mono (h G4 A4 ⟨L4, P4, rfl, hS4⟩) (fun rr8 G8 hr => ?_)
      obtain ⟨A8, W8, w8, ⟨L8, P8, rfl, hS8⟩, hy8, rfl, r8, rfl, h⟩ := hr
      refine ⟨r8, rfl, ?_⟩
      have hx8 := Xt.trans hx4 hy8
      have hg9 : PG L8 g1 := PG.up hy8 hg5
      have ee10 : A8 0 28 = A4 0 28 := hy8.2 _ _ hS4.1.1 (((n0_28 hS8)).trans ((n0_28 hS4)).symm)
      try rw [← ee10]
      have ee11 : A8 g1 0 = A4 g1 0 := hy8.2 _ _ hg5.1 (((nP_0 hS8 hg9)).trans ((nP_0 hS4 hg5)).symm)
      try rw [← ee11]
      refine ⟨hS8.o (sP_0 hg9), ?_⟩
      rw [lP_0_14 hS8 hg9]
      refine ⟨hS8.o (sP_27 hg9), ?_⟩
      obtain ⟨hi12, h⟩ := h
      refine ⟨by first | (rw [(nP_27 hS8 hg9)]; exact hi12) | exact (congrArg (vp_in _) (nP_27 hS8 hg9)).mpr hi12 | exact hi12, ?_⟩
      exact qx_j hS8 hx8 h
    · have h := h.2 hc
      exact qx_j hS4 hx4 h
