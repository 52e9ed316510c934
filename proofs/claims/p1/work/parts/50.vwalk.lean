/-! regions over the view (by program): X11_aim X11_broken X11_weigh X11_pin X11_put X11_value X11_change X11_fact X11_rule X11_range X11_shown X11_letter X11_letterOf X11_find X11_count X11_drop X11_fault X11_problem X11_tapeAt X11_spoil X11_cut X11_type X12_bring X12_numberAt X12_byteOf X12_mixed X12_readRow X12_readProblem X12_next X12_passBlanks X12_look X12_isLetter X12_isFigure X12_wordOf X12_isSpelt X12_isSign X12_statement X12_keep X12_aimStatement X12_newName X12_failHere X12_fail X12_meaning X12_isName X12_need X12_aNumber X12_sum X12_term X12_factor X12_opens X12_bracket X12_anInt X12_isMinus X12_test X12_or X12_and X12_unit X12_special X12_names X12_aVar X12_states X12_items X12_item X12_isRelation X12_tell X12_ruleStatement -/
theorem w_X11_aim_0 {E : EE} {d : Nat} {V : VH} {K : Int64 → VH → Prop} {x1 : Int32} {x2 : Int32}  (h0 : 0 < d) (h : vMP E (d - 1) M_X11_known [sl 0 28, wi x1] V (fun g1 V1 => (¬ vL V1 g1 = true → K (-9223372036854775808) V1) ∧ (vL V1 g1 = true → (g1 ≠ 0 ∧ g1 ≠ 6) ∧ ((x2 < 0 → K (-9223372036854775808) V1) ∧ (¬ (x2 < 0) → (x2 < (vI V1 g1 4 (Int32.toNatClampNeg 3)) → vMV E (d - 1) M_X2_look [sl g1 9, sl g1 5, wi (vI V1 g1 0 8)] V1 (fun V5 => vMI E (d - 1) M_X2_run [sl g1 9, wi (24 + x2), sl g1 23] V5 (fun r9 V9 => K (Int32.toInt64 r9) V9))) ∧ (¬ (x2 < (vI V1 g1 4 (Int32.toNatClampNeg 3))) → K (-9223372036854775808) V1)))))) : vMJ E d M_X11_aim [sl 0 28, wi x1, wi x2] V K := by
  intro G A hR
  obtain ⟨L, P, rfl, hS⟩ := hR
  have hx := Xt.refl (V := pl G A L P) (A := A)
  show wpM E d M_X11_aim [vr (A 0 28), vi x1, vi x2] G _
  refine wpM_of mk_X11_aim (Nat.le_of_ble_eq_true rfl) ?_
  refine v_X11_aim_0 h0 ?_
  refine ⟨hS.o (s0_28 hS), ?_⟩
  refine wpM.mono (h G A ⟨L, P, rfl, hS⟩) (fun rr1 G1 hr => ?_)
  obtain ⟨A1, W1, w1, ⟨L1, P1, rfl, hS1⟩, hy1, rfl, g1, rfl, h⟩ := hr
  refine ⟨A1 g1 0, rfl, ?_⟩
  have hx1 := Xt.trans hx hy1
  have ee2 : A1 0 28 = A 0 28 := hy1.2 _ _ hS.1.1 (((n0_28 hS1)).trans ((n0_28 hS)).symm)
  try rw [← ee2]
  refine ⟨fun hc => ?_, fun hc => ?_⟩
  · have h := h.1 ((hS1.null (nf_pos _)).mp hc)
    exact qx_j hS1 hx1 h
  · have h := h.2 (hS1.lv0 hc)
    obtain ⟨hw, h⟩ := h
    have hg3 : PG L1 g1 := ⟨hS1.lv0 hc, hw⟩
    refine ⟨fun hc => ?_, fun hc => ?_⟩
    · have h := h.1 hc
      exact qx_j hS1 hx1 h
    · have h := h.2 hc
      refine ⟨hS1.o (sP_0 hg3), ?_⟩
      rw [lP_0_3 hS1 hg3]
      refine ⟨hS1.o (sP_4 hg3), ?_⟩
      refine ⟨by first | (rw [(nP_4 hS1 hg3)]; unfold vp_in; decide) | exact (congrArg (vp_in _) (nP_4 hS1 hg3)).mpr (by unfold vp_in; decide) | (unfold vp_in; decide), ?_⟩
      refine ⟨fun hc => ?_, fun hc => ?_⟩
      · have h := h.1 hc
        rw [lP_0_5 hS1 hg3]
        rw [lP_0_4 hS1 hg3]
        refine ⟨hS1.o (sP_9 hg3), ?_⟩
        refine wpM.mono (h G1 A1 ⟨L1, P1, rfl, hS1⟩) (fun rr5 G5 hr => ?_)
        obtain ⟨A5, W5, w5, ⟨L5, P5, rfl, hS5⟩, hy5, rfl, rfl, h⟩ := hr
        refine ⟨rfl, ?_⟩
        have hx5 := Xt.trans hx1 hy5
        have hg6 : PG L5 g1 := PG.up hy5 hg3
        have ee7 : A5 0 28 = A1 0 28 := hy5.2 _ _ hS1.1.1 (((n0_28 hS5)).trans ((n0_28 hS1)).symm)
        try rw [← ee7]
        have ee8 : A5 g1 0 = A1 g1 0 := hy5.2 _ _ hg3.1 (((nP_0 hS5 hg6)).trans ((nP_0 hS1 hg3)).symm)
        try rw [← ee8]
        refine ⟨hS5.o (sP_0 hg6), ?_⟩
        rw [lP_0_5 hS5 hg6]
        rw [lP_0_7 hS5 hg6]
        refine ⟨hS5.o (sP_9 hg6), ?_⟩
        refine wpM.mono (h G5 A5 ⟨L5, P5, rfl, hS5⟩) (fun rr9 G9 hr => ?_)
        obtain ⟨A9, W9, w9, ⟨L9, P9, rfl, hS9⟩, hy9, rfl, r9, rfl, h⟩ := hr
        refine ⟨r9, rfl, ?_⟩
        have hx9 := Xt.trans hx5 hy9
        have hg10 : PG L9 g1 := PG.up hy9 hg6
        have ee11 : A9 0 28 = A5 0 28 := hy9.2 _ _ hS5.1.1 (((n0_28 hS9)).trans ((n0_28 hS5)).symm)
        try rw [← ee11]
        have ee12 : A9 g1 0 = A5 g1 0 := hy9.2 _ _ hg6.1 (((nP_0 hS9 hg10)).trans ((nP_0 hS5 hg6)).symm)
        try rw [← ee12]
        exact qx_j hS9 hx9 h
      · have h := h.2 hc
        exact qx_j hS1 hx1 h
theorem w_X11_broken_0 {E : EE} {d : Nat} {V : VH} {K : Int32 → VH → Prop} {x1 : Int32} {x2 : Int32}  (h0 : 0 < d) (h : vMP E (d - 1) M_X11_known [sl 0 28, wi x1] V (fun g1 V1 => (¬ vL V1 g1 = true → K (-1) V1) ∧ (vL V1 g1 = true → (g1 ≠ 0 ∧ g1 ≠ 6) ∧ (vMI E (d - 1) M_X3_isRule [sl g1 0, wi x2] V1 (fun r4 V4 => (¬ r4 = 0 → vMV E (d - 1) M_X2_look [sl g1 9, sl g1 5, wi (vI V4 g1 0 8)] V4 (fun V8 => vMI E (d - 1) M_X2_run [sl g1 9, wi x2, sl g1 23] V8 (fun r12 V12 => K r12 V12))) ∧ (r4 = 0 → K (-1) V4)))))) : vMI E d M_X11_broken [sl 0 28, wi x1, wi x2] V K := by
  intro G A hR
  obtain ⟨L, P, rfl, hS⟩ := hR
  have hx := Xt.refl (V := pl G A L P) (A := A)
  show wpM E d M_X11_broken [vr (A 0 28), vi x1, vi x2] G _
  refine wpM_of mk_X11_broken (Nat.le_of_ble_eq_true rfl) ?_
  refine v_X11_broken_0 h0 ?_
  refine ⟨hS.o (s0_28 hS), ?_⟩
  refine wpM.mono (h G A ⟨L, P, rfl, hS⟩) (fun rr1 G1 hr => ?_)
  obtain ⟨A1, W1, w1, ⟨L1, P1, rfl, hS1⟩, hy1, rfl, g1, rfl, h⟩ := hr
  refine ⟨A1 g1 0, rfl, ?_⟩
  have hx1 := Xt.trans hx hy1
  have ee2 : A1 0 28 = A 0 28 := hy1.2 _ _ hS.1.1 (((n0_28 hS1)).trans ((n0_28 hS)).symm)
  try rw [← ee2]
  refine ⟨fun hc => ?_, fun hc => ?_⟩
  · have h := h.1 ((hS1.null (nf_pos _)).mp hc)
    exact qx_i hS1 hx1 h
  · have h := h.2 (hS1.lv0 hc)
    obtain ⟨hw, h⟩ := h
    have hg3 : PG L1 g1 := ⟨hS1.lv0 hc, hw⟩
    refine ⟨hS1.o (sP_0 hg3), ?_⟩
    refine wpM.mono (h G1 A1 ⟨L1, P1, rfl, hS1⟩) (fun rr4 G4 hr => ?_)
    obtain ⟨A4, W4, w4, ⟨L4, P4, rfl, hS4⟩, hy4, rfl, r4, rfl, h⟩ := hr
    refine ⟨r4, rfl, ?_⟩
    have hx4 := Xt.trans hx1 hy4
    have hg5 : PG L4 g1 := PG.up hy4 hg3
    have ee6 : A4 0 28 = A1 0 28 := hy4.2 _ _ hS1.1.1 (((n0_28 hS4)).trans ((n0_28 hS1)).symm)
    try rw [← ee6]
    have ee7 : A4 g1 0 = A1 g1 0 := hy4.2 _ _ hg3.1 (((nP_0 hS4 hg5)).trans ((nP_0 hS1 hg3)).symm)
    try rw [← ee7]
    refine ⟨fun hc => ?_, fun hc => ?_⟩
    · have h := h.1 hc
      refine ⟨hS4.o (sP_0 hg5), ?_⟩
      rw [lP_0_5 hS4 hg5]
      rw [lP_0_4 hS4 hg5]
      refine ⟨hS4.o (sP_9 hg5), ?_⟩
      refine wpM.mono (h G4 A4 ⟨L4, P4, rfl, hS4⟩) (fun rr8 G8 hr => ?_)
      obtain ⟨A8, W8, w8, ⟨L8, P8, rfl, hS8⟩, hy8, rfl, rfl, h⟩ := hr
      refine ⟨rfl, ?_⟩
      have hx8 := Xt.trans hx4 hy8
      have hg9 : PG L8 g1 := PG.up hy8 hg5
      have ee10 : A8 0 28 = A4 0 28 := hy8.2 _ _ hS4.1.1 (((n0_28 hS8)).trans ((n0_28 hS4)).symm)
      try rw [← ee10]
      have ee11 : A8 g1 0 = A4 g1 0 := hy8.2 _ _ hg5.1 (((nP_0 hS8 hg9)).trans ((nP_0 hS4 hg5)).symm)
      try rw [← ee11]
      refine ⟨hS8.o (sP_0 hg9), ?_⟩
      rw [lP_0_5 hS8 hg9]
      rw [lP_0_7 hS8 hg9]
      refine ⟨hS8.o (sP_9 hg9), ?_⟩
      refine wpM.mono (h G8 A8 ⟨L8, P8, rfl, hS8⟩) (fun rr12 G12 hr => ?_)
      obtain ⟨A12, W12, w12, ⟨L12, P12, rfl, hS12⟩, hy12, rfl, r12, rfl, h⟩ := hr
      refine ⟨r12, rfl, ?_⟩
      have hx12 := Xt.trans hx8 hy12
      have hg13 : PG L12 g1 := PG.up hy12 hg9
      have ee14 : A12 0 28 = A8 0 28 := hy12.2 _ _ hS8.1.1 (((n0_28 hS12)).trans ((n0_28 hS8)).symm)
      try rw [← ee14]
      have ee15 : A12 g1 0 = A8 g1 0 := hy12.2 _ _ hg9.1 (((nP_0 hS12 hg13)).trans ((nP_0 hS8 hg9)).symm)
      try rw [← ee15]
      exact qx_i hS12 hx12 h
    · have h := h.2 hc
      exact qx_i hS4 hx4 h
theorem w_X11_weigh_0 {E : EE} {d : Nat} {V : VH} {K : Int32 → VH → Prop} {x1 : Int32} {x2 : Int32} {x3 : Int32}  (h0 : 0 < d) (h : vMP E (d - 1) M_X11_known [sl 0 28, wi x1] V (fun g1 V1 => (¬ vL V1 g1 = true → K (-1) V1) ∧ (vL V1 g1 = true → (g1 ≠ 0 ∧ g1 ≠ 6) ∧ (vMI E (d - 1) M_X7_isVar [sl g1 5, wi x2] V1 (fun r4 V4 => (r4 = 0 → K (-1) V4) ∧ (¬ (r4 = 0) → (x3 < 0 → K (-1) V4) ∧ (¬ (x3 < 0) → (x3 ≤ 1000 → vp_in x2 12 ∧ (vp_in x2 12 ∧ (∀ V10 : VH, V10 = wrI V4 g1 24 (Int32.toNatClampNeg x2) x3 → K (vI V4 g1 24 (Int32.toNatClampNeg x2)) V10))) ∧ (¬ (x3 ≤ 1000) → K (-1) V4)))))))) : vMI E d M_X11_weigh [sl 0 28, wi x1, wi x2, wi x3] V K := by
  intro G A hR
  obtain ⟨L, P, rfl, hS⟩ := hR
  have hx := Xt.refl (V := pl G A L P) (A := A)
  show wpM E d M_X11_weigh [vr (A 0 28), vi x1, vi x2, vi x3] G _
  refine wpM_of mk_X11_weigh (Nat.le_of_ble_eq_true rfl) ?_
  refine v_X11_weigh_0 h0 ?_
  refine ⟨hS.o (s0_28 hS), ?_⟩
  refine wpM.mono (h G A ⟨L, P, rfl, hS⟩) (fun rr1 G1 hr => ?_)
  obtain ⟨A1, W1, w1, ⟨L1, P1, rfl, hS1⟩, hy1, rfl, g1, rfl, h⟩ := hr
  refine ⟨A1 g1 0, rfl, ?_⟩
  have hx1 := Xt.trans hx hy1
  have ee2 : A1 0 28 = A 0 28 := hy1.2 _ _ hS.1.1 (((n0_28 hS1)).trans ((n0_28 hS)).symm)
  try rw [← ee2]
  refine ⟨fun hc => ?_, fun hc => ?_⟩
  · have h := h.1 ((hS1.null (nf_pos _)).mp hc)
    exact qx_i hS1 hx1 h
  · have h := h.2 (hS1.lv0 hc)
    obtain ⟨hw, h⟩ := h
    have hg3 : PG L1 g1 := ⟨hS1.lv0 hc, hw⟩
    refine ⟨hS1.o (sP_0 hg3), ?_⟩
    rw [lP_0_4 hS1 hg3]
    refine ⟨hS1.o (sP_5 hg3), ?_⟩
    refine wpM.mono (h G1 A1 ⟨L1, P1, rfl, hS1⟩) (fun rr4 G4 hr => ?_)
    obtain ⟨A4, W4, w4, ⟨L4, P4, rfl, hS4⟩, hy4, rfl, r4, rfl, h⟩ := hr
    refine ⟨r4, rfl, ?_⟩
    have hx4 := Xt.trans hx1 hy4
    have hg5 : PG L4 g1 := PG.up hy4 hg3
    have ee6 : A4 0 28 = A1 0 28 := hy4.2 _ _ hS1.1.1 (((n0_28 hS4)).trans ((n0_28 hS1)).symm)
    try rw [← ee6]
    have ee7 : A4 g1 0 = A1 g1 0 := hy4.2 _ _ hg3.1 (((nP_0 hS4 hg5)).trans ((nP_0 hS1 hg3)).symm)
    try rw [← ee7]
    refine ⟨fun hc => ?_, fun hc => ?_⟩
    · have h := h.1 hc
      exact qx_i hS4 hx4 h
    · have h := h.2 hc
      refine ⟨fun hc => ?_, fun hc => ?_⟩
      · have h := h.1 hc
        exact qx_i hS4 hx4 h
      · have h := h.2 hc
        refine ⟨fun hc => ?_, fun hc => ?_⟩
        · have h := h.1 hc
          refine ⟨hS4.o (sP_0 hg5), ?_⟩
          rw [lP_0_10 hS4 hg5]
          refine ⟨hS4.o (sP_24 hg5), ?_⟩
          obtain ⟨hi8, h⟩ := h
          refine ⟨by first | (rw [(nP_24 hS4 hg5)]; exact hi8) | exact (congrArg (vp_in _) (nP_24 hS4 hg5)).mpr hi8 | exact hi8, ?_⟩
          obtain ⟨hi9, h⟩ := h
          refine ⟨by first | (rw [(nP_24 hS4 hg5)]; exact hi9) | exact (congrArg (vp_in _) (nP_24 hS4 hg5)).mpr hi9 | exact hi9, ?_⟩
          have hS10 : Sh E (sI G4 (A4 g1 24) (Int32.toNatClampNeg x2) x3) A4 L4 P4 := Sh_sI (rfl : sI G4 (A4 g1 24) (Int32.toNatClampNeg x2) x3 = sI G4 (A4 g1 24) (Int32.toNatClampNeg x2) x3) hS4 (sP_24 hg5) (okT_0 rfl)
          have h := h (pl (sI G4 (A4 g1 24) (Int32.toNatClampNeg x2) x3) A4 L4 P4) (pl_sI (rfl : sI G4 (A4 g1 24) (Int32.toNatClampNeg x2) x3 = sI G4 (A4 g1 24) (Int32.toNatClampNeg x2) x3) hS4 (sP_24 hg5))
          have hx10 : Xt (pl G A L P) A (pl (sI G4 (A4 g1 24) (Int32.toNatClampNeg x2) x3) A4 L4 P4) A4 := Xt_sI (rfl : sI G4 (A4 g1 24) (Int32.toNatClampNeg x2) x3 = sI G4 (A4 g1 24) (Int32.toNatClampNeg x2) x3) hx4
          exact qx_i hS10 hx10 h
        · have h := h.2 hc
          exact qx_i hS4 hx4 h
theorem w_X11_pin_0 {E : EE} {d : Nat} {V : VH} {K : Int32 → VH → Prop} {x1 : Int32} {x2 : Int32} {x3 : Int32}  (h0 : 0 < d) (h : vMP E (d - 1) M_X11_known [sl 0 28, wi x1] V (fun g1 V1 => (¬ vL V1 g1 = true → K 0 V1) ∧ (vL V1 g1 = true → (g1 ≠ 0 ∧ g1 ≠ 6) ∧ (vMI E (d - 1) M_X7_isVar [sl g1 5, wi x2] V1 (fun r4 V4 => (¬ r4 = 0 → ((((vI V4 g1 0 9) >>> (x2 &&& 31)) &&& 1) = 0 → vwp E d M_X11_pin 43 [some (sl 0 28), some (wi x1), some (wi x2), some (wi x3), some (sl g1 0), none] [wi 0] V4 (zi K)) ∧ (¬ ((((vI V4 g1 0 9) >>> (x2 &&& 31)) &&& 1) = 0) → vwp E d M_X11_pin 43 [some (sl 0 28), some (wi x1), some (wi x2), some (wi x3), some (sl g1 0), none] [wi 1] V4 (zi K))) ∧ (r4 = 0 → K 0 V4)))))) : vMI E d M_X11_pin [sl 0 28, wi x1, wi x2, wi x3] V K := by
  intro G A hR
  obtain ⟨L, P, rfl, hS⟩ := hR
  have hx := Xt.refl (V := pl G A L P) (A := A)
  show wpM E d M_X11_pin [vr (A 0 28), vi x1, vi x2, vi x3] G _
  refine wpM_of mk_X11_pin (Nat.le_of_ble_eq_true rfl) ?_
  refine v_X11_pin_0 h0 ?_
  refine ⟨hS.o (s0_28 hS), ?_⟩
  refine wpM.mono (h G A ⟨L, P, rfl, hS⟩) (fun rr1 G1 hr => ?_)
  obtain ⟨A1, W1, w1, ⟨L1, P1, rfl, hS1⟩, hy1, rfl, g1, rfl, h⟩ := hr
  refine ⟨A1 g1 0, rfl, ?_⟩
  have hx1 := Xt.trans hx hy1
  have ee2 : A1 0 28 = A 0 28 := hy1.2 _ _ hS.1.1 (((n0_28 hS1)).trans ((n0_28 hS)).symm)
  try rw [← ee2]
  refine ⟨fun hc => ?_, fun hc => ?_⟩
  · have h := h.1 ((hS1.null (nf_pos _)).mp hc)
    exact qx_i hS1 hx1 h
  · have h := h.2 (hS1.lv0 hc)
    obtain ⟨hw, h⟩ := h
    have hg3 : PG L1 g1 := ⟨hS1.lv0 hc, hw⟩
    refine ⟨hS1.o (sP_0 hg3), ?_⟩
    rw [lP_0_4 hS1 hg3]
    refine ⟨hS1.o (sP_5 hg3), ?_⟩
    refine wpM.mono (h G1 A1 ⟨L1, P1, rfl, hS1⟩) (fun rr4 G4 hr => ?_)
    obtain ⟨A4, W4, w4, ⟨L4, P4, rfl, hS4⟩, hy4, rfl, r4, rfl, h⟩ := hr
    refine ⟨r4, rfl, ?_⟩
    have hx4 := Xt.trans hx1 hy4
    have hg5 : PG L4 g1 := PG.up hy4 hg3
    have ee6 : A4 0 28 = A1 0 28 := hy4.2 _ _ hS1.1.1 (((n0_28 hS4)).trans ((n0_28 hS1)).symm)
    try rw [← ee6]
    have ee7 : A4 g1 0 = A1 g1 0 := hy4.2 _ _ hg3.1 (((nP_0 hS4 hg5)).trans ((nP_0 hS1 hg3)).symm)
    try rw [← ee7]
    refine ⟨fun hc => ?_, fun hc => ?_⟩
    · have h := h.1 hc
      refine ⟨hS4.o (sP_0 hg5), ?_⟩
      refine ⟨fun hc => ?_, fun hc => ?_⟩
      · have h := h.1 hc
        exact wp.mono (h G4 A4 ⟨L4, P4, rfl, hS4⟩) (fun r G' q => qx_trans hx4 q)
      · have h := h.2 hc
        exact wp.mono (h G4 A4 ⟨L4, P4, rfl, hS4⟩) (fun r G' q => qx_trans hx4 q)
    · have h := h.2 hc
      exact qx_i hS4 hx4 h
theorem w_X11_put_0 {E : EE} {d : Nat} {V : VH} {K : Int32 → VH → Prop} {x1 : Int32} {x2 : Int32} {x3 : Int32}  (h0 : 0 < d) (h : vMP E (d - 1) M_X11_known [sl 0 28, wi x1] V (fun g1 V1 => (vL V1 g1 = true → (g1 ≠ 0 ∧ g1 ≠ 6) ∧ (vMI E (d - 1) M_X7_placeOfValue [sl g1 5, wi x2, wi x3] V1 (fun r4 V4 => (0 ≤ r4 → vMI E (d - 1) M_X7_moved [sl g1 5, wi (vI V4 g1 0 8), wi x2, wi r4] V4 (fun r8 V8 => ∀ V12 : VH, V12 = wrI V8 g1 0 8 r8 → K 1 V12)) ∧ (¬ (0 ≤ r4) → K 0 V4)))) ∧ (¬ vL V1 g1 = true → K 0 V1))) : vMI E d M_X11_put [sl 0 28, wi x1, wi x2, wi x3] V K := by
  intro G A hR
  obtain ⟨L, P, rfl, hS⟩ := hR
  have hx := Xt.refl (V := pl G A L P) (A := A)
  show wpM E d M_X11_put [vr (A 0 28), vi x1, vi x2, vi x3] G _
  refine wpM_of mk_X11_put (Nat.le_of_ble_eq_true rfl) ?_
  refine v_X11_put_0 h0 ?_
  refine ⟨hS.o (s0_28 hS), ?_⟩
  refine wpM.mono (h G A ⟨L, P, rfl, hS⟩) (fun rr1 G1 hr => ?_)
  obtain ⟨A1, W1, w1, ⟨L1, P1, rfl, hS1⟩, hy1, rfl, g1, rfl, h⟩ := hr
  refine ⟨A1 g1 0, rfl, ?_⟩
  have hx1 := Xt.trans hx hy1
  have ee2 : A1 0 28 = A 0 28 := hy1.2 _ _ hS.1.1 (((n0_28 hS1)).trans ((n0_28 hS)).symm)
  try rw [← ee2]
  refine ⟨fun hc => ?_, fun hc => ?_⟩
  · have h := h.1 (hS1.lv0 hc)
    obtain ⟨hw, h⟩ := h
    have hg3 : PG L1 g1 := ⟨hS1.lv0 hc, hw⟩
    refine ⟨hS1.o (sP_0 hg3), ?_⟩
    rw [lP_0_4 hS1 hg3]
    refine ⟨hS1.o (sP_5 hg3), ?_⟩
    refine wpM.mono (h G1 A1 ⟨L1, P1, rfl, hS1⟩) (fun rr4 G4 hr => ?_)
    obtain ⟨A4, W4, w4, ⟨L4, P4, rfl, hS4⟩, hy4, rfl, r4, rfl, h⟩ := hr
    refine ⟨r4, rfl, ?_⟩
    have hx4 := Xt.trans hx1 hy4
    have hg5 : PG L4 g1 := PG.up hy4 hg3
    have ee6 : A4 0 28 = A1 0 28 := hy4.2 _ _ hS1.1.1 (((n0_28 hS4)).trans ((n0_28 hS1)).symm)
    try rw [← ee6]
    have ee7 : A4 g1 0 = A1 g1 0 := hy4.2 _ _ hg3.1 (((nP_0 hS4 hg5)).trans ((nP_0 hS1 hg3)).symm)
    try rw [← ee7]
    refine ⟨fun hc => ?_, fun hc => ?_⟩
    · have h := h.1 hc
      refine ⟨hS4.o (sP_0 hg5), ?_⟩
      rw [lP_0_4 hS4 hg5]
      refine ⟨hS4.o (sP_5 hg5), ?_⟩
      refine wpM.mono (h G4 A4 ⟨L4, P4, rfl, hS4⟩) (fun rr8 G8 hr => ?_)
      obtain ⟨A8, W8, w8, ⟨L8, P8, rfl, hS8⟩, hy8, rfl, r8, rfl, h⟩ := hr
      refine ⟨r8, rfl, ?_⟩
      have hx8 := Xt.trans hx4 hy8
      have hg9 : PG L8 g1 := PG.up hy8 hg5
      have ee10 : A8 0 28 = A4 0 28 := hy8.2 _ _ hS4.1.1 (((n0_28 hS8)).trans ((n0_28 hS4)).symm)
      try rw [← ee10]
      have ee11 : A8 g1 0 = A4 g1 0 := hy8.2 _ _ hg5.1 (((nP_0 hS8 hg9)).trans ((nP_0 hS4 hg5)).symm)
      try rw [← ee11]
      refine ⟨hS8.o (sP_0 hg9), ?_⟩
      have hS12 : Sh E (sI G8 (A8 g1 0) 8 r8) A8 L8 P8 := Sh_sI (rfl : sI G8 (A8 g1 0) 8 r8 = sI G8 (A8 g1 0) 8 r8) hS8 (sP_0 hg9) (okT_0 rfl)
      have h := h (pl (sI G8 (A8 g1 0) 8 r8) A8 L8 P8) (pl_sI (rfl : sI G8 (A8 g1 0) 8 r8 = sI G8 (A8 g1 0) 8 r8) hS8 (sP_0 hg9))
      have hx12 : Xt (pl G A L P) A (pl (sI G8 (A8 g1 0) 8 r8) A8 L8 P8) A8 := Xt_sI (rfl : sI G8 (A8 g1 0) 8 r8 = sI G8 (A8 g1 0) 8 r8) hx8
      exact qx_i hS12 hx12 h
    · have h := h.2 hc
      exact qx_i hS4 hx4 h
  · have h := h.2 ((hS1.null (nf_pos _)).mp hc)
    exact qx_i hS1 hx1 h
theorem w_X11_value_0 {E : EE} {d : Nat} {V : VH} {K : Int64 → VH → Prop} {x1 : Int32} {x2 : Int32}  (h0 : 0 < d) (h : vMP E (d - 1) M_X11_known [sl 0 28, wi x1] V (fun g1 V1 => (¬ vL V1 g1 = true → vwp E d M_X11_value 21 [some (sl 0 28), some (wi x1), some (wi x2), some (sl g1 0)] [] V1 (zj K)) ∧ (vL V1 g1 = true → (g1 ≠ 0 ∧ g1 ≠ 6) ∧ (vMI E (d - 1) M_X7_isVar [sl g1 5, wi x2] V1 (fun r4 V4 => (¬ r4 = 0 → vMI E (d - 1) M_X7_valueOf [sl g1 5, wi (vI V4 g1 0 8), wi x2] V4 (fun r8 V8 => K (Int32.toInt64 r8) V8)) ∧ (r4 = 0 → vwp E d M_X11_value 21 [some (sl 0 28), some (wi x1), some (wi x2), some (sl g1 0)] [] V4 (zj K))))))) : vMJ E d M_X11_value [sl 0 28, wi x1, wi x2] V K := by
  intro G A hR
  obtain ⟨L, P, rfl, hS⟩ := hR
  have hx := Xt.refl (V := pl G A L P) (A := A)
  show wpM E d M_X11_value [vr (A 0 28), vi x1, vi x2] G _
  refine wpM_of mk_X11_value (Nat.le_of_ble_eq_true rfl) ?_
  refine v_X11_value_0 h0 ?_
  refine ⟨hS.o (s0_28 hS), ?_⟩
  refine wpM.mono (h G A ⟨L, P, rfl, hS⟩) (fun rr1 G1 hr => ?_)
  obtain ⟨A1, W1, w1, ⟨L1, P1, rfl, hS1⟩, hy1, rfl, g1, rfl, h⟩ := hr
  refine ⟨A1 g1 0, rfl, ?_⟩
  have hx1 := Xt.trans hx hy1
  have ee2 : A1 0 28 = A 0 28 := hy1.2 _ _ hS.1.1 (((n0_28 hS1)).trans ((n0_28 hS)).symm)
  try rw [← ee2]
  refine ⟨fun hc => ?_, fun hc => ?_⟩
  · have h := h.1 ((hS1.null (nf_pos _)).mp hc)
    exact wp.mono (h G1 A1 ⟨L1, P1, rfl, hS1⟩) (fun r G' q => qx_trans hx1 q)
  · have h := h.2 (hS1.lv0 hc)
    obtain ⟨hw, h⟩ := h
    have hg3 : PG L1 g1 := ⟨hS1.lv0 hc, hw⟩
    refine ⟨hS1.o (sP_0 hg3), ?_⟩
    rw [lP_0_4 hS1 hg3]
    refine ⟨hS1.o (sP_5 hg3), ?_⟩
    refine wpM.mono (h G1 A1 ⟨L1, P1, rfl, hS1⟩) (fun rr4 G4 hr => ?_)
    obtain ⟨A4, W4, w4, ⟨L4, P4, rfl, hS4⟩, hy4, rfl, r4, rfl, h⟩ := hr
    refine ⟨r4, rfl, ?_⟩
    have hx4 := Xt.trans hx1 hy4
    have hg5 : PG L4 g1 := PG.up hy4 hg3
    have ee6 : A4 0 28 = A1 0 28 := hy4.2 _ _ hS1.1.1 (((n0_28 hS4)).trans ((n0_28 hS1)).symm)
    try rw [← ee6]
    have ee7 : A4 g1 0 = A1 g1 0 := hy4.2 _ _ hg3.1 (((nP_0 hS4 hg5)).trans ((nP_0 hS1 hg3)).symm)
    try rw [← ee7]
    refine ⟨fun hc => ?_, fun hc => ?_⟩
    · have h := h.1 hc
      refine ⟨hS4.o (sP_0 hg5), ?_⟩
      rw [lP_0_4 hS4 hg5]
      refine ⟨hS4.o (sP_5 hg5), ?_⟩
      refine wpM.mono (h G4 A4 ⟨L4, P4, rfl, hS4⟩) (fun rr8 G8 hr => ?_)
      obtain ⟨A8, W8, w8, ⟨L8, P8, rfl, hS8⟩, hy8, rfl, r8, rfl, h⟩ := hr
      refine ⟨r8, rfl, ?_⟩
      have hx8 := Xt.trans hx4 hy8
      have hg9 : PG L8 g1 := PG.up hy8 hg5
      have ee10 : A8 0 28 = A4 0 28 := hy8.2 _ _ hS4.1.1 (((n0_28 hS8)).trans ((n0_28 hS4)).symm)
      try rw [← ee10]
      have ee11 : A8 g1 0 = A4 g1 0 := hy8.2 _ _ hg5.1 (((nP_0 hS8 hg9)).trans ((nP_0 hS4 hg5)).symm)
      try rw [← ee11]
      exact qx_j hS8 hx8 h
    · have h := h.2 hc
      exact wp.mono (h G4 A4 ⟨L4, P4, rfl, hS4⟩) (fun r G' q => qx_trans hx4 q)
theorem w_X11_change_0 {E : EE} {d : Nat} {V : VH} {K : Int32 → VH → Prop} {x1 : Int32} {x2 : Int32} {x3 : Int32}  (h0 : 0 < d) (h : vMP E (d - 1) M_X11_known [sl 0 28, wi x1] V (fun g1 V1 => (¬ vL V1 g1 = true → K 0 V1) ∧ (vL V1 g1 = true → (g1 ≠ 0 ∧ g1 ≠ 6) ∧ (vMI E (d - 1) M_X3_isFact [sl g1 0, wi x2] V1 (fun r4 V4 => (r4 = 0 → K 0 V4) ∧ (¬ (r4 = 0) → (x3 < (-9999) → K 0 V4) ∧ (¬ (x3 < (-9999)) → (x3 ≤ 9999 → vp_in x2 16 ∧ (∀ V9 : VH, V9 = wrI V4 g1 23 (Int32.toNatClampNeg x2) x3 → ∀ V10 : VH, V10 = wrI V9 g1 19 0 0 → K 1 V10)) ∧ (¬ (x3 ≤ 9999) → K 0 V4)))))))) : vMI E d M_X11_change [sl 0 28, wi x1, wi x2, wi x3] V K := by
  intro G A hR
  obtain ⟨L, P, rfl, hS⟩ := hR
  have hx := Xt.refl (V := pl G A L P) (A := A)
  show wpM E d M_X11_change [vr (A 0 28), vi x1, vi x2, vi x3] G _
  refine wpM_of mk_X11_change (Nat.le_of_ble_eq_true rfl) ?_
  refine v_X11_change_0 h0 ?_
  refine ⟨hS.o (s0_28 hS), ?_⟩
  refine wpM.mono (h G A ⟨L, P, rfl, hS⟩) (fun rr1 G1 hr => ?_)
  obtain ⟨A1, W1, w1, ⟨L1, P1, rfl, hS1⟩, hy1, rfl, g1, rfl, h⟩ := hr
  refine ⟨A1 g1 0, rfl, ?_⟩
  have hx1 := Xt.trans hx hy1
  have ee2 : A1 0 28 = A 0 28 := hy1.2 _ _ hS.1.1 (((n0_28 hS1)).trans ((n0_28 hS)).symm)
  try rw [← ee2]
  refine ⟨fun hc => ?_, fun hc => ?_⟩
  · have h := h.1 ((hS1.null (nf_pos _)).mp hc)
    exact qx_i hS1 hx1 h
  · have h := h.2 (hS1.lv0 hc)
    obtain ⟨hw, h⟩ := h
    have hg3 : PG L1 g1 := ⟨hS1.lv0 hc, hw⟩
    refine ⟨hS1.o (sP_0 hg3), ?_⟩
    refine wpM.mono (h G1 A1 ⟨L1, P1, rfl, hS1⟩) (fun rr4 G4 hr => ?_)
    obtain ⟨A4, W4, w4, ⟨L4, P4, rfl, hS4⟩, hy4, rfl, r4, rfl, h⟩ := hr
    refine ⟨r4, rfl, ?_⟩
    have hx4 := Xt.trans hx1 hy4
    have hg5 : PG L4 g1 := PG.up hy4 hg3
    have ee6 : A4 0 28 = A1 0 28 := hy4.2 _ _ hS1.1.1 (((n0_28 hS4)).trans ((n0_28 hS1)).symm)
    try rw [← ee6]
    have ee7 : A4 g1 0 = A1 g1 0 := hy4.2 _ _ hg3.1 (((nP_0 hS4 hg5)).trans ((nP_0 hS1 hg3)).symm)
    try rw [← ee7]
    refine ⟨fun hc => ?_, fun hc => ?_⟩
    · have h := h.1 hc
      exact qx_i hS4 hx4 h
    · have h := h.2 hc
      refine ⟨fun hc => ?_, fun hc => ?_⟩
      · have h := h.1 hc
        exact qx_i hS4 hx4 h
      · have h := h.2 hc
        refine ⟨fun hc => ?_, fun hc => ?_⟩
        · have h := h.1 hc
          refine ⟨hS4.o (sP_0 hg5), ?_⟩
          rw [lP_0_7 hS4 hg5]
          refine ⟨hS4.o (sP_23 hg5), ?_⟩
          obtain ⟨hi8, h⟩ := h
          refine ⟨by first | (rw [(nP_23 hS4 hg5)]; exact hi8) | exact (congrArg (vp_in _) (nP_23 hS4 hg5)).mpr hi8 | exact hi8, ?_⟩
          intro G9 eG9
          have hS9 : Sh E G9 A4 L4 P4 := Sh_sI eG9 hS4 (sP_23 hg5) (okT_0 rfl)
          have h := h (pl G9 A4 L4 P4) (pl_sI eG9 hS4 (sP_23 hg5))
          have hx9 : Xt (pl G A L P) A (pl G9 A4 L4 P4) A4 := Xt_sI eG9 hx4
          rw [lP_0_6 hS9 hg5]
          refine ⟨hS9.o (sP_19 hg5), ?_⟩
          intro G10 eG10
          have hS10 : Sh E G10 A4 L4 P4 := Sh_sI eG10 hS9 (sP_19 hg5) (okT_2 rfl (Or.inl rfl))
          have h := h (pl G10 A4 L4 P4) (pl_sI eG10 hS9 (sP_19 hg5))
          have hx10 : Xt (pl G A L P) A (pl G10 A4 L4 P4) A4 := Xt_sI eG10 hx9
          exact qx_i hS10 hx10 h
        · have h := h.2 hc
          exact qx_i hS4 hx4 h
theorem w_X11_fact_0 {E : EE} {d : Nat} {V : VH} {K : Int64 → VH → Prop} {x1 : Int32} {x2 : Int32}  (h0 : 0 < d) (h : vMP E (d - 1) M_X11_known [sl 0 28, wi x1] V (fun g1 V1 => (¬ vL V1 g1 = true → vwp E d M_X11_fact 18 [some (sl 0 28), some (wi x1), some (wi x2), some (sl g1 0)] [] V1 (zj K)) ∧ (vL V1 g1 = true → (g1 ≠ 0 ∧ g1 ≠ 6) ∧ (vMI E (d - 1) M_X3_isFact [sl g1 0, wi x2] V1 (fun r4 V4 => (¬ r4 = 0 → vp_in x2 16 ∧ (K (Int32.toInt64 (vI V4 g1 23 (Int32.toNatClampNeg x2))) V4)) ∧ (r4 = 0 → vwp E d M_X11_fact 18 [some (sl 0 28), some (wi x1), some (wi x2), some (sl g1 0)] [] V4 (zj K))))))) : vMJ E d M_X11_fact [sl 0 28, wi x1, wi x2] V K := by
  intro G A hR
  obtain ⟨L, P, rfl, hS⟩ := hR
  have hx := Xt.refl (V := pl G A L P) (A := A)
  show wpM E d M_X11_fact [vr (A 0 28), vi x1, vi x2] G _
  refine wpM_of mk_X11_fact (Nat.le_of_ble_eq_true rfl) ?_
  refine v_X11_fact_0 h0 ?_
  refine ⟨hS.o (s0_28 hS), ?_⟩
  refine wpM.mono (h G A ⟨L, P, rfl, hS⟩) (fun rr1 G1 hr => ?_)
  obtain ⟨A1, W1, w1, ⟨L1, P1, rfl, hS1⟩, hy1, rfl, g1, rfl, h⟩ := hr
  refine ⟨A1 g1 0, rfl, ?_⟩
  have hx1 := Xt.trans hx hy1
  have ee2 : A1 0 28 = A 0 28 := hy1.2 _ _ hS.1.1 (((n0_28 hS1)).trans ((n0_28 hS)).symm)
  try rw [← ee2]
  refine ⟨fun hc => ?_, fun hc => ?_⟩
  · have h := h.1 ((hS1.null (nf_pos _)).mp hc)
    exact wp.mono (h G1 A1 ⟨L1, P1, rfl, hS1⟩) (fun r G' q => qx_trans hx1 q)
  · have h := h.2 (hS1.lv0 hc)
    obtain ⟨hw, h⟩ := h
    have hg3 : PG L1 g1 := ⟨hS1.lv0 hc, hw⟩
    refine ⟨hS1.o (sP_0 hg3), ?_⟩
    refine wpM.mono (h G1 A1 ⟨L1, P1, rfl, hS1⟩) (fun rr4 G4 hr => ?_)
    obtain ⟨A4, W4, w4, ⟨L4, P4, rfl, hS4⟩, hy4, rfl, r4, rfl, h⟩ := hr
    refine ⟨r4, rfl, ?_⟩
    have hx4 := Xt.trans hx1 hy4
    have hg5 : PG L4 g1 := PG.up hy4 hg3
    have ee6 : A4 0 28 = A1 0 28 := hy4.2 _ _ hS1.1.1 (((n0_28 hS4)).trans ((n0_28 hS1)).symm)
    try rw [← ee6]
    have ee7 : A4 g1 0 = A1 g1 0 := hy4.2 _ _ hg3.1 (((nP_0 hS4 hg5)).trans ((nP_0 hS1 hg3)).symm)
    try rw [← ee7]
    refine ⟨fun hc => ?_, fun hc => ?_⟩
    · have h := h.1 hc
      refine ⟨hS4.o (sP_0 hg5), ?_⟩
      rw [lP_0_7 hS4 hg5]
      refine ⟨hS4.o (sP_23 hg5), ?_⟩
      obtain ⟨hi8, h⟩ := h
      refine ⟨by first | (rw [(nP_23 hS4 hg5)]; exact hi8) | exact (congrArg (vp_in _) (nP_23 hS4 hg5)).mpr hi8 | exact hi8, ?_⟩
      exact qx_j hS4 hx4 h
    · have h := h.2 hc
      exact wp.mono (h G4 A4 ⟨L4, P4, rfl, hS4⟩) (fun r G' q => qx_trans hx4 q)
theorem w_X11_rule_0 {E : EE} {d : Nat} {V : VH} {K : Int32 → VH → Prop} {x1 : Int32} {x2 : Int32} {x3 : Int32}  (h0 : 0 < d) (h : vMP E (d - 1) M_X11_known [sl 0 28, wi x1] V (fun g1 V1 => (¬ vL V1 g1 = true → K (-1) V1) ∧ (vL V1 g1 = true → (g1 ≠ 0 ∧ g1 ≠ 6) ∧ (vMI E (d - 1) M_X3_isRule [sl g1 0, wi x2] V1 (fun r4 V4 => (¬ r4 = 0 → (x3 = 0 → vp_in x2 30 ∧ (K (vI V4 g1 10 (Int32.toNatClampNeg x2)) V4)) ∧ ((x3 = 1 → vp_in x2 24 ∧ (K (vI V4 g1 11 (Int32.toNatClampNeg x2)) V4)) ∧ ((x3 = 2 → vp_in x2 24 ∧ (K (vI V4 g1 12 (Int32.toNatClampNeg x2)) V4)) ∧ ((x3 = 3 → vMV E (d - 1) M_X9_renew [sl g1 19, sl g1 0] V4 (fun V11 => K (((vI V11 g1 19 1) >>> (x2 &&& 31)) &&& 1) V11)) ∧ ((¬ x3 = 0 → ¬ x3 = 1 → ¬ x3 = 2 → ¬ x3 = 3 → K (-1) V4)))))) ∧ (r4 = 0 → K (-1) V4)))))) : vMI E d M_X11_rule [sl 0 28, wi x1, wi x2, wi x3] V K := by
  intro G A hR
  obtain ⟨L, P, rfl, hS⟩ := hR
  have hx := Xt.refl (V := pl G A L P) (A := A)
  show wpM E d M_X11_rule [vr (A 0 28), vi x1, vi x2, vi x3] G _
  refine wpM_of mk_X11_rule (Nat.le_of_ble_eq_true rfl) ?_
  refine v_X11_rule_0 h0 ?_
  refine ⟨hS.o (s0_28 hS), ?_⟩
  refine wpM.mono (h G A ⟨L, P, rfl, hS⟩) (fun rr1 G1 hr => ?_)
  obtain ⟨A1, W1, w1, ⟨L1, P1, rfl, hS1⟩, hy1, rfl, g1, rfl, h⟩ := hr
  refine ⟨A1 g1 0, rfl, ?_⟩
  have hx1 := Xt.trans hx hy1
  have ee2 : A1 0 28 = A 0 28 := hy1.2 _ _ hS.1.1 (((n0_28 hS1)).trans ((n0_28 hS)).symm)
  try rw [← ee2]
  refine ⟨fun hc => ?_, fun hc => ?_⟩
  · have h := h.1 ((hS1.null (nf_pos _)).mp hc)
    exact qx_i hS1 hx1 h
  · have h := h.2 (hS1.lv0 hc)
    obtain ⟨hw, h⟩ := h
    have hg3 : PG L1 g1 := ⟨hS1.lv0 hc, hw⟩
    refine ⟨hS1.o (sP_0 hg3), ?_⟩
    refine wpM.mono (h G1 A1 ⟨L1, P1, rfl, hS1⟩) (fun rr4 G4 hr => ?_)
    obtain ⟨A4, W4, w4, ⟨L4, P4, rfl, hS4⟩, hy4, rfl, r4, rfl, h⟩ := hr
    refine ⟨r4, rfl, ?_⟩
    have hx4 := Xt.trans hx1 hy4
    have hg5 : PG L4 g1 := PG.up hy4 hg3
    have ee6 : A4 0 28 = A1 0 28 := hy4.2 _ _ hS1.1.1 (((n0_28 hS4)).trans ((n0_28 hS1)).symm)
    try rw [← ee6]
    have ee7 : A4 g1 0 = A1 g1 0 := hy4.2 _ _ hg3.1 (((nP_0 hS4 hg5)).trans ((nP_0 hS1 hg3)).symm)
    try rw [← ee7]
    refine ⟨fun hc => ?_, fun hc => ?_⟩
    · have h := h.1 hc
      refine ⟨fun hc => ?_, ?_⟩
      · have h := h.1 hc
        refine ⟨hS4.o (sP_0 hg5), ?_⟩
        rw [lP_0_5 hS4 hg5]
        refine ⟨hS4.o (sP_9 hg5), ?_⟩
        rw [lP_9_4 hS4 hg5]
        refine ⟨hS4.o (sP_10 hg5), ?_⟩
        obtain ⟨hi8, h⟩ := h
        refine ⟨by first | (rw [(nP_10 hS4 hg5)]; exact hi8) | exact (congrArg (vp_in _) (nP_10 hS4 hg5)).mpr hi8 | exact hi8, ?_⟩
        exact qx_i hS4 hx4 h
      have h := h.2
      refine ⟨fun hc => ?_, ?_⟩
      · have h := h.1 hc
        refine ⟨hS4.o (sP_0 hg5), ?_⟩
        rw [lP_0_5 hS4 hg5]
        refine ⟨hS4.o (sP_9 hg5), ?_⟩
        rw [lP_9_5 hS4 hg5]
        refine ⟨hS4.o (sP_11 hg5), ?_⟩
        obtain ⟨hi9, h⟩ := h
        refine ⟨by first | (rw [(nP_11 hS4 hg5)]; exact hi9) | exact (congrArg (vp_in _) (nP_11 hS4 hg5)).mpr hi9 | exact hi9, ?_⟩
        exact qx_i hS4 hx4 h
      have h := h.2
      refine ⟨fun hc => ?_, ?_⟩
      · have h := h.1 hc
        refine ⟨hS4.o (sP_0 hg5), ?_⟩
        rw [lP_0_5 hS4 hg5]
        refine ⟨hS4.o (sP_9 hg5), ?_⟩
        rw [lP_9_6 hS4 hg5]
        refine ⟨hS4.o (sP_12 hg5), ?_⟩
        obtain ⟨hi10, h⟩ := h
        refine ⟨by first | (rw [(nP_12 hS4 hg5)]; exact hi10) | exact (congrArg (vp_in _) (nP_12 hS4 hg5)).mpr hi10 | exact hi10, ?_⟩
        exact qx_i hS4 hx4 h
      have h := h.2
      refine ⟨fun hc => ?_, ?_⟩
      · have h := h.1 hc
        refine ⟨hS4.o (sP_0 hg5), ?_⟩
        rw [lP_0_6 hS4 hg5]
        refine ⟨hS4.o (sP_19 hg5), ?_⟩
        refine wpM.mono (h G4 A4 ⟨L4, P4, rfl, hS4⟩) (fun rr11 G11 hr => ?_)
        obtain ⟨A11, W11, w11, ⟨L11, P11, rfl, hS11⟩, hy11, rfl, rfl, h⟩ := hr
        refine ⟨rfl, ?_⟩
        have hx11 := Xt.trans hx4 hy11
        have hg12 : PG L11 g1 := PG.up hy11 hg5
        have ee13 : A11 0 28 = A4 0 28 := hy11.2 _ _ hS4.1.1 (((n0_28 hS11)).trans ((n0_28 hS4)).symm)
        try rw [← ee13]
        have ee14 : A11 g1 0 = A4 g1 0 := hy11.2 _ _ hg5.1 (((nP_0 hS11 hg12)).trans ((nP_0 hS4 hg5)).symm)
        try rw [← ee14]
        refine ⟨hS11.o (sP_0 hg12), ?_⟩
        rw [lP_0_6 hS11 hg12]
        refine ⟨hS11.o (sP_19 hg12), ?_⟩
        exact qx_i hS11 hx11 h
      have h := h.2
      intro q0 q1 q2 q3
      have h := h q0 q1 q2 q3
      exact qx_i hS4 hx4 h
    · have h := h.2 hc
      exact qx_i hS4 hx4 h
theorem w_X11_range_0 {E : EE} {d : Nat} {V : VH} {K : Int64 → VH → Prop} {x1 : Int32} {x2 : Int32} {x3 : Int32}  (h0 : 0 < d) (h : vMP E (d - 1) M_X11_known [sl 0 28, wi x1] V (fun g1 V1 => (¬ vL V1 g1 = true → K (-9223372036854775808) V1) ∧ (vL V1 g1 = true → (g1 ≠ 0 ∧ g1 ≠ 6) ∧ (vMI E (d - 1) M_X7_isVar [sl g1 5, wi x2] V1 (fun r4 V4 => (r4 = 0 → K (-9223372036854775808) V4) ∧ (¬ (r4 = 0) → (x3 < 0 → K (-9223372036854775808) V4) ∧ (¬ (x3 < 0) → vp_in x2 12 ∧ ((x3 < (vI V4 g1 6 (Int32.toNatClampNeg x2)) → vp_in ((x2 * 20) + x3) 240 ∧ (K (Int32.toInt64 (vI V4 g1 7 (Int32.toNatClampNeg ((x2 * 20) + x3)))) V4)) ∧ (¬ (x3 < (vI V4 g1 6 (Int32.toNatClampNeg x2))) → K (-9223372036854775808) V4))))))))) : vMJ E d M_X11_range [sl 0 28, wi x1, wi x2, wi x3] V K := by
  intro G A hR
  obtain ⟨L, P, rfl, hS⟩ := hR
  have hx := Xt.refl (V := pl G A L P) (A := A)
  show wpM E d M_X11_range [vr (A 0 28), vi x1, vi x2, vi x3] G _
  refine wpM_of mk_X11_range (Nat.le_of_ble_eq_true rfl) ?_
  refine v_X11_range_0 h0 ?_
  refine ⟨hS.o (s0_28 hS), ?_⟩
  refine wpM.mono (h G A ⟨L, P, rfl, hS⟩) (fun rr1 G1 hr => ?_)
  obtain ⟨A1, W1, w1, ⟨L1, P1, rfl, hS1⟩, hy1, rfl, g1, rfl, h⟩ := hr
  refine ⟨A1 g1 0, rfl, ?_⟩
  have hx1 := Xt.trans hx hy1
  have ee2 : A1 0 28 = A 0 28 := hy1.2 _ _ hS.1.1 (((n0_28 hS1)).trans ((n0_28 hS)).symm)
  try rw [← ee2]
  refine ⟨fun hc => ?_, fun hc => ?_⟩
  · have h := h.1 ((hS1.null (nf_pos _)).mp hc)
    exact qx_j hS1 hx1 h
  · have h := h.2 (hS1.lv0 hc)
    obtain ⟨hw, h⟩ := h
    have hg3 : PG L1 g1 := ⟨hS1.lv0 hc, hw⟩
    refine ⟨hS1.o (sP_0 hg3), ?_⟩
    rw [lP_0_4 hS1 hg3]
    refine ⟨hS1.o (sP_5 hg3), ?_⟩
    refine wpM.mono (h G1 A1 ⟨L1, P1, rfl, hS1⟩) (fun rr4 G4 hr => ?_)
    obtain ⟨A4, W4, w4, ⟨L4, P4, rfl, hS4⟩, hy4, rfl, r4, rfl, h⟩ := hr
    refine ⟨r4, rfl, ?_⟩
    have hx4 := Xt.trans hx1 hy4
    have hg5 : PG L4 g1 := PG.up hy4 hg3
    have ee6 : A4 0 28 = A1 0 28 := hy4.2 _ _ hS1.1.1 (((n0_28 hS4)).trans ((n0_28 hS1)).symm)
    try rw [← ee6]
    have ee7 : A4 g1 0 = A1 g1 0 := hy4.2 _ _ hg3.1 (((nP_0 hS4 hg5)).trans ((nP_0 hS1 hg3)).symm)
    try rw [← ee7]
    refine ⟨fun hc => ?_, fun hc => ?_⟩
    · have h := h.1 hc
      exact qx_j hS4 hx4 h
    · have h := h.2 hc
      refine ⟨fun hc => ?_, fun hc => ?_⟩
      · have h := h.1 hc
        exact qx_j hS4 hx4 h
      · have h := h.2 hc
        refine ⟨hS4.o (sP_0 hg5), ?_⟩
        rw [lP_0_4 hS4 hg5]
        refine ⟨hS4.o (sP_5 hg5), ?_⟩
        rw [lP_5_2 hS4 hg5]
        refine ⟨hS4.o (sP_6 hg5), ?_⟩
        obtain ⟨hi8, h⟩ := h
        refine ⟨by first | (rw [(nP_6 hS4 hg5)]; exact hi8) | exact (congrArg (vp_in _) (nP_6 hS4 hg5)).mpr hi8 | exact hi8, ?_⟩
        refine ⟨fun hc => ?_, fun hc => ?_⟩
        · have h := h.1 hc
          rw [lP_5_3 hS4 hg5]
          refine ⟨hS4.o (sP_7 hg5), ?_⟩
          obtain ⟨hi9, h⟩ := h
          refine ⟨by first | (rw [(nP_7 hS4 hg5)]; exact hi9) | exact (congrArg (vp_in _) (nP_7 hS4 hg5)).mpr hi9 | exact hi9, ?_⟩
          exact qx_j hS4 hx4 h
        · have h := h.2 hc
          exact qx_j hS4 hx4 h
theorem w_X11_shown_0 {E : EE} {d : Nat} {V : VH} {K : Int32 → VH → Prop} {x1 : Int32} {x2 : Int32} {x3 : Int32}  (h0 : 0 < d) (h : vMP E (d - 1) M_X11_known [sl 0 28, wi x1] V (fun g1 V1 => (¬ vL V1 g1 = true → K (-1) V1) ∧ (vL V1 g1 = true → (g1 ≠ 0 ∧ g1 ≠ 6) ∧ ((x2 < 0 → K (-1) V1) ∧ (¬ (x2 < 0) → (0 ≤ x3 → vMV E (d - 1) M_X10_scan [sl 0 2, sl g1 1] V1 (fun V4 => vwp E d M_X11_shown 43 [some (sl 0 28), some (wi x1), some (wi x2), some (wi x3), some (sl g1 0), some (wi 0), some (wi x3), some (wi 0), none, none] [] V4 (zi K))) ∧ (¬ (0 ≤ x3) → K (-1) V1)))))) : vMI E d M_X11_shown [sl 0 28, wi x1, wi x2, wi x3] V K := by
  intro G A hR
  obtain ⟨L, P, rfl, hS⟩ := hR
  have hx := Xt.refl (V := pl G A L P) (A := A)
  show wpM E d M_X11_shown [vr (A 0 28), vi x1, vi x2, vi x3] G _
  refine wpM_of mk_X11_shown (Nat.le_of_ble_eq_true rfl) ?_
  refine v_X11_shown_0 h0 ?_
  refine ⟨hS.o (s0_28 hS), ?_⟩
  refine wpM.mono (h G A ⟨L, P, rfl, hS⟩) (fun rr1 G1 hr => ?_)
  obtain ⟨A1, W1, w1, ⟨L1, P1, rfl, hS1⟩, hy1, rfl, g1, rfl, h⟩ := hr
  refine ⟨A1 g1 0, rfl, ?_⟩
  have hx1 := Xt.trans hx hy1
  have ee2 : A1 0 28 = A 0 28 := hy1.2 _ _ hS.1.1 (((n0_28 hS1)).trans ((n0_28 hS)).symm)
  try rw [← ee2]
  refine ⟨fun hc => ?_, fun hc => ?_⟩
  · have h := h.1 ((hS1.null (nf_pos _)).mp hc)
    exact qx_i hS1 hx1 h
  · have h := h.2 (hS1.lv0 hc)
    obtain ⟨hw, h⟩ := h
    have hg3 : PG L1 g1 := ⟨hS1.lv0 hc, hw⟩
    refine ⟨fun hc => ?_, fun hc => ?_⟩
    · have h := h.1 hc
      exact qx_i hS1 hx1 h
    · have h := h.2 hc
      refine ⟨fun hc => ?_, fun hc => ?_⟩
      · have h := h.1 hc
        refine ⟨hS1.o (s0_28 hS1), ?_⟩
        rw [l0_28_1 hS1]
        refine ⟨hS1.o (sP_0 hg3), ?_⟩
        rw [lP_0_1 hS1 hg3]
        refine ⟨hS1.o (s0_2 hS1), ?_⟩
        refine wpM.mono (h G1 A1 ⟨L1, P1, rfl, hS1⟩) (fun rr4 G4 hr => ?_)
        obtain ⟨A4, W4, w4, ⟨L4, P4, rfl, hS4⟩, hy4, rfl, rfl, h⟩ := hr
        refine ⟨rfl, ?_⟩
        have hx4 := Xt.trans hx1 hy4
        have hg5 : PG L4 g1 := PG.up hy4 hg3
        have ee6 : A4 0 28 = A1 0 28 := hy4.2 _ _ hS1.1.1 (((n0_28 hS4)).trans ((n0_28 hS1)).symm)
        try rw [← ee6]
        have ee7 : A4 g1 0 = A1 g1 0 := hy4.2 _ _ hg3.1 (((nP_0 hS4 hg5)).trans ((nP_0 hS1 hg3)).symm)
        try rw [← ee7]
        exact wp.mono (h G4 A4 ⟨L4, P4, rfl, hS4⟩) (fun r G' q => qx_trans hx4 q)
      · have h := h.2 hc
        exact qx_i hS1 hx1 h
theorem w_X11_letter_0 {E : EE} {d : Nat} {V : VH} {K : Int32 → VH → Prop} {x1 : Int32} {x2 : Int32} {x3 : Int32} {x4 : Int32}  (h0 : 0 < d) (h : vMP E (d - 1) M_X11_known [sl 0 28, wi x1] V (fun g1 V1 => (¬ vL V1 g1 = true → K (-1) V1) ∧ (vL V1 g1 = true → (g1 ≠ 0 ∧ g1 ≠ 6) ∧ ((x2 < 0 → K (-1) V1) ∧ (¬ (x2 < 0) → (x2 ≤ 3 → (x3 < 0 → K (-1) V1) ∧ (¬ (x3 < 0) → vp_in x2 4 ∧ ((x3 < (vI V1 g1 4 (Int32.toNatClampNeg x2)) → vp_in ((x2 * 24) + x3) 96 ∧ (vMI E (d - 1) M_X11_letterOf [wj (vJ V1 g1 3 (Int32.toNatClampNeg ((x2 * 24) + x3))), wi x4] V1 (fun r6 V6 => K r6 V6))) ∧ (¬ (x3 < (vI V1 g1 4 (Int32.toNatClampNeg x2))) → K (-1) V1)))) ∧ (¬ (x2 ≤ 3) → K (-1) V1)))))) : vMI E d M_X11_letter [sl 0 28, wi x1, wi x2, wi x3, wi x4] V K := by
  intro G A hR
  obtain ⟨L, P, rfl, hS⟩ := hR
  have hx := Xt.refl (V := pl G A L P) (A := A)
  show wpM E d M_X11_letter [vr (A 0 28), vi x1, vi x2, vi x3, vi x4] G _
  refine wpM_of mk_X11_letter (Nat.le_of_ble_eq_true rfl) ?_
  refine v_X11_letter_0 h0 ?_
  refine ⟨hS.o (s0_28 hS), ?_⟩
  refine wpM.mono (h G A ⟨L, P, rfl, hS⟩) (fun rr1 G1 hr => ?_)
  obtain ⟨A1, W1, w1, ⟨L1, P1, rfl, hS1⟩, hy1, rfl, g1, rfl, h⟩ := hr
  refine ⟨A1 g1 0, rfl, ?_⟩
  have hx1 := Xt.trans hx hy1
  have ee2 : A1 0 28 = A 0 28 := hy1.2 _ _ hS.1.1 (((n0_28 hS1)).trans ((n0_28 hS)).symm)
  try rw [← ee2]
  refine ⟨fun hc => ?_, fun hc => ?_⟩
  · have h := h.1 ((hS1.null (nf_pos _)).mp hc)
    exact qx_i hS1 hx1 h
  · have h := h.2 (hS1.lv0 hc)
    obtain ⟨hw, h⟩ := h
    have hg3 : PG L1 g1 := ⟨hS1.lv0 hc, hw⟩
    refine ⟨fun hc => ?_, fun hc => ?_⟩
    · have h := h.1 hc
      exact qx_i hS1 hx1 h
    · have h := h.2 hc
      refine ⟨fun hc => ?_, fun hc => ?_⟩
      · have h := h.1 hc
        refine ⟨fun hc => ?_, fun hc => ?_⟩
        · have h := h.1 hc
          exact qx_i hS1 hx1 h
        · have h := h.2 hc
          refine ⟨hS1.o (sP_0 hg3), ?_⟩
          rw [lP_0_3 hS1 hg3]
          refine ⟨hS1.o (sP_4 hg3), ?_⟩
          obtain ⟨hi4, h⟩ := h
          refine ⟨by first | (rw [(nP_4 hS1 hg3)]; exact hi4) | exact (congrArg (vp_in _) (nP_4 hS1 hg3)).mpr hi4 | exact hi4, ?_⟩
          refine ⟨fun hc => ?_, fun hc => ?_⟩
          · have h := h.1 hc
            rw [lP_0_2 hS1 hg3]
            refine ⟨hS1.o (sP_3 hg3), ?_⟩
            obtain ⟨hi5, h⟩ := h
            refine ⟨by first | (rw [(nP_3 hS1 hg3)]; exact hi5) | exact (congrArg (vp_in _) (nP_3 hS1 hg3)).mpr hi5 | exact hi5, ?_⟩
            refine wpM.mono (h G1 A1 ⟨L1, P1, rfl, hS1⟩) (fun rr6 G6 hr => ?_)
            obtain ⟨A6, W6, w6, ⟨L6, P6, rfl, hS6⟩, hy6, rfl, r6, rfl, h⟩ := hr
            refine ⟨r6, rfl, ?_⟩
            have hx6 := Xt.trans hx1 hy6
            have hg7 : PG L6 g1 := PG.up hy6 hg3
            have ee8 : A6 0 28 = A1 0 28 := hy6.2 _ _ hS1.1.1 (((n0_28 hS6)).trans ((n0_28 hS1)).symm)
            try rw [← ee8]
            have ee9 : A6 g1 0 = A1 g1 0 := hy6.2 _ _ hg3.1 (((nP_0 hS6 hg7)).trans ((nP_0 hS1 hg3)).symm)
            try rw [← ee9]
            exact qx_i hS6 hx6 h
          · have h := h.2 hc
            exact qx_i hS1 hx1 h
      · have h := h.2 hc
        exact qx_i hS1 hx1 h
theorem w_X11_find_0 {E : EE} {d : Nat} {V : VH} {K : Int32 → VH → Prop} {x1 : Int32}  (h0 : 0 < d) (h : vMP E (d - 1) M_X11_known [sl 0 28, wi x1] V (fun g1 V1 => (vL V1 g1 = true → (g1 ≠ 0 ∧ g1 ≠ 6) ∧ (vMV E (d - 1) M_X10_scan [sl 0 2, sl 0 0] V1 (fun V4 => (¬ (vI V4 0 2 6) = 2 → K (-1) V4) ∧ ((vI V4 0 2 6) = 2 → (¬ (vI V4 0 2 8) = 0 → K (-1) V4) ∧ ((vI V4 0 2 8) = 0 → ((vI V4 0 2 9) = (vI V4 0 0 1) → vMI E (d - 1) M_X3_lookUp [sl g1 0, wj (vJ V4 0 2 7)] V4 (fun r8 V8 => (0 ≤ r8 → K ((100 * (r8 / 24)) + (r8 - r8 / 24 * 24)) V8) ∧ (¬ (0 ≤ r8) → K (-1) V8))) ∧ (¬ ((vI V4 0 2 9) = (vI V4 0 0 1)) → K (-1) V4)))))) ∧ (¬ vL V1 g1 = true → K (-1) V1))) : vMI E d M_X11_find [sl 0 28, wi x1] V K := by
  intro G A hR
  obtain ⟨L, P, rfl, hS⟩ := hR
  have hx := Xt.refl (V := pl G A L P) (A := A)
  show wpM E d M_X11_find [vr (A 0 28), vi x1] G _
  refine wpM_of mk_X11_find (Nat.le_of_ble_eq_true rfl) ?_
  refine v_X11_find_0 h0 ?_
  refine ⟨hS.o (s0_28 hS), ?_⟩
  refine wpM.mono (h G A ⟨L, P, rfl, hS⟩) (fun rr1 G1 hr => ?_)
  obtain ⟨A1, W1, w1, ⟨L1, P1, rfl, hS1⟩, hy1, rfl, g1, rfl, h⟩ := hr
  refine ⟨A1 g1 0, rfl, ?_⟩
  have hx1 := Xt.trans hx hy1
  have ee2 : A1 0 28 = A 0 28 := hy1.2 _ _ hS.1.1 (((n0_28 hS1)).trans ((n0_28 hS)).symm)
  try rw [← ee2]
  refine ⟨fun hc => ?_, fun hc => ?_⟩
  · have h := h.1 (hS1.lv0 hc)
    obtain ⟨hw, h⟩ := h
    have hg3 : PG L1 g1 := ⟨hS1.lv0 hc, hw⟩
    refine ⟨hS1.o (s0_28 hS1), ?_⟩
    rw [l0_28_1 hS1]
    rw [l0_28_0 hS1]
    refine ⟨hS1.o (s0_2 hS1), ?_⟩
    refine wpM.mono (h G1 A1 ⟨L1, P1, rfl, hS1⟩) (fun rr4 G4 hr => ?_)
    obtain ⟨A4, W4, w4, ⟨L4, P4, rfl, hS4⟩, hy4, rfl, rfl, h⟩ := hr
    refine ⟨rfl, ?_⟩
    have hx4 := Xt.trans hx1 hy4
    have hg5 : PG L4 g1 := PG.up hy4 hg3
    have ee6 : A4 0 28 = A1 0 28 := hy4.2 _ _ hS1.1.1 (((n0_28 hS4)).trans ((n0_28 hS1)).symm)
    try rw [← ee6]
    have ee7 : A4 g1 0 = A1 g1 0 := hy4.2 _ _ hg3.1 (((nP_0 hS4 hg5)).trans ((nP_0 hS1 hg3)).symm)
    try rw [← ee7]
    refine ⟨hS4.o (s0_28 hS4), ?_⟩
    rw [l0_28_1 hS4]
    refine ⟨hS4.o (s0_2 hS4), ?_⟩
    refine ⟨fun hc => ?_, fun hc => ?_⟩
    · have h := h.1 hc
      exact qx_i hS4 hx4 h
    · have h := h.2 hc
      refine ⟨fun hc => ?_, fun hc => ?_⟩
      · have h := h.1 hc
        exact qx_i hS4 hx4 h
      · have h := h.2 hc
        rw [l0_28_0 hS4]
        refine ⟨hS4.o (s0_0 hS4), ?_⟩
        refine ⟨fun hc => ?_, fun hc => ?_⟩
        · have h := h.1 hc
          refine ⟨hS4.o (sP_0 hg5), ?_⟩
          refine wpM.mono (h G4 A4 ⟨L4, P4, rfl, hS4⟩) (fun rr8 G8 hr => ?_)
          obtain ⟨A8, W8, w8, ⟨L8, P8, rfl, hS8⟩, hy8, rfl, r8, rfl, h⟩ := hr
          refine ⟨r8, rfl, ?_⟩
          have hx8 := Xt.trans hx4 hy8
          have hg9 : PG L8 g1 := PG.up hy8 hg5
          have ee10 : A8 0 28 = A4 0 28 := hy8.2 _ _ hS4.1.1 (((n0_28 hS8)).trans ((n0_28 hS4)).symm)
          try rw [← ee10]
          have ee11 : A8 g1 0 = A4 g1 0 := hy8.2 _ _ hg5.1 (((nP_0 hS8 hg9)).trans ((nP_0 hS4 hg5)).symm)
          try rw [← ee11]
          refine ⟨fun hc => ?_, fun hc => ?_⟩
          · have h := h.1 hc
            exact qx_i hS8 hx8 h
          · have h := h.2 hc
            exact qx_i hS8 hx8 h
        · have h := h.2 hc
          exact qx_i hS4 hx4 h
  · have h := h.2 ((hS1.null (nf_pos _)).mp hc)
    exact qx_i hS1 hx1 h
theorem w_X11_count_0 {E : EE} {d : Nat} {V : VH} {K : Int32 → VH → Prop} {x1 : Int32} {x2 : Int32}  (h0 : 0 < d) (h : vMP E (d - 1) M_X11_known [sl 0 28, wi x1] V (fun g1 V1 => (vL V1 g1 = true → (g1 ≠ 0 ∧ g1 ≠ 6) ∧ ((x2 = 0 → K (vI V1 g1 4 (Int32.toNatClampNeg 0)) V1) ∧ ((x2 = 1 → K (vI V1 g1 4 (Int32.toNatClampNeg 1)) V1) ∧ ((x2 = 2 → K (vI V1 g1 4 (Int32.toNatClampNeg 2)) V1) ∧ ((x2 = 3 → K (vI V1 g1 4 (Int32.toNatClampNeg 3)) V1) ∧ ((x2 = 4 → K (vI V1 g1 5 1) V1) ∧ ((x2 = 5 → vMI E (d - 1) M_X7_agreeing [sl g1 5, wi (vI V1 g1 0 9)] V1 (fun r8 V8 => K r8 V8)) ∧ ((x2 = 6 → vMI E (d - 1) M_J6_bitCount_0f7a4 [wi (vI V1 g1 9 0)] V1 (fun r12 V12 => K r12 V12)) ∧ ((x2 = 7 → K (vI V1 g1 0 11) V1) ∧ ((x2 = 8 → K (vI V1 g1 1 1) V1) ∧ ((¬ x2 = 0 → ¬ x2 = 1 → ¬ x2 = 2 → ¬ x2 = 3 → ¬ x2 = 4 → ¬ x2 = 5 → ¬ x2 = 6 → ¬ x2 = 7 → ¬ x2 = 8 → K (-1) V1)))))))))))) ∧ (¬ vL V1 g1 = true → K (-1) V1))) : vMI E d M_X11_count [sl 0 28, wi x1, wi x2] V K := by
  intro G A hR
  obtain ⟨L, P, rfl, hS⟩ := hR
  have hx := Xt.refl (V := pl G A L P) (A := A)
  show wpM E d M_X11_count [vr (A 0 28), vi x1, vi x2] G _
  refine wpM_of mk_X11_count (Nat.le_of_ble_eq_true rfl) ?_
  refine v_X11_count_0 h0 ?_
  refine ⟨hS.o (s0_28 hS), ?_⟩
  refine wpM.mono (h G A ⟨L, P, rfl, hS⟩) (fun rr1 G1 hr => ?_)
  obtain ⟨A1, W1, w1, ⟨L1, P1, rfl, hS1⟩, hy1, rfl, g1, rfl, h⟩ := hr
  refine ⟨A1 g1 0, rfl, ?_⟩
  have hx1 := Xt.trans hx hy1
  have ee2 : A1 0 28 = A 0 28 := hy1.2 _ _ hS.1.1 (((n0_28 hS1)).trans ((n0_28 hS)).symm)
  try rw [← ee2]
  refine ⟨fun hc => ?_, fun hc => ?_⟩
  · have h := h.1 (hS1.lv0 hc)
    obtain ⟨hw, h⟩ := h
    have hg3 : PG L1 g1 := ⟨hS1.lv0 hc, hw⟩
    refine ⟨fun hc => ?_, ?_⟩
    · have h := h.1 hc
      refine ⟨hS1.o (sP_0 hg3), ?_⟩
      rw [lP_0_3 hS1 hg3]
      refine ⟨hS1.o (sP_4 hg3), ?_⟩
      refine ⟨by first | (rw [(nP_4 hS1 hg3)]; unfold vp_in; decide) | exact (congrArg (vp_in _) (nP_4 hS1 hg3)).mpr (by unfold vp_in; decide) | (unfold vp_in; decide), ?_⟩
      exact qx_i hS1 hx1 h
    have h := h.2
    refine ⟨fun hc => ?_, ?_⟩
    · have h := h.1 hc
      refine ⟨hS1.o (sP_0 hg3), ?_⟩
      rw [lP_0_3 hS1 hg3]
      refine ⟨hS1.o (sP_4 hg3), ?_⟩
      refine ⟨by first | (rw [(nP_4 hS1 hg3)]; unfold vp_in; decide) | exact (congrArg (vp_in _) (nP_4 hS1 hg3)).mpr (by unfold vp_in; decide) | (unfold vp_in; decide), ?_⟩
      exact qx_i hS1 hx1 h
    have h := h.2
    refine ⟨fun hc => ?_, ?_⟩
    · have h := h.1 hc
      refine ⟨hS1.o (sP_0 hg3), ?_⟩
      rw [lP_0_3 hS1 hg3]
      refine ⟨hS1.o (sP_4 hg3), ?_⟩
      refine ⟨by first | (rw [(nP_4 hS1 hg3)]; unfold vp_in; decide) | exact (congrArg (vp_in _) (nP_4 hS1 hg3)).mpr (by unfold vp_in; decide) | (unfold vp_in; decide), ?_⟩
      exact qx_i hS1 hx1 h
    have h := h.2
    refine ⟨fun hc => ?_, ?_⟩
    · have h := h.1 hc
      refine ⟨hS1.o (sP_0 hg3), ?_⟩
      rw [lP_0_3 hS1 hg3]
      refine ⟨hS1.o (sP_4 hg3), ?_⟩
      refine ⟨by first | (rw [(nP_4 hS1 hg3)]; unfold vp_in; decide) | exact (congrArg (vp_in _) (nP_4 hS1 hg3)).mpr (by unfold vp_in; decide) | (unfold vp_in; decide), ?_⟩
      exact qx_i hS1 hx1 h
    have h := h.2
    refine ⟨fun hc => ?_, ?_⟩
    · have h := h.1 hc
      refine ⟨hS1.o (sP_0 hg3), ?_⟩
      rw [lP_0_4 hS1 hg3]
      refine ⟨hS1.o (sP_5 hg3), ?_⟩
      exact qx_i hS1 hx1 h
    have h := h.2
    refine ⟨fun hc => ?_, ?_⟩
    · have h := h.1 hc
      refine ⟨hS1.o (sP_0 hg3), ?_⟩
      rw [lP_0_4 hS1 hg3]
      refine ⟨hS1.o (sP_5 hg3), ?_⟩
      refine wpM.mono (h G1 A1 ⟨L1, P1, rfl, hS1⟩) (fun rr8 G8 hr => ?_)
      obtain ⟨A8, W8, w8, ⟨L8, P8, rfl, hS8⟩, hy8, rfl, r8, rfl, h⟩ := hr
      refine ⟨r8, rfl, ?_⟩
      have hx8 := Xt.trans hx1 hy8
      have hg9 : PG L8 g1 := PG.up hy8 hg3
      have ee10 : A8 0 28 = A1 0 28 := hy8.2 _ _ hS1.1.1 (((n0_28 hS8)).trans ((n0_28 hS1)).symm)
      try rw [← ee10]
      have ee11 : A8 g1 0 = A1 g1 0 := hy8.2 _ _ hg3.1 (((nP_0 hS8 hg9)).trans ((nP_0 hS1 hg3)).symm)
      try rw [← ee11]
      exact qx_i hS8 hx8 h
    have h := h.2
    refine ⟨fun hc => ?_, ?_⟩
    · have h := h.1 hc
      refine ⟨hS1.o (sP_0 hg3), ?_⟩
      rw [lP_0_5 hS1 hg3]
      refine ⟨hS1.o (sP_9 hg3), ?_⟩
      refine wpM.mono (h G1 A1 ⟨L1, P1, rfl, hS1⟩) (fun rr12 G12 hr => ?_)
      obtain ⟨A12, W12, w12, ⟨L12, P12, rfl, hS12⟩, hy12, rfl, r12, rfl, h⟩ := hr
      refine ⟨r12, rfl, ?_⟩
      have hx12 := Xt.trans hx1 hy12
      have hg13 : PG L12 g1 := PG.up hy12 hg3
      have ee14 : A12 0 28 = A1 0 28 := hy12.2 _ _ hS1.1.1 (((n0_28 hS12)).trans ((n0_28 hS1)).symm)
      try rw [← ee14]
      have ee15 : A12 g1 0 = A1 g1 0 := hy12.2 _ _ hg3.1 (((nP_0 hS12 hg13)).trans ((nP_0 hS1 hg3)).symm)
      try rw [← ee15]
      exact qx_i hS12 hx12 h
    have h := h.2
    refine ⟨fun hc => ?_, ?_⟩
    · have h := h.1 hc
      refine ⟨hS1.o (sP_0 hg3), ?_⟩
      exact qx_i hS1 hx1 h
    have h := h.2
    refine ⟨fun hc => ?_, ?_⟩
    · have h := h.1 hc
      refine ⟨hS1.o (sP_0 hg3), ?_⟩
      rw [lP_0_1 hS1 hg3]
      refine ⟨hS1.o (sP_1 hg3), ?_⟩
      exact qx_i hS1 hx1 h
    have h := h.2
    intro q0 q1 q2 q3 q4 q5 q6 q7 q8
    have h := h q0 q1 q2 q3 q4 q5 q6 q7 q8
    exact qx_i hS1 hx1 h
  · have h := h.2 ((hS1.null (nf_pos _)).mp hc)
    exact qx_i hS1 hx1 h
theorem w_X11_drop_0 {E : EE} {d : Nat} {V : VH} {K : Int32 → VH → Prop} {x1 : Int32}  (h0 : 0 < d) (h : vMP E (d - 1) M_X11_known [sl 0 28, wi x1] V (fun g1 V1 => (vL V1 g1 = true → (g1 ≠ 0 ∧ g1 ≠ 6) ∧ (∀ V4 : VH, V4 = wrI V1 g1 0 0 0 → K 1 V4)) ∧ (¬ vL V1 g1 = true → K 0 V1))) : vMI E d M_X11_drop [sl 0 28, wi x1] V K := by
  intro G A hR
  obtain ⟨L, P, rfl, hS⟩ := hR
  have hx := Xt.refl (V := pl G A L P) (A := A)
  show wpM E d M_X11_drop [vr (A 0 28), vi x1] G _
  refine wpM_of mk_X11_drop (Nat.le_of_ble_eq_true rfl) ?_
  refine v_X11_drop_0 h0 ?_
  refine ⟨hS.o (s0_28 hS), ?_⟩
  refine wpM.mono (h G A ⟨L, P, rfl, hS⟩) (fun rr1 G1 hr => ?_)
  obtain ⟨A1, W1, w1, ⟨L1, P1, rfl, hS1⟩, hy1, rfl, g1, rfl, h⟩ := hr
  refine ⟨A1 g1 0, rfl, ?_⟩
  have hx1 := Xt.trans hx hy1
  have ee2 : A1 0 28 = A 0 28 := hy1.2 _ _ hS.1.1 (((n0_28 hS1)).trans ((n0_28 hS)).symm)
  try rw [← ee2]
  refine ⟨fun hc => ?_, fun hc => ?_⟩
  · have h := h.1 (hS1.lv0 hc)
    obtain ⟨hw, h⟩ := h
    have hg3 : PG L1 g1 := ⟨hS1.lv0 hc, hw⟩
    refine ⟨hS1.o (sP_0 hg3), ?_⟩
    have hS4 : Sh E (sI G1 (A1 g1 0) 0 0) A1 L1 P1 := Sh_sI (rfl : sI G1 (A1 g1 0) 0 0 = sI G1 (A1 g1 0) 0 0) hS1 (sP_0 hg3) (okT_2 rfl (Or.inl rfl))
    have h := h (pl (sI G1 (A1 g1 0) 0 0) A1 L1 P1) (pl_sI (rfl : sI G1 (A1 g1 0) 0 0 = sI G1 (A1 g1 0) 0 0) hS1 (sP_0 hg3))
    have hx4 : Xt (pl G A L P) A (pl (sI G1 (A1 g1 0) 0 0) A1 L1 P1) A1 := Xt_sI (rfl : sI G1 (A1 g1 0) 0 0 = sI G1 (A1 g1 0) 0 0) hx1
    exact qx_i hS4 hx4 h
  · have h := h.2 ((hS1.null (nf_pos _)).mp hc)
    exact qx_i hS1 hx1 h
theorem w_X11_fault_0 {E : EE} {d : Nat} {V : VH} {K : Int32 → VH → Prop}   (h : K (vI V 0 28 9) V) : vMI E d M_X11_fault [sl 0 28] V K := by
  intro G A hR
  obtain ⟨L, P, rfl, hS⟩ := hR
  have hx := Xt.refl (V := pl G A L P) (A := A)
  show wpM E d M_X11_fault [vr (A 0 28)] G _
  refine wpM_of mk_X11_fault (Nat.le_of_ble_eq_true rfl) ?_
  refine v_X11_fault_0 ?_
  refine ⟨hS.o (s0_28 hS), ?_⟩
  exact qx_i hS hx h
theorem w_X11_problem_0 {E : EE} {d : Nat} {V : VH} {K : Int32 → VH → Prop}   (h0 : 0 < d) (h : vMI E (d - 1) M_X11_freeNumber [sl 0 28] V (fun r1 V1 => (0 ≤ r1 → vMP E (d - 1) M_X11_roomFor [sl 0 28, wi r1] V1 (fun g3 V3 => PG (vL V3) g3 ∧ (vMV E (d - 1) M_X0_become [sl g3 1, sl 0 0, wi 0, wi (vI V3 0 0 1)] V3 (fun V6 => vMV E (d - 1) M_X0_keep [sl 0 0, wi 0] V6 (fun V10 => vMI E (d - 1) M_X5_read [sl 0 7, sl g3 0] V10 (fun r14 V14 => bz r14 ∧ (∀ V19 : VH, V19 = wrI V14 g3 0 0 r14 → ∀ V20 : VH, V20 = wrI V19 0 28 9 (vI V19 0 2 10) → ((vI V20 g3 0 0) = 0 → K ((-1) - (vI V20 0 2 11)) V20) ∧ (¬ ((vI V20 g3 0 0) = 0) → K r1 V20)))))))) ∧ (¬ (0 ≤ r1) → K (-100000) V1))) : vMI E d M_X11_problem [sl 0 28] V K := by
  intro G A hR
  obtain ⟨L, P, rfl, hS⟩ := hR
  have hx := Xt.refl (V := pl G A L P) (A := A)
  show wpM E d M_X11_problem [vr (A 0 28)] G _
  refine wpM_of mk_X11_problem (Nat.le_of_ble_eq_true rfl) ?_
  refine v_X11_problem_0 h0 ?_
  refine ⟨hS.o (s0_28 hS), ?_⟩
  refine wpM.mono (h G A ⟨L, P, rfl, hS⟩) (fun rr1 G1 hr => ?_)
  obtain ⟨A1, W1, w1, ⟨L1, P1, rfl, hS1⟩, hy1, rfl, r1, rfl, h⟩ := hr
  refine ⟨r1, rfl, ?_⟩
  have hx1 := Xt.trans hx hy1
  have ee2 : A1 0 28 = A 0 28 := hy1.2 _ _ hS.1.1 (((n0_28 hS1)).trans ((n0_28 hS)).symm)
  try rw [← ee2]
  refine ⟨fun hc => ?_, fun hc => ?_⟩
  · have h := h.1 hc
    refine ⟨hS1.o (s0_28 hS1), ?_⟩
    refine wpM.mono (h G1 A1 ⟨L1, P1, rfl, hS1⟩) (fun rr3 G3 hr => ?_)
    obtain ⟨A3, W3, w3, ⟨L3, P3, rfl, hS3⟩, hy3, rfl, g3, rfl, h⟩ := hr
    refine ⟨A3 g3 0, rfl, ?_⟩
    have hx3 := Xt.trans hx1 hy3
    have ee4 : A3 0 28 = A1 0 28 := hy3.2 _ _ hS1.1.1 (((n0_28 hS3)).trans ((n0_28 hS1)).symm)
    try rw [← ee4]
    obtain ⟨hg5, h⟩ := h
    refine ⟨hS3.o (sP_0 hg5), ?_⟩
    rw [lP_0_1 hS3 hg5]
    refine ⟨hS3.o (s0_28 hS3), ?_⟩
    rw [l0_28_0 hS3]
    refine ⟨hS3.o (s0_0 hS3), ?_⟩
    refine ⟨hS3.o (sP_1 hg5), ?_⟩
    refine wpM.mono (h G3 A3 ⟨L3, P3, rfl, hS3⟩) (fun rr6 G6 hr => ?_)
    obtain ⟨A6, W6, w6, ⟨L6, P6, rfl, hS6⟩, hy6, rfl, rfl, h⟩ := hr
    refine ⟨rfl, ?_⟩
    have hx6 := Xt.trans hx3 hy6
    have hg7 : PG L6 g3 := PG.up hy6 hg5
    have ee8 : A6 0 28 = A3 0 28 := hy6.2 _ _ hS3.1.1 (((n0_28 hS6)).trans ((n0_28 hS3)).symm)
    try rw [← ee8]
    have ee9 : A6 g3 0 = A3 g3 0 := hy6.2 _ _ hg5.1 (((nP_0 hS6 hg7)).trans ((nP_0 hS3 hg5)).symm)
    try rw [← ee9]
    refine ⟨hS6.o (s0_28 hS6), ?_⟩
    rw [l0_28_0 hS6]
    refine ⟨hS6.o (s0_0 hS6), ?_⟩
    refine wpM.mono (h G6 A6 ⟨L6, P6, rfl, hS6⟩) (fun rr10 G10 hr => ?_)
    obtain ⟨A10, W10, w10, ⟨L10, P10, rfl, hS10⟩, hy10, rfl, rfl, h⟩ := hr
    refine ⟨rfl, ?_⟩
    have hx10 := Xt.trans hx6 hy10
    have hg11 : PG L10 g3 := PG.up hy10 hg7
    have ee12 : A10 0 28 = A6 0 28 := hy10.2 _ _ hS6.1.1 (((n0_28 hS10)).trans ((n0_28 hS6)).symm)
    try rw [← ee12]
    have ee13 : A10 g3 0 = A6 g3 0 := hy10.2 _ _ hg7.1 (((nP_0 hS10 hg11)).trans ((nP_0 hS6 hg7)).symm)
    try rw [← ee13]
    refine ⟨hS10.o (s0_28 hS10), ?_⟩
    rw [l0_28_2 hS10]
    refine ⟨hS10.o (s0_7 hS10), ?_⟩
    refine wpM.mono (h G10 A10 ⟨L10, P10, rfl, hS10⟩) (fun rr14 G14 hr => ?_)
    obtain ⟨A14, W14, w14, ⟨L14, P14, rfl, hS14⟩, hy14, rfl, r14, rfl, h⟩ := hr
    refine ⟨r14, rfl, ?_⟩
    have hx14 := Xt.trans hx10 hy14
    have hg15 : PG L14 g3 := PG.up hy14 hg11
    have ee16 : A14 0 28 = A10 0 28 := hy14.2 _ _ hS10.1.1 (((n0_28 hS14)).trans ((n0_28 hS10)).symm)
    try rw [← ee16]
    have ee17 : A14 g3 0 = A10 g3 0 := hy14.2 _ _ hg11.1 (((nP_0 hS14 hg15)).trans ((nP_0 hS10 hg11)).symm)
    try rw [← ee17]
    refine ⟨hS14.o (sP_0 hg15), ?_⟩
    obtain ⟨hk18, h⟩ := h
    refine ⟨bz_ok hk18, ?_⟩
    intro G19 eG19
    have hS19 : Sh E G19 A14 L14 P14 := Sh_sI eG19 hS14 (sP_0 hg15) (okT_2 rfl hk18)
    have h := h (pl G19 A14 L14 P14) (pl_sI eG19 hS14 (sP_0 hg15))
    have hx19 : Xt (pl G A L P) A (pl G19 A14 L14 P14) A14 := Xt_sI eG19 hx14
    refine ⟨hS19.o (s0_28 hS19), ?_⟩
    rw [l0_28_1 hS19]
    refine ⟨hS19.o (s0_2 hS19), ?_⟩
    intro G20 eG20
    have hS20 : Sh E G20 A14 L14 P14 := Sh_sI eG20 hS19 (s0_28 hS19) (okT_0 rfl)
    have h := h (pl G20 A14 L14 P14) (pl_sI eG20 hS19 (s0_28 hS19))
    have hx20 : Xt (pl G A L P) A (pl G20 A14 L14 P14) A14 := Xt_sI eG20 hx19
    refine ⟨fun hc => ?_, fun hc => ?_⟩
    · have h := h.1 hc
      rw [l0_28_1 hS20]
      refine ⟨hS20.o (s0_2 hS20), ?_⟩
      exact qx_i hS20 hx20 h
    · have h := h.2 hc
      exact qx_i hS20 hx20 h
  · have h := h.2 hc
    exact qx_i hS1 hx1 h
theorem w_X11_tapeAt_0 {E : EE} {d : Nat} {V : VH} {K : Int32 → VH → Prop} {x1 : Int32}  (h0 : 0 < d) (h : vMI E (d - 1) M_X0_at [sl 0 0, wi x1] V (fun r1 V1 => K r1 V1)) : vMI E d M_X11_tapeAt [sl 0 28, wi x1] V K := by
  intro G A hR
  obtain ⟨L, P, rfl, hS⟩ := hR
  have hx := Xt.refl (V := pl G A L P) (A := A)
  show wpM E d M_X11_tapeAt [vr (A 0 28), vi x1] G _
  refine wpM_of mk_X11_tapeAt (Nat.le_of_ble_eq_true rfl) ?_
  refine v_X11_tapeAt_0 h0 ?_
  refine ⟨hS.o (s0_28 hS), ?_⟩
  rw [l0_28_0 hS]
  refine ⟨hS.o (s0_0 hS), ?_⟩
  refine wpM.mono (h G A ⟨L, P, rfl, hS⟩) (fun rr1 G1 hr => ?_)
  obtain ⟨A1, W1, w1, ⟨L1, P1, rfl, hS1⟩, hy1, rfl, r1, rfl, h⟩ := hr
  refine ⟨r1, rfl, ?_⟩
  have hx1 := Xt.trans hx hy1
  have ee2 : A1 0 28 = A 0 28 := hy1.2 _ _ hS.1.1 (((n0_28 hS1)).trans ((n0_28 hS)).symm)
  try rw [← ee2]
  exact qx_i hS1 hx1 h
theorem w_X11_spoil_0 {E : EE} {d : Nat} {V : VH} {K : Int32 → VH → Prop} {x1 : Int32} {x2 : Int32}  (h0 : 0 < d) (h : (x1 < 0 → K (-1) V) ∧ (¬ (x1 < 0) → (x1 < (vI V 0 0 1) → vMI E (d - 1) M_X0_at [sl 0 0, wi x1] V (fun r1 V1 => vMV E (d - 1) M_X0_exchange [sl 0 0, wi x1, wi (r1 ^^^ x2)] V1 (fun V4 => vMI E (d - 1) M_X0_at [sl 0 0, wi x1] V4 (fun r6 V6 => K r6 V6)))) ∧ (¬ (x1 < (vI V 0 0 1)) → K (-1) V))) : vMI E d M_X11_spoil [sl 0 28, wi x1, wi x2] V K := by
  intro G A hR
  obtain ⟨L, P, rfl, hS⟩ := hR
  have hx := Xt.refl (V := pl G A L P) (A := A)
  show wpM E d M_X11_spoil [vr (A 0 28), vi x1, vi x2] G _
  refine wpM_of mk_X11_spoil (Nat.le_of_ble_eq_true rfl) ?_
  refine v_X11_spoil_0 h0 ?_
  refine ⟨fun hc => ?_, fun hc => ?_⟩
  · have h := h.1 hc
    exact qx_i hS hx h
  · have h := h.2 hc
    refine ⟨hS.o (s0_28 hS), ?_⟩
    rw [l0_28_0 hS]
    refine ⟨hS.o (s0_0 hS), ?_⟩
    refine ⟨fun hc => ?_, fun hc => ?_⟩
    · have h := h.1 hc
      refine wpM.mono (h G A ⟨L, P, rfl, hS⟩) (fun rr1 G1 hr => ?_)
      obtain ⟨A1, W1, w1, ⟨L1, P1, rfl, hS1⟩, hy1, rfl, r1, rfl, h⟩ := hr
      refine ⟨r1, rfl, ?_⟩
      have hx1 := Xt.trans hx hy1
      have ee2 : A1 0 0 = A 0 0 := hy1.2 _ _ hS.1.1 (((n0_0 hS1)).trans ((n0_0 hS)).symm)
      try rw [← ee2]
      have ee3 : A1 0 28 = A 0 28 := hy1.2 _ _ hS.1.1 (((n0_28 hS1)).trans ((n0_28 hS)).symm)
      try rw [← ee3]
      refine ⟨hS1.o (s0_0 hS1), ?_⟩
      refine wpM.mono (h G1 A1 ⟨L1, P1, rfl, hS1⟩) (fun rr4 G4 hr => ?_)
      obtain ⟨A4, W4, w4, ⟨L4, P4, rfl, hS4⟩, hy4, rfl, rfl, h⟩ := hr
      refine ⟨rfl, ?_⟩
      have hx4 := Xt.trans hx1 hy4
      have ee5 : A4 0 28 = A1 0 28 := hy4.2 _ _ hS1.1.1 (((n0_28 hS4)).trans ((n0_28 hS1)).symm)
      try rw [← ee5]
      refine ⟨hS4.o (s0_28 hS4), ?_⟩
      rw [l0_28_0 hS4]
      refine ⟨hS4.o (s0_0 hS4), ?_⟩
      refine wpM.mono (h G4 A4 ⟨L4, P4, rfl, hS4⟩) (fun rr6 G6 hr => ?_)
      obtain ⟨A6, W6, w6, ⟨L6, P6, rfl, hS6⟩, hy6, rfl, r6, rfl, h⟩ := hr
      refine ⟨r6, rfl, ?_⟩
      have hx6 := Xt.trans hx4 hy6
      have ee7 : A6 0 28 = A4 0 28 := hy6.2 _ _ hS4.1.1 (((n0_28 hS6)).trans ((n0_28 hS4)).symm)
      try rw [← ee7]
      exact qx_i hS6 hx6 h
    · have h := h.2 hc
      exact qx_i hS hx h
theorem w_X11_cut_0 {E : EE} {d : Nat} {V : VH} {K : Int32 → VH → Prop} {x1 : Int32}  (h0 : 0 < d) (h : (x1 < 0 → K (-1) V) ∧ (¬ (x1 < 0) → (x1 ≤ (vI V 0 0 1) → vMV E (d - 1) M_X0_keep [sl 0 0, wi x1] V (fun V1 => K (vI V 0 0 1) V1)) ∧ (¬ (x1 ≤ (vI V 0 0 1)) → K (-1) V))) : vMI E d M_X11_cut [sl 0 28, wi x1] V K := by
  intro G A hR
  obtain ⟨L, P, rfl, hS⟩ := hR
  have hx := Xt.refl (V := pl G A L P) (A := A)
  show wpM E d M_X11_cut [vr (A 0 28), vi x1] G _
  refine wpM_of mk_X11_cut (Nat.le_of_ble_eq_true rfl) ?_
  refine v_X11_cut_0 h0 ?_
  refine ⟨fun hc => ?_, fun hc => ?_⟩
  · have h := h.1 hc
    exact qx_i hS hx h
  · have h := h.2 hc
    refine ⟨hS.o (s0_28 hS), ?_⟩
    rw [l0_28_0 hS]
    refine ⟨hS.o (s0_0 hS), ?_⟩
    refine ⟨fun hc => ?_, fun hc => ?_⟩
    · have h := h.1 hc
      refine wpM.mono (h G A ⟨L, P, rfl, hS⟩) (fun rr1 G1 hr => ?_)
      obtain ⟨A1, W1, w1, ⟨L1, P1, rfl, hS1⟩, hy1, rfl, rfl, h⟩ := hr
      refine ⟨rfl, ?_⟩
      have hx1 := Xt.trans hx hy1
      have ee2 : A1 0 28 = A 0 28 := hy1.2 _ _ hS.1.1 (((n0_28 hS1)).trans ((n0_28 hS)).symm)
      try rw [← ee2]
      exact qx_i hS1 hx1 h
    · have h := h.2 hc
      exact qx_i hS hx h
theorem w_X11_type_0 {E : EE} {d : Nat} {V : VH} {K : Int32 → VH → Prop} {x1 : Int64} {x3 : Int32}  (h0 : 0 < d) (h : (x3 < 1 → K (-1) V) ∧ (¬ (x3 < 1) → (x3 ≤ 8 → (((vI V 0 0 1) + x3) ≤ 20000 → vMV E (d - 1) M_X0_addNumber [sl 0 0, wj x1, wi x3] V (fun V1 => K (vI V1 0 0 1) V1)) ∧ (¬ (((vI V 0 0 1) + x3) ≤ 20000) → K (-100000) V)) ∧ (¬ (x3 ≤ 8) → K (-1) V))) : vMI E d M_X11_type [sl 0 28, wj x1, wi x3] V K := by
  intro G A hR
  obtain ⟨L, P, rfl, hS⟩ := hR
  have hx := Xt.refl (V := pl G A L P) (A := A)
  show wpM E d M_X11_type [vr (A 0 28), vj x1, vi x3] G _
  refine wpM_of mk_X11_type (Nat.le_of_ble_eq_true rfl) ?_
  refine v_X11_type_0 h0 ?_
  refine ⟨fun hc => ?_, fun hc => ?_⟩
  · have h := h.1 hc
    exact qx_i hS hx h
  · have h := h.2 hc
    refine ⟨fun hc => ?_, fun hc => ?_⟩
    · have h := h.1 hc
      refine ⟨hS.o (s0_28 hS), ?_⟩
      rw [l0_28_0 hS]
      refine ⟨hS.o (s0_0 hS), ?_⟩
      refine ⟨fun hc => ?_, fun hc => ?_⟩
      · have h := h.1 hc
        refine wpM.mono (h G A ⟨L, P, rfl, hS⟩) (fun rr1 G1 hr => ?_)
        obtain ⟨A1, W1, w1, ⟨L1, P1, rfl, hS1⟩, hy1, rfl, rfl, h⟩ := hr
        refine ⟨rfl, ?_⟩
        have hx1 := Xt.trans hx hy1
        have ee2 : A1 0 28 = A 0 28 := hy1.2 _ _ hS.1.1 (((n0_28 hS1)).trans ((n0_28 hS)).symm)
        try rw [← ee2]
        refine ⟨hS1.o (s0_28 hS1), ?_⟩
        rw [l0_28_0 hS1]
        refine ⟨hS1.o (s0_0 hS1), ?_⟩
        exact qx_i hS1 hx1 h
      · have h := h.2 hc
        exact qx_i hS hx h
    · have h := h.2 hc
      exact qx_i hS hx h
theorem w_X12_bring_0 {E : EE} {d : Nat} {V : VH} {K : Int32 → VH → Prop}   (h0 : 0 < d) (h : (10 ≤ (vI V 6 0 1) → ∀ V1 : VH, V1 = wrI V 6 0 93 0 → vMJ E (d - 1) M_X12_numberAt [sl 6 0, wi 0, wi 2] V1 (fun r2 V2 => vwp E d M_X12_bring 37 [some (sl 6 0), some (wi (Int64.toInt32 r2)), some (wi ((vI V2 6 0 1) - 8)), some (wj 0), none, some (wi 0), none, none] [] V2 (zi K))) ∧ (¬ (10 ≤ (vI V 6 0 1)) → K (-1) V)) : vMI E d M_X12_bring [sl 6 0] V K := by
  intro G A hR
  obtain ⟨L, P, rfl, hS⟩ := hR
  have hx := Xt.refl (V := pl G A L P) (A := A)
  show wpM E d M_X12_bring [vr (A 6 0)] G _
  refine wpM_of mk_X12_bring (Nat.le_of_ble_eq_true rfl) ?_
  refine v_X12_bring_0 h0 ?_
  refine ⟨hS.o (s6_0 hS), ?_⟩
  refine ⟨fun hc => ?_, fun hc => ?_⟩
  · have h := h.1 hc
    have hS1 : Sh E (sI G (A 6 0) 93 0) A L P := Sh_sI (rfl : sI G (A 6 0) 93 0 = sI G (A 6 0) 93 0) hS (s6_0 hS) (okT_2 rfl (Or.inl rfl))
    have h := h (pl (sI G (A 6 0) 93 0) A L P) (pl_sI (rfl : sI G (A 6 0) 93 0 = sI G (A 6 0) 93 0) hS (s6_0 hS))
    have hx1 : Xt (pl G A L P) A (pl (sI G (A 6 0) 93 0) A L P) A := Xt_sI (rfl : sI G (A 6 0) 93 0 = sI G (A 6 0) 93 0) hx
    refine wpM.mono (h (sI G (A 6 0) 93 0) A ⟨L, P, rfl, hS1⟩) (fun rr2 G2 hr => ?_)
    obtain ⟨A2, W2, w2, ⟨L2, P2, rfl, hS2⟩, hy2, rfl, r2, rfl, h⟩ := hr
    refine ⟨r2, rfl, ?_⟩
    have hx2 := Xt.trans hx1 hy2
    have ee3 : A2 6 0 = A 6 0 := hy2.2 _ _ hS1.1.2.1 (((n6_0 hS2)).trans ((n6_0 hS1)).symm)
    try rw [← ee3]
    refine ⟨hS2.o (s6_0 hS2), ?_⟩
    exact wp.mono (h G2 A2 ⟨L2, P2, rfl, hS2⟩) (fun r G' q => qx_trans hx2 q)
  · have h := h.2 hc
    exact qx_i hS hx h
theorem w_X12_mixed_0 {E : EE} {d : Nat} {V : VH} {K : Int64 → VH → Prop} {x0 : Int64} {x2 : Int32}  (h : K ((((x0 ^^^ (Int32.toInt64 (x2 &&& 255))) <<< (Int32.toInt64 53 &&& 63)) ||| (lushr (x0 ^^^ (Int32.toInt64 (x2 &&& 255))) 11)) * (-4417276706812531889)) V) : vMJ E d M_X12_mixed [wj x0, wi x2] V K := by
  intro G A hR
  obtain ⟨L, P, rfl, hS⟩ := hR
  have hx := Xt.refl (V := pl G A L P) (A := A)
  show wpM E d M_X12_mixed [vj x0, vi x2] G _
  refine wpM_of mk_X12_mixed (Nat.le_of_ble_eq_true rfl) ?_
  refine v_X12_mixed_0 ?_
  exact qx_j hS hx h
theorem w_X12_readProblem_0 {E : EE} {d : Nat} {V : VH} {K : Int32 → VH → Prop} {x1 : Int32}  (h : ∀ V1 : VH, V1 = wrI V 6 0 47 x1 → ∀ V2 : VH, V2 = wrI V1 6 0 37 0 → ∀ V3 : VH, V3 = wrI V2 6 0 38 (20000 * x1) → vp_in x1 5 ∧ (∀ V5 : VH, V5 = wrI V3 6 0 39 (vI V3 6 4 (Int32.toNatClampNeg x1)) → ∀ V6 : VH, V6 = wrI V5 6 0 40 0 → ∀ V7 : VH, V7 = wrI V6 6 0 45 0 → vp_in x1 5 ∧ (∀ V9 : VH, V9 = wrI V7 6 9 (Int32.toNatClampNeg x1) 0 → vp_in x1 5 ∧ (∀ V11 : VH, V11 = wrI V9 6 11 (Int32.toNatClampNeg x1) 0 → vwp E d M_X12_readProblem 55 [some (sl 6 0), some (wi x1), some (wi 0), none] [] V11 (zi K))))) : vMI E d M_X12_readProblem [sl 6 0, wi x1] V K := by
  intro G A hR
  obtain ⟨L, P, rfl, hS⟩ := hR
  have hx := Xt.refl (V := pl G A L P) (A := A)
  show wpM E d M_X12_readProblem [vr (A 6 0), vi x1] G _
  refine wpM_of mk_X12_readProblem (Nat.le_of_ble_eq_true rfl) ?_
  refine v_X12_readProblem_0 ?_
  refine ⟨hS.o (s6_0 hS), ?_⟩
  intro G1 eG1
  have hS1 : Sh E G1 A L P := Sh_sI eG1 hS (s6_0 hS) (okT_0 rfl)
  have h := h (pl G1 A L P) (pl_sI eG1 hS (s6_0 hS))
  have hx1 : Xt (pl G A L P) A (pl G1 A L P) A := Xt_sI eG1 hx
  intro G2 eG2
  have hS2 : Sh E G2 A L P := Sh_sI eG2 hS1 (s6_0 hS1) (okT_2 rfl (Or.inl rfl))
  have h := h (pl G2 A L P) (pl_sI eG2 hS1 (s6_0 hS1))
  have hx2 : Xt (pl G A L P) A (pl G2 A L P) A := Xt_sI eG2 hx1
  intro G3 eG3
  have hS3 : Sh E G3 A L P := Sh_sI eG3 hS2 (s6_0 hS2) (okT_0 rfl)
  have h := h (pl G3 A L P) (pl_sI eG3 hS2 (s6_0 hS2))
  have hx3 : Xt (pl G A L P) A (pl G3 A L P) A := Xt_sI eG3 hx2
  rw [l6_0_7 hS3]
  refine ⟨hS3.o (s6_4 hS3), ?_⟩
  obtain ⟨hi4, h⟩ := h
  refine ⟨by first | (rw [(n6_4 hS3)]; exact hi4) | exact (congrArg (vp_in _) (n6_4 hS3)).mpr hi4 | exact hi4, ?_⟩
  intro G5 eG5
  have hS5 : Sh E G5 A L P := Sh_sI eG5 hS3 (s6_0 hS3) (okT_0 rfl)
  have h := h (pl G5 A L P) (pl_sI eG5 hS3 (s6_0 hS3))
  have hx5 : Xt (pl G A L P) A (pl G5 A L P) A := Xt_sI eG5 hx3
  intro G6 eG6
  have hS6 : Sh E G6 A L P := Sh_sI eG6 hS5 (s6_0 hS5) (okT_0 rfl)
  have h := h (pl G6 A L P) (pl_sI eG6 hS5 (s6_0 hS5))
  have hx6 : Xt (pl G A L P) A (pl G6 A L P) A := Xt_sI eG6 hx5
  intro G7 eG7
  have hS7 : Sh E G7 A L P := Sh_sI eG7 hS6 (s6_0 hS6) (okT_0 rfl)
  have h := h (pl G7 A L P) (pl_sI eG7 hS6 (s6_0 hS6))
  have hx7 : Xt (pl G A L P) A (pl G7 A L P) A := Xt_sI eG7 hx6
  rw [l6_0_12 hS7]
  refine ⟨hS7.o (s6_9 hS7), ?_⟩
  obtain ⟨hi8, h⟩ := h
  refine ⟨by first | (rw [(n6_9 hS7)]; exact hi8) | exact (congrArg (vp_in _) (n6_9 hS7)).mpr hi8 | exact hi8, ?_⟩
  intro G9 eG9
  have hS9 : Sh E G9 A L P := Sh_sI eG9 hS7 (s6_9 hS7) (okT_0 rfl)
  have h := h (pl G9 A L P) (pl_sI eG9 hS7 (s6_9 hS7))
  have hx9 : Xt (pl G A L P) A (pl G9 A L P) A := Xt_sI eG9 hx7
  rw [l6_0_14 hS9]
  refine ⟨hS9.o (s6_11 hS9), ?_⟩
  obtain ⟨hi10, h⟩ := h
  refine ⟨by first | (rw [(n6_11 hS9)]; exact hi10) | exact (congrArg (vp_in _) (n6_11 hS9)).mpr hi10 | exact hi10, ?_⟩
  intro G11 eG11
  have hS11 : Sh E G11 A L P := Sh_sI eG11 hS9 (s6_11 hS9) (okT_0 rfl)
  have h := h (pl G11 A L P) (pl_sI eG11 hS9 (s6_11 hS9))
  have hx11 : Xt (pl G A L P) A (pl G11 A L P) A := Xt_sI eG11 hx9
  exact wp.mono (h G11 A ⟨L, P, rfl, hS11⟩) (fun r G' q => qx_trans hx11 q)
theorem w_X12_readProblem_55 {E : EE} {d : Nat} {V : VH} {K : Int32 → VH → Prop} {x1 : Int32} {x2 : Int32}  (h0 : 0 < d) (h : (4 ≤ x2 → vp_in x1 5 ∧ (∀ V2 : VH, V2 = wrI V 6 22 (Int32.toNatClampNeg x1) 1 → vp_in x1 5 ∧ (∀ V4 : VH, V4 = wrI V2 6 23 (Int32.toNatClampNeg x1) 0 → vp_in x1 5 ∧ (∀ V6 : VH, V6 = wrI V4 6 29 (Int32.toNatClampNeg x1) 0 → vMV E (d - 1) M_X12_next [sl 6 0] V6 (fun V7 => vMV E (d - 1) M_X12_statement [sl 6 0] V7 (fun V9 => vwp E d M_X12_readProblem 106 [some (sl 6 0), some (wi x1), some (wi x2), none] [] V9 (zi K))))))) ∧ (¬ (4 ≤ x2) → vp_in ((4 * x1) + x2) 20 ∧ (∀ V12 : VH, V12 = wrI V 6 14 (Int32.toNatClampNeg ((4 * x1) + x2)) 0 → vwp E d M_X12_readProblem 55 [some (sl 6 0), some (wi x1), some (wi (x2 + 1)), none] [] V12 (zi K)))) : vwp E d M_X12_readProblem 55 [some (sl 6 0), some (wi x1), some (wi x2), none] [] V (zi K) := by
  intro G A hR
  obtain ⟨L, P, rfl, hS⟩ := hR
  have hx := Xt.refl (V := pl G A L P) (A := A)
  show wp E d M_X12_readProblem 55 [some (vr (A 6 0)), some (vi x1), some (vi x2), none] [] G _
  refine v_X12_readProblem_55 h0 ?_
  refine ⟨fun hc => ?_, fun hc => ?_⟩
  · have h := h.1 hc
    refine ⟨hS.o (s6_0 hS), ?_⟩
    rw [l6_0_25 hS]
    refine ⟨hS.o (s6_22 hS), ?_⟩
    obtain ⟨hi1, h⟩ := h
    refine ⟨by first | (rw [(n6_22 hS)]; exact hi1) | exact (congrArg (vp_in _) (n6_22 hS)).mpr hi1 | exact hi1, ?_⟩
    intro G2 eG2
    have hS2 : Sh E G2 A L P := Sh_sI eG2 hS (s6_22 hS) (okT_0 rfl)
    have h := h (pl G2 A L P) (pl_sI eG2 hS (s6_22 hS))
    have hx2 : Xt (pl G A L P) A (pl G2 A L P) A := Xt_sI eG2 hx
    rw [l6_0_26 hS2]
    refine ⟨hS2.o (s6_23 hS2), ?_⟩
    obtain ⟨hi3, h⟩ := h
    refine ⟨by first | (rw [(n6_23 hS2)]; exact hi3) | exact (congrArg (vp_in _) (n6_23 hS2)).mpr hi3 | exact hi3, ?_⟩
    intro G4 eG4
    have hS4 : Sh E G4 A L P := Sh_sI eG4 hS2 (s6_23 hS2) (okT_0 rfl)
    have h := h (pl G4 A L P) (pl_sI eG4 hS2 (s6_23 hS2))
    have hx4 : Xt (pl G A L P) A (pl G4 A L P) A := Xt_sI eG4 hx2
    rw [l6_0_32 hS4]
    refine ⟨hS4.o (s6_29 hS4), ?_⟩
    obtain ⟨hi5, h⟩ := h
    refine ⟨by first | (rw [(n6_29 hS4)]; exact hi5) | exact (congrArg (vp_in _) (n6_29 hS4)).mpr hi5 | exact hi5, ?_⟩
    intro G6 eG6
    have hS6 : Sh E G6 A L P := Sh_sI eG6 hS4 (s6_29 hS4) (okT_0 rfl)
    have h := h (pl G6 A L P) (pl_sI eG6 hS4 (s6_29 hS4))
    have hx6 : Xt (pl G A L P) A (pl G6 A L P) A := Xt_sI eG6 hx4
    refine wpM.mono (h G6 A ⟨L, P, rfl, hS6⟩) (fun rr7 G7 hr => ?_)
    obtain ⟨A7, W7, w7, ⟨L7, P7, rfl, hS7⟩, hy7, rfl, rfl, h⟩ := hr
    refine ⟨rfl, ?_⟩
    have hx7 := Xt.trans hx6 hy7
    have ee8 : A7 6 0 = A 6 0 := hy7.2 _ _ hS6.1.2.1 (((n6_0 hS7)).trans ((n6_0 hS6)).symm)
    try rw [← ee8]
    refine ⟨hS7.o (s6_0 hS7), ?_⟩
    refine wpM.mono (h G7 A7 ⟨L7, P7, rfl, hS7⟩) (fun rr9 G9 hr => ?_)
    obtain ⟨A9, W9, w9, ⟨L9, P9, rfl, hS9⟩, hy9, rfl, rfl, h⟩ := hr
    refine ⟨rfl, ?_⟩
    have hx9 := Xt.trans hx7 hy9
    have ee10 : A9 6 0 = A7 6 0 := hy9.2 _ _ hS7.1.2.1 (((n6_0 hS9)).trans ((n6_0 hS7)).symm)
    try rw [← ee10]
    exact wp.mono (h G9 A9 ⟨L9, P9, rfl, hS9⟩) (fun r G' q => qx_trans hx9 q)
  · have h := h.2 hc
    refine ⟨hS.o (s6_0 hS), ?_⟩
    rw [l6_0_17 hS]
    refine ⟨hS.o (s6_14 hS), ?_⟩
    obtain ⟨hi11, h⟩ := h
    refine ⟨by first | (rw [(n6_14 hS)]; exact hi11) | exact (congrArg (vp_in _) (n6_14 hS)).mpr hi11 | exact hi11, ?_⟩
    intro G12 eG12
    have hS12 : Sh E G12 A L P := Sh_sI eG12 hS (s6_14 hS) (okT_0 rfl)
    have h := h (pl G12 A L P) (pl_sI eG12 hS (s6_14 hS))
    have hx12 : Xt (pl G A L P) A (pl G12 A L P) A := Xt_sI eG12 hx
    exact wp.mono (h G12 A ⟨L, P, rfl, hS12⟩) (fun r G' q => qx_trans hx12 q)
theorem w_X12_readProblem_106 {E : EE} {d : Nat} {V : VH} {K : Int32 → VH → Prop} {x1 : Int32} {x2 : Int32}  (h0 : 0 < d) (h : (¬ (vI V 6 0 45) = 0 → vwp E d M_X12_readProblem 127 [some (sl 6 0), some (wi x1), some (wi x2), none] [] V (zi K)) ∧ ((vI V 6 0 45) = 0 → ((vI V 6 0 41) = 0 → vwp E d M_X12_readProblem 127 [some (sl 6 0), some (wi x1), some (wi x2), none] [] V (zi K)) ∧ (¬ ((vI V 6 0 41) = 0) → vMV E (d - 1) M_X12_statement [sl 6 0] V (fun V1 => vwp E d M_X12_readProblem 106 [some (sl 6 0), some (wi x1), some (wi x2), none] [] V1 (zi K))))) : vwp E d M_X12_readProblem 106 [some (sl 6 0), some (wi x1), some (wi x2), none] [] V (zi K) := by
  intro G A hR
  obtain ⟨L, P, rfl, hS⟩ := hR
  have hx := Xt.refl (V := pl G A L P) (A := A)
  show wp E d M_X12_readProblem 106 [some (vr (A 6 0)), some (vi x1), some (vi x2), none] [] G _
  refine v_X12_readProblem_106 h0 ?_
  refine ⟨hS.o (s6_0 hS), ?_⟩
  refine ⟨fun hc => ?_, fun hc => ?_⟩
  · have h := h.1 hc
    exact wp.mono (h G A ⟨L, P, rfl, hS⟩) (fun r G' q => qx_trans hx q)
  · have h := h.2 hc
    refine ⟨fun hc => ?_, fun hc => ?_⟩
    · have h := h.1 hc
      exact wp.mono (h G A ⟨L, P, rfl, hS⟩) (fun r G' q => qx_trans hx q)
    · have h := h.2 hc
      refine wpM.mono (h G A ⟨L, P, rfl, hS⟩) (fun rr1 G1 hr => ?_)
      obtain ⟨A1, W1, w1, ⟨L1, P1, rfl, hS1⟩, hy1, rfl, rfl, h⟩ := hr
      refine ⟨rfl, ?_⟩
      have hx1 := Xt.trans hx hy1
      have ee2 : A1 6 0 = A 6 0 := hy1.2 _ _ hS.1.2.1 (((n6_0 hS1)).trans ((n6_0 hS)).symm)
      try rw [← ee2]
      exact wp.mono (h G1 A1 ⟨L1, P1, rfl, hS1⟩) (fun r G' q => qx_trans hx1 q)
theorem w_X12_readProblem_127 {E : EE} {d : Nat} {V : VH} {K : Int32 → VH → Prop} {x1 : Int32} {x2 : Int32}  (h : (¬ (vI V 6 0 45) = 0 → vwp E d M_X12_readProblem 179 [some (sl 6 0), some (wi x1), some (wi x2), none] [] V (zi K)) ∧ ((vI V 6 0 45) = 0 → vp_in ((4 * x1) + 1) 20 ∧ (((vI V 6 14 (Int32.toNatClampNeg ((4 * x1) + 1))) = 0 → vwp E d M_X12_readProblem 169 [some (sl 6 0), some (wi x1), some (wi x2), none] [] V (zi K)) ∧ (¬ ((vI V 6 14 (Int32.toNatClampNeg ((4 * x1) + 1))) = 0) → vp_in x1 5 ∧ (vp_in x1 5 ∧ ((((Int32.toInt64 (vI V 6 22 (Int32.toNatClampNeg x1))) * (Int32.toInt64 (vI V 6 9 (Int32.toNatClampNeg x1)))) ≤ 20000000 → vwp E d M_X12_readProblem 179 [some (sl 6 0), some (wi x1), some (wi x2), none] [] V (zi K)) ∧ (¬ (((Int32.toInt64 (vI V 6 22 (Int32.toNatClampNeg x1))) * (Int32.toInt64 (vI V 6 9 (Int32.toNatClampNeg x1)))) ≤ 20000000) → vwp E d M_X12_readProblem 169 [some (sl 6 0), some (wi x1), some (wi x2), none] [] V (zi K)))))))) : vwp E d M_X12_readProblem 127 [some (sl 6 0), some (wi x1), some (wi x2), none] [] V (zi K) := by
  intro G A hR
  obtain ⟨L, P, rfl, hS⟩ := hR
  have hx := Xt.refl (V := pl G A L P) (A := A)
  show wp E d M_X12_readProblem 127 [some (vr (A 6 0)), some (vi x1), some (vi x2), none] [] G _
  refine v_X12_readProblem_127 ?_
  refine ⟨hS.o (s6_0 hS), ?_⟩
  refine ⟨fun hc => ?_, fun hc => ?_⟩
  · have h := h.1 hc
    exact wp.mono (h G A ⟨L, P, rfl, hS⟩) (fun r G' q => qx_trans hx q)
  · have h := h.2 hc
    rw [l6_0_17 hS]
    refine ⟨hS.o (s6_14 hS), ?_⟩
    obtain ⟨hi1, h⟩ := h
    refine ⟨by first | (rw [(n6_14 hS)]; exact hi1) | exact (congrArg (vp_in _) (n6_14 hS)).mpr hi1 | exact hi1, ?_⟩
    refine ⟨fun hc => ?_, fun hc => ?_⟩
    · have h := h.1 hc
      exact wp.mono (h G A ⟨L, P, rfl, hS⟩) (fun r G' q => qx_trans hx q)
    · have h := h.2 hc
      rw [l6_0_25 hS]
      refine ⟨hS.o (s6_22 hS), ?_⟩
      obtain ⟨hi2, h⟩ := h
      refine ⟨by first | (rw [(n6_22 hS)]; exact hi2) | exact (congrArg (vp_in _) (n6_22 hS)).mpr hi2 | exact hi2, ?_⟩
      rw [l6_0_12 hS]
      refine ⟨hS.o (s6_9 hS), ?_⟩
      obtain ⟨hi3, h⟩ := h
      refine ⟨by first | (rw [(n6_9 hS)]; exact hi3) | exact (congrArg (vp_in _) (n6_9 hS)).mpr hi3 | exact hi3, ?_⟩
      refine ⟨fun hc => ?_, fun hc => ?_⟩
      · have h := h.1 hc
        exact wp.mono (h G A ⟨L, P, rfl, hS⟩) (fun r G' q => qx_trans hx q)
      · have h := h.2 hc
        exact wp.mono (h G A ⟨L, P, rfl, hS⟩) (fun r G' q => qx_trans hx q)
theorem w_X12_readProblem_179 {E : EE} {d : Nat} {V : VH} {K : Int32 → VH → Prop} {x1 : Int32} {x2 : Int32}  (h : vp_in ((4 * x1) + 1) 20 ∧ (vwp E d M_X12_readProblem 194 [some (sl 6 0), some (wi x1), some (wi 1), some (wi ((vI V 6 14 (Int32.toNatClampNeg ((4 * x1) + 1))) - 1))] [] V (zi K))) : vwp E d M_X12_readProblem 179 [some (sl 6 0), some (wi x1), some (wi x2), none] [] V (zi K) := by
  intro G A hR
  obtain ⟨L, P, rfl, hS⟩ := hR
  have hx := Xt.refl (V := pl G A L P) (A := A)
  show wp E d M_X12_readProblem 179 [some (vr (A 6 0)), some (vi x1), some (vi x2), none] [] G _
  refine v_X12_readProblem_179 ?_
  refine ⟨hS.o (s6_0 hS), ?_⟩
  rw [l6_0_17 hS]
  refine ⟨hS.o (s6_14 hS), ?_⟩
  obtain ⟨hi1, h⟩ := h
  refine ⟨by first | (rw [(n6_14 hS)]; exact hi1) | exact (congrArg (vp_in _) (n6_14 hS)).mpr hi1 | exact hi1, ?_⟩
  exact wp.mono (h G A ⟨L, P, rfl, hS⟩) (fun r G' q => qx_trans hx q)
theorem w_X12_readProblem_194 {E : EE} {d : Nat} {V : VH} {K : Int32 → VH → Prop} {x1 : Int32} {x2 : Int32} {x3 : Int32}  (h : (x3 < 0 → vp_in x1 5 ∧ (vp_in x1 5 ∧ (∀ V3 : VH, V3 = wrI V 6 33 (Int32.toNatClampNeg x1) ((vI V 6 33 (Int32.toNatClampNeg x1)) + 1) → (¬ (vI V3 6 0 45) = 0 → K 0 V3) ∧ ((vI V3 6 0 45) = 0 → K 1 V3)))) ∧ (¬ (x3 < 0) → vp_in ((12 * x1) + x3) 60 ∧ (∀ V5 : VH, V5 = wrI V 6 17 (Int32.toNatClampNeg ((12 * x1) + x3)) x2 → vp_in ((12 * x1) + x3) 60 ∧ (vwp E d M_X12_readProblem 194 [some (sl 6 0), some (wi x1), some (wi (x2 * (vI V5 6 16 (Int32.toNatClampNeg ((12 * x1) + x3))))), some (wi (x3 + (-1)))] [] V5 (zi K))))) : vwp E d M_X12_readProblem 194 [some (sl 6 0), some (wi x1), some (wi x2), some (wi x3)] [] V (zi K) := by
  intro G A hR
  obtain ⟨L, P, rfl, hS⟩ := hR
  have hx := Xt.refl (V := pl G A L P) (A := A)
  show wp E d M_X12_readProblem 194 [some (vr (A 6 0)), some (vi x1), some (vi x2), some (vi x3)] [] G _
  refine v_X12_readProblem_194 ?_
  refine ⟨fun hc => ?_, fun hc => ?_⟩
  · have h := h.1 hc
    refine ⟨hS.o (s6_0 hS), ?_⟩
    rw [l6_0_36 hS]
    refine ⟨hS.o (s6_33 hS), ?_⟩
    obtain ⟨hi1, h⟩ := h
    refine ⟨by first | (rw [(n6_33 hS)]; exact hi1) | exact (congrArg (vp_in _) (n6_33 hS)).mpr hi1 | exact hi1, ?_⟩
    obtain ⟨hi2, h⟩ := h
    refine ⟨by first | (rw [(n6_33 hS)]; exact hi2) | exact (congrArg (vp_in _) (n6_33 hS)).mpr hi2 | exact hi2, ?_⟩
    have hS3 : Sh E (sI G (A 6 33) (Int32.toNatClampNeg x1) ((gI G (A 6 33) (Int32.toNatClampNeg x1)) + 1)) A L P := Sh_sI (rfl : sI G (A 6 33) (Int32.toNatClampNeg x1) ((gI G (A 6 33) (Int32.toNatClampNeg x1)) + 1) = sI G (A 6 33) (Int32.toNatClampNeg x1) ((gI G (A 6 33) (Int32.toNatClampNeg x1)) + 1)) hS (s6_33 hS) (okT_0 rfl)
    have h := h (pl (sI G (A 6 33) (Int32.toNatClampNeg x1) ((gI G (A 6 33) (Int32.toNatClampNeg x1)) + 1)) A L P) (pl_sI (rfl : sI G (A 6 33) (Int32.toNatClampNeg x1) ((gI G (A 6 33) (Int32.toNatClampNeg x1)) + 1) = sI G (A 6 33) (Int32.toNatClampNeg x1) ((gI G (A 6 33) (Int32.toNatClampNeg x1)) + 1)) hS (s6_33 hS))
    have hx3 : Xt (pl G A L P) A (pl (sI G (A 6 33) (Int32.toNatClampNeg x1) ((gI G (A 6 33) (Int32.toNatClampNeg x1)) + 1)) A L P) A := Xt_sI (rfl : sI G (A 6 33) (Int32.toNatClampNeg x1) ((gI G (A 6 33) (Int32.toNatClampNeg x1)) + 1) = sI G (A 6 33) (Int32.toNatClampNeg x1) ((gI G (A 6 33) (Int32.toNatClampNeg x1)) + 1)) hx
    refine ⟨fun hc => ?_, fun hc => ?_⟩
    · have h := h.1 hc
      exact qx_i hS3 hx3 h
    · have h := h.2 hc
      exact qx_i hS3 hx3 h
  · have h := h.2 hc
    refine ⟨hS.o (s6_0 hS), ?_⟩
    rw [l6_0_20 hS]
    refine ⟨hS.o (s6_17 hS), ?_⟩
    obtain ⟨hi4, h⟩ := h
    refine ⟨by first | (rw [(n6_17 hS)]; exact hi4) | exact (congrArg (vp_in _) (n6_17 hS)).mpr hi4 | exact hi4, ?_⟩
    have hS5 : Sh E (sI G (A 6 17) (Int32.toNatClampNeg ((12 * x1) + x3)) x2) A L P := Sh_sI (rfl : sI G (A 6 17) (Int32.toNatClampNeg ((12 * x1) + x3)) x2 = sI G (A 6 17) (Int32.toNatClampNeg ((12 * x1) + x3)) x2) hS (s6_17 hS) (okT_0 rfl)
    have h := h (pl (sI G (A 6 17) (Int32.toNatClampNeg ((12 * x1) + x3)) x2) A L P) (pl_sI (rfl : sI G (A 6 17) (Int32.toNatClampNeg ((12 * x1) + x3)) x2 = sI G (A 6 17) (Int32.toNatClampNeg ((12 * x1) + x3)) x2) hS (s6_17 hS))
    have hx5 : Xt (pl G A L P) A (pl (sI G (A 6 17) (Int32.toNatClampNeg ((12 * x1) + x3)) x2) A L P) A := Xt_sI (rfl : sI G (A 6 17) (Int32.toNatClampNeg ((12 * x1) + x3)) x2 = sI G (A 6 17) (Int32.toNatClampNeg ((12 * x1) + x3)) x2) hx
    rw [l6_0_19 hS]
    refine ⟨hS5.o (s6_16 hS5), ?_⟩
    obtain ⟨hi6, h⟩ := h
    refine ⟨by first | (rw [(n6_16 hS5)]; exact hi6) | exact (congrArg (vp_in _) (n6_16 hS5)).mpr hi6 | exact hi6, ?_⟩
    exact wp.mono (h (sI G (A 6 17) (Int32.toNatClampNeg ((12 * x1) + x3)) x2) A ⟨L, P, rfl, hS5⟩) (fun r G' q => qx_trans hx5 q)
theorem w_X12_next_0 {E : EE} {d : Nat} {V : VH} {K : VH → Prop}   (h0 : 0 < d) (h : vMV E (d - 1) M_X12_passBlanks [sl 6 0] V (fun V1 => ∀ V3 : VH, V3 = wrI V1 6 0 43 (vI V1 6 0 40) → ∀ V4 : VH, V4 = wrI V3 6 0 44 (vI V3 6 0 40) → ((vI V4 6 0 40) < (vI V4 6 0 39) → vMI E (d - 1) M_X12_look [sl 6 0, wi (vI V4 6 0 40)] V4 (fun r5 V5 => vMI E (d - 1) M_X12_isLetter [wi r5] V5 (fun r7 V7 => (r7 = 0 → vMI E (d - 1) M_X12_isFigure [wi r5] V7 (fun r9 V9 => (r9 = 0 → ((vI V9 6 0 39) ≤ ((vI V9 6 0 44) + 1) → vwp E d M_X12_next 279 [some (sl 6 0), some (wi r5), none] [wi 0] V9 (zv K)) ∧ (¬ ((vI V9 6 0 39) ≤ ((vI V9 6 0 44) + 1)) → vMI E (d - 1) M_X12_look [sl 6 0, wi ((vI V9 6 0 44) + 1)] V9 (fun r11 V11 => vwp E d M_X12_next 279 [some (sl 6 0), some (wi r5), none] [wi r11] V11 (zv K)))) ∧ (¬ (r9 = 0) → ∀ V13 : VH, V13 = wrI V9 6 0 42 0 → vwp E d M_X12_next 146 [some (sl 6 0), some (wi r5), none] [] V13 (zv K)))) ∧ (¬ (r7 = 0) → vwp E d M_X12_next 53 [some (sl 6 0), some (wi r5), none] [] V7 (zv K))))) ∧ (¬ ((vI V4 6 0 40) < (vI V4 6 0 39)) → ∀ V14 : VH, V14 = wrI V4 6 0 41 0 → K V14))) : vMV E d M_X12_next [sl 6 0] V K := by
  intro G A hR
  obtain ⟨L, P, rfl, hS⟩ := hR
  have hx := Xt.refl (V := pl G A L P) (A := A)
  show wpM E d M_X12_next [vr (A 6 0)] G _
  refine wpM_of mk_X12_next (Nat.le_of_ble_eq_true rfl) ?_
  refine v_X12_next_0 h0 ?_
  refine ⟨hS.o (s6_0 hS), ?_⟩
  refine wpM.mono (h G A ⟨L, P, rfl, hS⟩) (fun rr1 G1 hr => ?_)
  obtain ⟨A1, W1, w1, ⟨L1, P1, rfl, hS1⟩, hy1, rfl, rfl, h⟩ := hr
  refine ⟨rfl, ?_⟩
  have hx1 := Xt.trans hx hy1
  have ee2 : A1 6 0 = A 6 0 := hy1.2 _ _ hS.1.2.1 (((n6_0 hS1)).trans ((n6_0 hS)).symm)
  try rw [← ee2]
  refine ⟨hS1.o (s6_0 hS1), ?_⟩
  intro G3 eG3
  have hS3 : Sh E G3 A1 L1 P1 := Sh_sI eG3 hS1 (s6_0 hS1) (okT_0 rfl)
  have h := h (pl G3 A1 L1 P1) (pl_sI eG3 hS1 (s6_0 hS1))
  have hx3 : Xt (pl G A L P) A (pl G3 A1 L1 P1) A1 := Xt_sI eG3 hx1
  intro G4 eG4
  have hS4 : Sh E G4 A1 L1 P1 := Sh_sI eG4 hS3 (s6_0 hS3) (okT_0 rfl)
  have h := h (pl G4 A1 L1 P1) (pl_sI eG4 hS3 (s6_0 hS3))
  have hx4 : Xt (pl G A L P) A (pl G4 A1 L1 P1) A1 := Xt_sI eG4 hx3
  refine ⟨fun hc => ?_, fun hc => ?_⟩
  · have h := h.1 hc
    refine wpM.mono (h G4 A1 ⟨L1, P1, rfl, hS4⟩) (fun rr5 G5 hr => ?_)
    obtain ⟨A5, W5, w5, ⟨L5, P5, rfl, hS5⟩, hy5, rfl, r5, rfl, h⟩ := hr
    refine ⟨r5, rfl, ?_⟩
    have hx5 := Xt.trans hx4 hy5
    have ee6 : A5 6 0 = A1 6 0 := hy5.2 _ _ hS4.1.2.1 (((n6_0 hS5)).trans ((n6_0 hS4)).symm)
    try rw [← ee6]
    refine wpM.mono (h G5 A5 ⟨L5, P5, rfl, hS5⟩) (fun rr7 G7 hr => ?_)
    obtain ⟨A7, W7, w7, ⟨L7, P7, rfl, hS7⟩, hy7, rfl, r7, rfl, h⟩ := hr
    refine ⟨r7, rfl, ?_⟩
    have hx7 := Xt.trans hx5 hy7
    have ee8 : A7 6 0 = A5 6 0 := hy7.2 _ _ hS5.1.2.1 (((n6_0 hS7)).trans ((n6_0 hS5)).symm)
    try rw [← ee8]
    refine ⟨fun hc => ?_, fun hc => ?_⟩
    · have h := h.1 hc
      refine wpM.mono (h G7 A7 ⟨L7, P7, rfl, hS7⟩) (fun rr9 G9 hr => ?_)
      obtain ⟨A9, W9, w9, ⟨L9, P9, rfl, hS9⟩, hy9, rfl, r9, rfl, h⟩ := hr
      refine ⟨r9, rfl, ?_⟩
      have hx9 := Xt.trans hx7 hy9
      have ee10 : A9 6 0 = A7 6 0 := hy9.2 _ _ hS7.1.2.1 (((n6_0 hS9)).trans ((n6_0 hS7)).symm)
      try rw [← ee10]
      refine ⟨fun hc => ?_, fun hc => ?_⟩
      · have h := h.1 hc
        refine ⟨hS9.o (s6_0 hS9), ?_⟩
        refine ⟨fun hc => ?_, fun hc => ?_⟩
        · have h := h.1 hc
          exact wp.mono (h G9 A9 ⟨L9, P9, rfl, hS9⟩) (fun r G' q => qx_trans hx9 q)
        · have h := h.2 hc
          refine wpM.mono (h G9 A9 ⟨L9, P9, rfl, hS9⟩) (fun rr11 G11 hr => ?_)
          obtain ⟨A11, W11, w11, ⟨L11, P11, rfl, hS11⟩, hy11, rfl, r11, rfl, h⟩ := hr
          refine ⟨r11, rfl, ?_⟩
          have hx11 := Xt.trans hx9 hy11
          have ee12 : A11 6 0 = A9 6 0 := hy11.2 _ _ hS9.1.2.1 (((n6_0 hS11)).trans ((n6_0 hS9)).symm)
          try rw [← ee12]
          exact wp.mono (h G11 A11 ⟨L11, P11, rfl, hS11⟩) (fun r G' q => qx_trans hx11 q)
      · have h := h.2 hc
        refine ⟨hS9.o (s6_0 hS9), ?_⟩
        intro G13 eG13
        have hS13 : Sh E G13 A9 L9 P9 := Sh_sI eG13 hS9 (s6_0 hS9) (okT_0 rfl)
        have h := h (pl G13 A9 L9 P9) (pl_sI eG13 hS9 (s6_0 hS9))
        have hx13 : Xt (pl G A L P) A (pl G13 A9 L9 P9) A9 := Xt_sI eG13 hx9
        exact wp.mono (h G13 A9 ⟨L9, P9, rfl, hS13⟩) (fun r G' q => qx_trans hx13 q)
    · have h := h.2 hc
      exact wp.mono (h G7 A7 ⟨L7, P7, rfl, hS7⟩) (fun r G' q => qx_trans hx7 q)
  · have h := h.2 hc
    intro G14 eG14
    have hS14 : Sh E G14 A1 L1 P1 := Sh_sI eG14 hS4 (s6_0 hS4) (okT_0 rfl)
    have h := h (pl G14 A1 L1 P1) (pl_sI eG14 hS4 (s6_0 hS4))
    have hx14 : Xt (pl G A L P) A (pl G14 A1 L1 P1) A1 := Xt_sI eG14 hx4
    exact qx_v hS14 hx14 h
theorem w_X12_passBlanks_0 {E : EE} {d : Nat} {V : VH} {K : VH → Prop}   (h : vwp E d M_X12_passBlanks 2 [some (sl 6 0), some (wi 1), none] [] V (zv K)) : vMV E d M_X12_passBlanks [sl 6 0] V K := by
  intro G A hR
  obtain ⟨L, P, rfl, hS⟩ := hR
  have hx := Xt.refl (V := pl G A L P) (A := A)
  show wpM E d M_X12_passBlanks [vr (A 6 0)] G _
  refine wpM_of mk_X12_passBlanks (Nat.le_of_ble_eq_true rfl) ?_
  refine v_X12_passBlanks_0 ?_
  exact wp.mono (h G A ⟨L, P, rfl, hS⟩) (fun r G' q => qx_trans hx q)
theorem w_X12_passBlanks_2 {E : EE} {d : Nat} {V : VH} {K : VH → Prop} {x1 : Int32}  (h0 : 0 < d) (h : (x1 = 0 → K V) ∧ (¬ (x1 = 0) → ((vI V 6 0 39) ≤ (vI V 6 0 40) → K V) ∧ (¬ ((vI V 6 0 39) ≤ (vI V 6 0 40)) → vMI E (d - 1) M_X12_look [sl 6 0, wi (vI V 6 0 40)] V (fun r1 V1 => (r1 = 9 → vwp E d M_X12_passBlanks 50 [some (sl 6 0), some (wi x1), some (wi r1)] [] V1 (zv K)) ∧ (¬ (r1 = 9) → (r1 = 10 → vwp E d M_X12_passBlanks 50 [some (sl 6 0), some (wi x1), some (wi r1)] [] V1 (zv K)) ∧ (¬ (r1 = 10) → (r1 = 13 → vwp E d M_X12_passBlanks 50 [some (sl 6 0), some (wi x1), some (wi r1)] [] V1 (zv K)) ∧ (¬ (r1 = 13) → (¬ r1 = 32 → (¬ r1 = 37 → vwp E d M_X12_passBlanks 108 [some (sl 6 0), some (wi 0), some (wi r1)] [] V1 (zv K)) ∧ (r1 = 37 → vwp E d M_X12_passBlanks 69 [some (sl 6 0), some (wi x1), some (wi r1)] [] V1 (zv K))) ∧ (r1 = 32 → vwp E d M_X12_passBlanks 50 [some (sl 6 0), some (wi x1), some (wi r1)] [] V1 (zv K))))))))) : vwp E d M_X12_passBlanks 2 [some (sl 6 0), some (wi x1), none] [] V (zv K) := by
  intro G A hR
  obtain ⟨L, P, rfl, hS⟩ := hR
  have hx := Xt.refl (V := pl G A L P) (A := A)
  show wp E d M_X12_passBlanks 2 [some (vr (A 6 0)), some (vi x1), none] [] G _
  refine v_X12_passBlanks_2 h0 ?_
  refine ⟨fun hc => ?_, fun hc => ?_⟩
  · have h := h.1 hc
    exact qx_v hS hx h
  · have h := h.2 hc
    refine ⟨hS.o (s6_0 hS), ?_⟩
    refine ⟨fun hc => ?_, fun hc => ?_⟩
    · have h := h.1 hc
      exact qx_v hS hx h
    · have h := h.2 hc
      refine wpM.mono (h G A ⟨L, P, rfl, hS⟩) (fun rr1 G1 hr => ?_)
      obtain ⟨A1, W1, w1, ⟨L1, P1, rfl, hS1⟩, hy1, rfl, r1, rfl, h⟩ := hr
      refine ⟨r1, rfl, ?_⟩
      have hx1 := Xt.trans hx hy1
      have ee2 : A1 6 0 = A 6 0 := hy1.2 _ _ hS.1.2.1 (((n6_0 hS1)).trans ((n6_0 hS)).symm)
      try rw [← ee2]
      refine ⟨fun hc => ?_, fun hc => ?_⟩
      · have h := h.1 hc
        exact wp.mono (h G1 A1 ⟨L1, P1, rfl, hS1⟩) (fun r G' q => qx_trans hx1 q)
      · have h := h.2 hc
        refine ⟨fun hc => ?_, fun hc => ?_⟩
        · have h := h.1 hc
          exact wp.mono (h G1 A1 ⟨L1, P1, rfl, hS1⟩) (fun r G' q => qx_trans hx1 q)
        · have h := h.2 hc
          refine ⟨fun hc => ?_, fun hc => ?_⟩
          · have h := h.1 hc
            exact wp.mono (h G1 A1 ⟨L1, P1, rfl, hS1⟩) (fun r G' q => qx_trans hx1 q)
          · have h := h.2 hc
            refine ⟨fun hc => ?_, fun hc => ?_⟩
            · have h := h.1 hc
              refine ⟨fun hc => ?_, fun hc => ?_⟩
              · have h := h.1 hc
                exact wp.mono (h G1 A1 ⟨L1, P1, rfl, hS1⟩) (fun r G' q => qx_trans hx1 q)
              · have h := h.2 hc
                exact wp.mono (h G1 A1 ⟨L1, P1, rfl, hS1⟩) (fun r G' q => qx_trans hx1 q)
            · have h := h.2 hc
              exact wp.mono (h G1 A1 ⟨L1, P1, rfl, hS1⟩) (fun r G' q => qx_trans hx1 q)
theorem w_X12_statement_0 {E : EE} {d : Nat} {V : VH} {K : VH → Prop}   (h0 : 0 < d) (h : ∀ V1 : VH, V1 = wrI V 6 0 48 0 → vp_in (vI V1 6 0 47) 5 ∧ (vp_in (vI V1 6 0 47) 5 ∧ (vp_in ((64 * (vI V1 6 0 47)) + (vI V1 6 11 (Int32.toNatClampNeg (vI V1 6 0 47)))) 320 ∧ (∀ V5 : VH, V5 = wrI V1 6 10 (Int32.toNatClampNeg ((64 * (vI V1 6 0 47)) + (vI V1 6 11 (Int32.toNatClampNeg (vI V1 6 0 47))))) (vI V1 6 9 (Int32.toNatClampNeg (vI V1 6 0 47))) → ((vI V5 6 0 41) = 300 → vMV E (d - 1) M_X12_keep [sl 6 0, wi 0] V5 (fun V6 => vMV E (d - 1) M_X12_factStatement [sl 6 0] V6 (fun V8 => vwp E d M_X12_statement 132 [some (sl 6 0)] [] V8 (zv K)))) ∧ (((vI V5 6 0 41) = 301 → vMV E (d - 1) M_X12_keep [sl 6 0, wi 0] V5 (fun V10 => vMV E (d - 1) M_X12_varStatement [sl 6 0] V10 (fun V12 => vwp E d M_X12_statement 132 [some (sl 6 0)] [] V12 (zv K)))) ∧ (((vI V5 6 0 41) = 302 → vMV E (d - 1) M_X12_failHere [sl 6 0] V5 (fun V14 => vwp E d M_X12_statement 132 [some (sl 6 0)] [] V14 (zv K))) ∧ (((vI V5 6 0 41) = 303 → vMV E (d - 1) M_X12_keep [sl 6 0, wi 0] V5 (fun V16 => vMV E (d - 1) M_X12_ruleStatement [sl 6 0] V16 (fun V18 => vwp E d M_X12_statement 132 [some (sl 6 0)] [] V18 (zv K)))) ∧ (((vI V5 6 0 41) = 304 → vMV E (d - 1) M_X12_failHere [sl 6 0] V5 (fun V20 => vwp E d M_X12_statement 132 [some (sl 6 0)] [] V20 (zv K))) ∧ (((vI V5 6 0 41) = 305 → vMV E (d - 1) M_X12_keep [sl 6 0, wi 0] V5 (fun V22 => vMV E (d - 1) M_X12_aimStatement [sl 6 0] V22 (fun V24 => vwp E d M_X12_statement 132 [some (sl 6 0)] [] V24 (zv K)))) ∧ ((¬ (vI V5 6 0 41) = 300 → ¬ (vI V5 6 0 41) = 301 → ¬ (vI V5 6 0 41) = 302 → ¬ (vI V5 6 0 41) = 303 → ¬ (vI V5 6 0 41) = 304 → ¬ (vI V5 6 0 41) = 305 → vMV E (d - 1) M_X12_failHere [sl 6 0] V5 (fun V26 => vwp E d M_X12_statement 132 [some (sl 6 0)] [] V26 (zv K))))))))))))) : vMV E d M_X12_statement [sl 6 0] V K := by
  intro G A hR
  obtain ⟨L, P, rfl, hS⟩ := hR
  have hx := Xt.refl (V := pl G A L P) (A := A)
  show wpM E d M_X12_statement [vr (A 6 0)] G _
  refine wpM_of mk_X12_statement (Nat.le_of_ble_eq_true rfl) ?_
  refine v_X12_statement_0 h0 ?_
  refine ⟨hS.o (s6_0 hS), ?_⟩
  intro G1 eG1
  have hS1 : Sh E G1 A L P := Sh_sI eG1 hS (s6_0 hS) (okT_0 rfl)
  have h := h (pl G1 A L P) (pl_sI eG1 hS (s6_0 hS))
  have hx1 : Xt (pl G A L P) A (pl G1 A L P) A := Xt_sI eG1 hx
  rw [l6_0_13 hS1]
  rw [l6_0_14 hS1]
  refine ⟨hS1.o (s6_11 hS1), ?_⟩
  obtain ⟨hi2, h⟩ := h
  refine ⟨by first | (rw [(n6_11 hS1)]; exact hi2) | exact (congrArg (vp_in _) (n6_11 hS1)).mpr hi2 | exact hi2, ?_⟩
  rw [l6_0_12 hS1]
  refine ⟨hS1.o (s6_9 hS1), ?_⟩
  obtain ⟨hi3, h⟩ := h
  refine ⟨by first | (rw [(n6_9 hS1)]; exact hi3) | exact (congrArg (vp_in _) (n6_9 hS1)).mpr hi3 | exact hi3, ?_⟩
  refine ⟨hS1.o (s6_10 hS1), ?_⟩
  obtain ⟨hi4, h⟩ := h
  refine ⟨by first | (rw [(n6_10 hS1)]; exact hi4) | exact (congrArg (vp_in _) (n6_10 hS1)).mpr hi4 | exact hi4, ?_⟩
  intro G5 eG5
  have hS5 : Sh E G5 A L P := Sh_sI eG5 hS1 (s6_10 hS1) (okT_0 rfl)
  have h := h (pl G5 A L P) (pl_sI eG5 hS1 (s6_10 hS1))
  have hx5 : Xt (pl G A L P) A (pl G5 A L P) A := Xt_sI eG5 hx1
  refine ⟨fun hc => ?_, ?_⟩
  · have h := h.1 hc
    refine wpM.mono (h G5 A ⟨L, P, rfl, hS5⟩) (fun rr6 G6 hr => ?_)
    obtain ⟨A6, W6, w6, ⟨L6, P6, rfl, hS6⟩, hy6, rfl, rfl, h⟩ := hr
    refine ⟨rfl, ?_⟩
    have hx6 := Xt.trans hx5 hy6
    have ee7 : A6 6 0 = A 6 0 := hy6.2 _ _ hS5.1.2.1 (((n6_0 hS6)).trans ((n6_0 hS5)).symm)
    try rw [← ee7]
    refine ⟨hS6.o (s6_0 hS6), ?_⟩
    refine wpM.mono (h G6 A6 ⟨L6, P6, rfl, hS6⟩) (fun rr8 G8 hr => ?_)
    obtain ⟨A8, W8, w8, ⟨L8, P8, rfl, hS8⟩, hy8, rfl, rfl, h⟩ := hr
    refine ⟨rfl, ?_⟩
    have hx8 := Xt.trans hx6 hy8
    have ee9 : A8 6 0 = A6 6 0 := hy8.2 _ _ hS6.1.2.1 (((n6_0 hS8)).trans ((n6_0 hS6)).symm)
    try rw [← ee9]
    exact wp.mono (h G8 A8 ⟨L8, P8, rfl, hS8⟩) (fun r G' q => qx_trans hx8 q)
  have h := h.2
  refine ⟨fun hc => ?_, ?_⟩
  · have h := h.1 hc
    refine wpM.mono (h G5 A ⟨L, P, rfl, hS5⟩) (fun rr10 G10 hr => ?_)
    obtain ⟨A10, W10, w10, ⟨L10, P10, rfl, hS10⟩, hy10, rfl, rfl, h⟩ := hr
    refine ⟨rfl, ?_⟩
    have hx10 := Xt.trans hx5 hy10
    have ee11 : A10 6 0 = A 6 0 := hy10.2 _ _ hS5.1.2.1 (((n6_0 hS10)).trans ((n6_0 hS5)).symm)
    try rw [← ee11]
    refine ⟨hS10.o (s6_0 hS10), ?_⟩
    refine wpM.mono (h G10 A10 ⟨L10, P10, rfl, hS10⟩) (fun rr12 G12 hr => ?_)
    obtain ⟨A12, W12, w12, ⟨L12, P12, rfl, hS12⟩, hy12, rfl, rfl, h⟩ := hr
    refine ⟨rfl, ?_⟩
    have hx12 := Xt.trans hx10 hy12
    have ee13 : A12 6 0 = A10 6 0 := hy12.2 _ _ hS10.1.2.1 (((n6_0 hS12)).trans ((n6_0 hS10)).symm)
    try rw [← ee13]
    exact wp.mono (h G12 A12 ⟨L12, P12, rfl, hS12⟩) (fun r G' q => qx_trans hx12 q)
  have h := h.2
  refine ⟨fun hc => ?_, ?_⟩
  · have h := h.1 hc
    refine wpM.mono (h G5 A ⟨L, P, rfl, hS5⟩) (fun rr14 G14 hr => ?_)
    obtain ⟨A14, W14, w14, ⟨L14, P14, rfl, hS14⟩, hy14, rfl, rfl, h⟩ := hr
    refine ⟨rfl, ?_⟩
    have hx14 := Xt.trans hx5 hy14
    have ee15 : A14 6 0 = A 6 0 := hy14.2 _ _ hS5.1.2.1 (((n6_0 hS14)).trans ((n6_0 hS5)).symm)
    try rw [← ee15]
    exact wp.mono (h G14 A14 ⟨L14, P14, rfl, hS14⟩) (fun r G' q => qx_trans hx14 q)
  have h := h.2
  refine ⟨fun hc => ?_, ?_⟩
  · have h := h.1 hc
    refine wpM.mono (h G5 A ⟨L, P, rfl, hS5⟩) (fun rr16 G16 hr => ?_)
    obtain ⟨A16, W16, w16, ⟨L16, P16, rfl, hS16⟩, hy16, rfl, rfl, h⟩ := hr
    refine ⟨rfl, ?_⟩
    have hx16 := Xt.trans hx5 hy16
    have ee17 : A16 6 0 = A 6 0 := hy16.2 _ _ hS5.1.2.1 (((n6_0 hS16)).trans ((n6_0 hS5)).symm)
    try rw [← ee17]
    refine ⟨hS16.o (s6_0 hS16), ?_⟩
    refine wpM.mono (h G16 A16 ⟨L16, P16, rfl, hS16⟩) (fun rr18 G18 hr => ?_)
    obtain ⟨A18, W18, w18, ⟨L18, P18, rfl, hS18⟩, hy18, rfl, rfl, h⟩ := hr
    refine ⟨rfl, ?_⟩
    have hx18 := Xt.trans hx16 hy18
    have ee19 : A18 6 0 = A16 6 0 := hy18.2 _ _ hS16.1.2.1 (((n6_0 hS18)).trans ((n6_0 hS16)).symm)
    try rw [← ee19]
    exact wp.mono (h G18 A18 ⟨L18, P18, rfl, hS18⟩) (fun r G' q => qx_trans hx18 q)
  have h := h.2
  refine ⟨fun hc => ?_, ?_⟩
  · have h := h.1 hc
    refine wpM.mono (h G5 A ⟨L, P, rfl, hS5⟩) (fun rr20 G20 hr => ?_)
    obtain ⟨A20, W20, w20, ⟨L20, P20, rfl, hS20⟩, hy20, rfl, rfl, h⟩ := hr
    refine ⟨rfl, ?_⟩
    have hx20 := Xt.trans hx5 hy20
    have ee21 : A20 6 0 = A 6 0 := hy20.2 _ _ hS5.1.2.1 (((n6_0 hS20)).trans ((n6_0 hS5)).symm)
    try rw [← ee21]
    exact wp.mono (h G20 A20 ⟨L20, P20, rfl, hS20⟩) (fun r G' q => qx_trans hx20 q)
  have h := h.2
  refine ⟨fun hc => ?_, ?_⟩
  · have h := h.1 hc
    refine wpM.mono (h G5 A ⟨L, P, rfl, hS5⟩) (fun rr22 G22 hr => ?_)
    obtain ⟨A22, W22, w22, ⟨L22, P22, rfl, hS22⟩, hy22, rfl, rfl, h⟩ := hr
    refine ⟨rfl, ?_⟩
    have hx22 := Xt.trans hx5 hy22
    have ee23 : A22 6 0 = A 6 0 := hy22.2 _ _ hS5.1.2.1 (((n6_0 hS22)).trans ((n6_0 hS5)).symm)
    try rw [← ee23]
    refine ⟨hS22.o (s6_0 hS22), ?_⟩
    refine wpM.mono (h G22 A22 ⟨L22, P22, rfl, hS22⟩) (fun rr24 G24 hr => ?_)
    obtain ⟨A24, W24, w24, ⟨L24, P24, rfl, hS24⟩, hy24, rfl, rfl, h⟩ := hr
    refine ⟨rfl, ?_⟩
    have hx24 := Xt.trans hx22 hy24
    have ee25 : A24 6 0 = A22 6 0 := hy24.2 _ _ hS22.1.2.1 (((n6_0 hS24)).trans ((n6_0 hS22)).symm)
    try rw [← ee25]
    exact wp.mono (h G24 A24 ⟨L24, P24, rfl, hS24⟩) (fun r G' q => qx_trans hx24 q)
  have h := h.2
  intro q0 q1 q2 q3 q4 q5
  have h := h q0 q1 q2 q3 q4 q5
  refine wpM.mono (h G5 A ⟨L, P, rfl, hS5⟩) (fun rr26 G26 hr => ?_)
  obtain ⟨A26, W26, w26, ⟨L26, P26, rfl, hS26⟩, hy26, rfl, rfl, h⟩ := hr
  refine ⟨rfl, ?_⟩
  have hx26 := Xt.trans hx5 hy26
  have ee27 : A26 6 0 = A 6 0 := hy26.2 _ _ hS5.1.2.1 (((n6_0 hS26)).trans ((n6_0 hS5)).symm)
  try rw [← ee27]
  exact wp.mono (h G26 A26 ⟨L26, P26, rfl, hS26⟩) (fun r G' q => qx_trans hx26 q)
theorem w_X12_statement_132 {E : EE} {d : Nat} {V : VH} {K : VH → Prop}   (h : vp_in (vI V 6 0 47) 5 ∧ (vp_in (vI V 6 0 47) 5 ∧ (∀ V3 : VH, V3 = wrI V 6 11 (Int32.toNatClampNeg (vI V 6 0 47)) ((vI V 6 11 (Int32.toNatClampNeg (vI V 6 0 47))) + 1) → K V3))) : vwp E d M_X12_statement 132 [some (sl 6 0)] [] V (zv K) := by
  intro G A hR
  obtain ⟨L, P, rfl, hS⟩ := hR
  have hx := Xt.refl (V := pl G A L P) (A := A)
  show wp E d M_X12_statement 132 [some (vr (A 6 0))] [] G _
  refine v_X12_statement_132 ?_
  refine ⟨hS.o (s6_0 hS), ?_⟩
  rw [l6_0_14 hS]
  refine ⟨hS.o (s6_11 hS), ?_⟩
  obtain ⟨hi1, h⟩ := h
  refine ⟨by first | (rw [(n6_11 hS)]; exact hi1) | exact (congrArg (vp_in _) (n6_11 hS)).mpr hi1 | exact hi1, ?_⟩
  obtain ⟨hi2, h⟩ := h
  refine ⟨by first | (rw [(n6_11 hS)]; exact hi2) | exact (congrArg (vp_in _) (n6_11 hS)).mpr hi2 | exact hi2, ?_⟩
  have hS3 : Sh E (sI G (A 6 11) (Int32.toNatClampNeg (gI G (A 6 0) 47)) ((gI G (A 6 11) (Int32.toNatClampNeg (gI G (A 6 0) 47))) + 1)) A L P := Sh_sI (rfl : sI G (A 6 11) (Int32.toNatClampNeg (gI G (A 6 0) 47)) ((gI G (A 6 11) (Int32.toNatClampNeg (gI G (A 6 0) 47))) + 1) = sI G (A 6 11) (Int32.toNatClampNeg (gI G (A 6 0) 47)) ((gI G (A 6 11) (Int32.toNatClampNeg (gI G (A 6 0) 47))) + 1)) hS (s6_11 hS) (okT_0 rfl)
  have h := h (pl (sI G (A 6 11) (Int32.toNatClampNeg (gI G (A 6 0) 47)) ((gI G (A 6 11) (Int32.toNatClampNeg (gI G (A 6 0) 47))) + 1)) A L P) (pl_sI (rfl : sI G (A 6 11) (Int32.toNatClampNeg (gI G (A 6 0) 47)) ((gI G (A 6 11) (Int32.toNatClampNeg (gI G (A 6 0) 47))) + 1) = sI G (A 6 11) (Int32.toNatClampNeg (gI G (A 6 0) 47)) ((gI G (A 6 11) (Int32.toNatClampNeg (gI G (A 6 0) 47))) + 1)) hS (s6_11 hS))
  have hx3 : Xt (pl G A L P) A (pl (sI G (A 6 11) (Int32.toNatClampNeg (gI G (A 6 0) 47)) ((gI G (A 6 11) (Int32.toNatClampNeg (gI G (A 6 0) 47))) + 1)) A L P) A := Xt_sI (rfl : sI G (A 6 11) (Int32.toNatClampNeg (gI G (A 6 0) 47)) ((gI G (A 6 11) (Int32.toNatClampNeg (gI G (A 6 0) 47))) + 1) = sI G (A 6 11) (Int32.toNatClampNeg (gI G (A 6 0) 47)) ((gI G (A 6 11) (Int32.toNatClampNeg (gI G (A 6 0) 47))) + 1)) hx
  exact qx_v hS3 hx3 h
theorem w_X12_failHere_0 {E : EE} {d : Nat} {V : VH} {K : VH → Prop}   (h : (¬ (vI V 6 0 41) = 3 → vwp E d M_X12_failHere 14 [some (sl 6 0)] [wi 2, sl 6 0] V (zv K)) ∧ ((vI V 6 0 41) = 3 → vwp E d M_X12_failHere 14 [some (sl 6 0)] [wi 1, sl 6 0] V (zv K))) : vMV E d M_X12_failHere [sl 6 0] V K := by
  intro G A hR
  obtain ⟨L, P, rfl, hS⟩ := hR
  have hx := Xt.refl (V := pl G A L P) (A := A)
  show wpM E d M_X12_failHere [vr (A 6 0)] G _
  refine wpM_of mk_X12_failHere (Nat.le_of_ble_eq_true rfl) ?_
  refine v_X12_failHere_0 ?_
  refine ⟨hS.o (s6_0 hS), ?_⟩
  refine ⟨fun hc => ?_, fun hc => ?_⟩
  · have h := h.1 hc
    exact wp.mono (h G A ⟨L, P, rfl, hS⟩) (fun r G' q => qx_trans hx q)
  · have h := h.2 hc
    exact wp.mono (h G A ⟨L, P, rfl, hS⟩) (fun r G' q => qx_trans hx q)
theorem w_X12_failHere_14 {E : EE} {d : Nat} {V : VH} {K : VH → Prop} {t1 : Int32}  (h0 : 0 < d) (h : vMV E (d - 1) M_X12_fail [sl 6 0, wi t1, wi (vI V 6 0 43)] V (fun V1 => K V1)) : vwp E d M_X12_failHere 14 [some (sl 6 0)] [wi t1, sl 6 0] V (zv K) := by
  intro G A hR
  obtain ⟨L, P, rfl, hS⟩ := hR
  have hx := Xt.refl (V := pl G A L P) (A := A)
  show wp E d M_X12_failHere 14 [some (vr (A 6 0))] [vi t1, vr (A 6 0)] G _
  refine v_X12_failHere_14 h0 ?_
  refine ⟨hS.o (s6_0 hS), ?_⟩
  refine ⟨hS.o (s6_0 hS), ?_⟩
  refine wpM.mono (h G A ⟨L, P, rfl, hS⟩) (fun rr1 G1 hr => ?_)
  obtain ⟨A1, W1, w1, ⟨L1, P1, rfl, hS1⟩, hy1, rfl, rfl, h⟩ := hr
  refine ⟨rfl, ?_⟩
  have hx1 := Xt.trans hx hy1
  have ee2 : A1 6 0 = A 6 0 := hy1.2 _ _ hS.1.2.1 (((n6_0 hS1)).trans ((n6_0 hS)).symm)
  try rw [← ee2]
  exact qx_v hS1 hx1 h
theorem w_X12_fail_0 {E : EE} {d : Nat} {V : VH} {K : VH → Prop} {x1 : Int32} {x2 : Int32}  (h : (¬ (vI V 6 0 45) = 0 → K V) ∧ ((vI V 6 0 45) = 0 → ∀ V1 : VH, V1 = wrI V 6 0 45 x1 → ∀ V2 : VH, V2 = wrI V1 6 0 46 x2 → K V2)) : vMV E d M_X12_fail [sl 6 0, wi x1, wi x2] V K := by
  intro G A hR
  obtain ⟨L, P, rfl, hS⟩ := hR
  have hx := Xt.refl (V := pl G A L P) (A := A)
  show wpM E d M_X12_fail [vr (A 6 0), vi x1, vi x2] G _
  refine wpM_of mk_X12_fail (Nat.le_of_ble_eq_true rfl) ?_
  refine v_X12_fail_0 ?_
  refine ⟨hS.o (s6_0 hS), ?_⟩
  refine ⟨fun hc => ?_, fun hc => ?_⟩
  · have h := h.1 hc
    exact qx_v hS hx h
  · have h := h.2 hc
    intro G1 eG1
    have hS1 : Sh E G1 A L P := Sh_sI eG1 hS (s6_0 hS) (okT_0 rfl)
    have h := h (pl G1 A L P) (pl_sI eG1 hS (s6_0 hS))
    have hx1 : Xt (pl G A L P) A (pl G1 A L P) A := Xt_sI eG1 hx
    intro G2 eG2
    have hS2 : Sh E G2 A L P := Sh_sI eG2 hS1 (s6_0 hS1) (okT_0 rfl)
    have h := h (pl G2 A L P) (pl_sI eG2 hS1 (s6_0 hS1))
    have hx2 : Xt (pl G A L P) A (pl G2 A L P) A := Xt_sI eG2 hx1
    exact qx_v hS2 hx2 h
