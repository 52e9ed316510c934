/-! regions over the view (by program): X3_sumOverFutures X3_allOdds X3_mostRobust X3_isLess X3_isFact X3_addFuture X3_firstBestWith X3_firstWorseRule X3_isRule X3_bestLacking X3_costTo X1_cheapest X1_lookAtSets X1_listRules X1_among X1_weightOf X1_isClash X1_byNumber X1_smallest X1_narrowed X1_alwaysBroken X1_workOut X1_dropUnsupported X1_isOfLeft X1_support X6_mayBe X6_seek X6_begin X6_propose X6_draw X6_isTaken X6_worth X6_settle X4_fits X4_write X4_writeTree X4_isRight X4_tree X4_branches X4_ruledOut X4_isNoGain X4_isBounded X8_announced X8_textLength X8_rowEnd X8_stateLength X8_restore X8_noteEnd X8_hasRoom X8_append X8_export X8_lose X8_start X8_add X5_read -/
theorem w_X3_sumOverFutures_12 {E : EE} {d : Nat} {V : VH} {K : Int32 → VH → Prop} {g : Nat} {x1 : Int32} {x2 : Int32} {x3 : Int32} (hg : PG (vL V) g) (h0 : 0 < d) (h : ((vI V g 0 11) ≤ x3 → bz x2 ∧ K x2 V) ∧ (¬ ((vI V g 0 11) ≤ x3) → vMR E (d - 1) M_X3_factsIn [sl g 0, wi x3] V (fun g1 f1 V1 => (g1 = g ∧ f1 = 30) ∧ (vMI E (d - 1) M_X2_weighAll [sl g 9, sl g 5, wi x1, sl g 30, sl g 27, wi 0] V1 (fun r6 V6 => ((r6 &&& (vI V6 g 9 0)) = 0 → vwp E d M_X3_sumOverFutures 59 [some (sl g 0), some (wi x1), some (wi x2), some (wi x3), some (wi r6), none] [] V6 (zi K)) ∧ (¬ ((r6 &&& (vI V6 g 9 0)) = 0) → vwp E d M_X3_sumOverFutures 59 [some (sl g 0), some (wi x1), some (wi 0), some (wi x3), some (wi r6), none] [] V6 (zi K))))))) : vwp E d M_X3_sumOverFutures 12 [some (sl g 0), some (wi x1), some (wi x2), some (wi x3), none, none] [] V (zi K) := by
  intro G A hR
  obtain ⟨L, P, rfl, hS⟩ := hR
  have hx := Xt.refl (V := pl G A L P) (A := A)
  show wp E d M_X3_sumOverFutures 12 [some (vr (A g 0)), some (vi x1), some (vi x2), some (vi x3), none, none] [] G _
  refine v_X3_sumOverFutures_12 h0 ?_
  refine ⟨hS.o (sP_0 hg), ?_⟩
  refine ⟨fun hc => ?_, fun hc => ?_⟩
  · have h := h.1 hc
    exact ⟨bz_ok h.1, qx_i hS hx h.2⟩
  · have h := h.2 hc
    rw [lP_0_5 hS hg]
    rw [lP_0_4 hS hg]
    refine wpM.mono (h G A ⟨L, P, rfl, hS⟩) (fun rr1 G1 hr => ?_)
    obtain ⟨A1, W1, w1, ⟨L1, P1, rfl, hS1⟩, hy1, rfl, g1, f1, rfl, h⟩ := hr
    refine ⟨A1 g1 f1, rfl, ?_⟩
    have hx1 := Xt.trans hx hy1
    have hg2 : PG L1 g := PG.up hy1 hg
    have ee3 : A1 g 0 = A g 0 := hy1.2 _ _ hg.1 (((nP_0 hS1 hg2)).trans ((nP_0 hS hg)).symm)
    try rw [← ee3]
    have ee4 : A1 g 5 = A g 5 := hy1.2 _ _ hg.1 (((nP_5 hS1 hg2)).trans ((nP_5 hS hg)).symm)
    try rw [← ee4]
    have ee5 : A1 g 9 = A g 9 := hy1.2 _ _ hg.1 (((nP_9 hS1 hg2)).trans ((nP_9 hS hg)).symm)
    try rw [← ee5]
    obtain ⟨⟨eg1, ef1⟩, h⟩ := h
    have eg1 := eg1.symm
    have ef1 := ef1.symm
    subst eg1
    subst ef1
    refine ⟨hS1.o (sP_0 hg2), ?_⟩
    rw [lP_0_14 hS1 hg2]
    refine ⟨hS1.o (sP_9 hg2), ?_⟩
    refine wpM.mono (h G1 A1 ⟨L1, P1, rfl, hS1⟩) (fun rr6 G6 hr => ?_)
    obtain ⟨A6, W6, w6, ⟨L6, P6, rfl, hS6⟩, hy6, rfl, r6, rfl, h⟩ := hr
    refine ⟨r6, rfl, ?_⟩
    have hx6 := Xt.trans hx1 hy6
    have hg7 : PG L6 g := PG.up hy6 hg2
    have ee8 : A6 g 0 = A1 g 0 := hy6.2 _ _ hg2.1 (((nP_0 hS6 hg7)).trans ((nP_0 hS1 hg2)).symm)
    try rw [← ee8]
    refine ⟨hS6.o (sP_0 hg7), ?_⟩
    rw [lP_0_5 hS6 hg7]
    refine ⟨hS6.o (sP_9 hg7), ?_⟩
    refine ⟨fun hc => ?_, fun hc => ?_⟩
    · have h := h.1 hc
      exact wp.mono (h G6 A6 ⟨L6, P6, rfl, hS6⟩) (fun r G' q => qx_trans hx6 q)
    · have h := h.2 hc
      exact wp.mono (h G6 A6 ⟨L6, P6, rfl, hS6⟩) (fun r G' q => qx_trans hx6 q)
theorem w_X3_sumOverFutures_59 {E : EE} {d : Nat} {V : VH} {K : Int32 → VH → Prop} {g : Nat} {x1 : Int32} {x2 : Int32} {x3 : Int32} {x4 : Int32} (hg : PG (vL V) g) (h : vwp E d M_X3_sumOverFutures 62 [some (sl g 0), some (wi x1), some (wi x2), some (wi x3), some (wi x4), some (wi 0)] [] V (zi K)) : vwp E d M_X3_sumOverFutures 59 [some (sl g 0), some (wi x1), some (wi x2), some (wi x3), some (wi x4), none] [] V (zi K) := by
  intro G A hR
  obtain ⟨L, P, rfl, hS⟩ := hR
  have hx := Xt.refl (V := pl G A L P) (A := A)
  show wp E d M_X3_sumOverFutures 59 [some (vr (A g 0)), some (vi x1), some (vi x2), some (vi x3), some (vi x4), none] [] G _
  refine v_X3_sumOverFutures_59 ?_
  exact wp.mono (h G A ⟨L, P, rfl, hS⟩) (fun r G' q => qx_trans hx q)
theorem w_X3_sumOverFutures_62 {E : EE} {d : Nat} {V : VH} {K : Int32 → VH → Prop} {g : Nat} {x1 : Int32} {x2 : Int32} {x3 : Int32} {x4 : Int32} {x5 : Int32} (hg : PG (vL V) g) (h : (3 ≤ x5 → vwp E d M_X3_sumOverFutures 12 [some (sl g 0), some (wi x1), some (wi x2), some (wi (x3 + 1)), none, none] [] V (zi K)) ∧ (¬ (3 ≤ x5) → vp_in x5 3 ∧ (vp_in x3 6 ∧ (vp_in x5 3 ∧ (vp_in x5 3 ∧ (∀ V5 : VH, V5 = wrJ V g 28 (Int32.toNatClampNeg x5) ((vJ V g 28 (Int32.toNatClampNeg x5)) + ((Int32.toInt64 (vI V g 29 (Int32.toNatClampNeg x3))) * (vJ V g 27 (Int32.toNatClampNeg x5)))) → vwp E d M_X3_sumOverFutures 62 [some (sl g 0), some (wi x1), some (wi x2), some (wi x3), some (wi x4), some (wi (x5 + 1))] [] V5 (zi K))))))) : vwp E d M_X3_sumOverFutures 62 [some (sl g 0), some (wi x1), some (wi x2), some (wi x3), some (wi x4), some (wi x5)] [] V (zi K) := by
  intro G A hR
  obtain ⟨L, P, rfl, hS⟩ := hR
  have hx := Xt.refl (V := pl G A L P) (A := A)
  show wp E d M_X3_sumOverFutures 62 [some (vr (A g 0)), some (vi x1), some (vi x2), some (vi x3), some (vi x4), some (vi x5)] [] G _
  refine v_X3_sumOverFutures_62 ?_
  refine ⟨fun hc => ?_, fun hc => ?_⟩
  · have h := h.1 hc
    exact wp.mono (h G A ⟨L, P, rfl, hS⟩) (fun r G' q => qx_trans hx q)
  · have h := h.2 hc
    refine ⟨hS.o (sP_0 hg), ?_⟩
    rw [lP_0_15 hS hg]
    refine ⟨hS.o (sP_28 hg), ?_⟩
    obtain ⟨hi1, h⟩ := h
    refine ⟨by first | (rw [(nP_28 hS hg)]; exact hi1) | exact (congrArg (vp_in _) (nP_28 hS hg)).mpr hi1 | exact hi1, ?_⟩
    rw [lP_0_16 hS hg]
    refine ⟨hS.o (sP_29 hg), ?_⟩
    obtain ⟨hi2, h⟩ := h
    refine ⟨by first | (rw [(nP_29 hS hg)]; exact hi2) | exact (congrArg (vp_in _) (nP_29 hS hg)).mpr hi2 | exact hi2, ?_⟩
    rw [lP_0_14 hS hg]
    refine ⟨hS.o (sP_27 hg), ?_⟩
    obtain ⟨hi3, h⟩ := h
    refine ⟨by first | (rw [(nP_27 hS hg)]; exact hi3) | exact (congrArg (vp_in _) (nP_27 hS hg)).mpr hi3 | exact hi3, ?_⟩
    obtain ⟨hi4, h⟩ := h
    refine ⟨by first | (rw [(nP_28 hS hg)]; exact hi4) | exact (congrArg (vp_in _) (nP_28 hS hg)).mpr hi4 | exact hi4, ?_⟩
    have hS5 : Sh E (sJ G (A g 28) (Int32.toNatClampNeg x5) ((gJ G (A g 28) (Int32.toNatClampNeg x5)) + ((Int32.toInt64 (gI G (A g 29) (Int32.toNatClampNeg x3))) * (gJ G (A g 27) (Int32.toNatClampNeg x5))))) A L P := Sh_sJ (rfl : sJ G (A g 28) (Int32.toNatClampNeg x5) ((gJ G (A g 28) (Int32.toNatClampNeg x5)) + ((Int32.toInt64 (gI G (A g 29) (Int32.toNatClampNeg x3))) * (gJ G (A g 27) (Int32.toNatClampNeg x5)))) = sJ G (A g 28) (Int32.toNatClampNeg x5) ((gJ G (A g 28) (Int32.toNatClampNeg x5)) + ((Int32.toInt64 (gI G (A g 29) (Int32.toNatClampNeg x3))) * (gJ G (A g 27) (Int32.toNatClampNeg x5))))) hS
    have h := h (pl (sJ G (A g 28) (Int32.toNatClampNeg x5) ((gJ G (A g 28) (Int32.toNatClampNeg x5)) + ((Int32.toInt64 (gI G (A g 29) (Int32.toNatClampNeg x3))) * (gJ G (A g 27) (Int32.toNatClampNeg x5))))) A L P) (pl_sJ (rfl : sJ G (A g 28) (Int32.toNatClampNeg x5) ((gJ G (A g 28) (Int32.toNatClampNeg x5)) + ((Int32.toInt64 (gI G (A g 29) (Int32.toNatClampNeg x3))) * (gJ G (A g 27) (Int32.toNatClampNeg x5)))) = sJ G (A g 28) (Int32.toNatClampNeg x5) ((gJ G (A g 28) (Int32.toNatClampNeg x5)) + ((Int32.toInt64 (gI G (A g 29) (Int32.toNatClampNeg x3))) * (gJ G (A g 27) (Int32.toNatClampNeg x5))))) hS (sP_28 hg))
    have hx5 : Xt (pl G A L P) A (pl (sJ G (A g 28) (Int32.toNatClampNeg x5) ((gJ G (A g 28) (Int32.toNatClampNeg x5)) + ((Int32.toInt64 (gI G (A g 29) (Int32.toNatClampNeg x3))) * (gJ G (A g 27) (Int32.toNatClampNeg x5))))) A L P) A := Xt_sJ (rfl : sJ G (A g 28) (Int32.toNatClampNeg x5) ((gJ G (A g 28) (Int32.toNatClampNeg x5)) + ((Int32.toInt64 (gI G (A g 29) (Int32.toNatClampNeg x3))) * (gJ G (A g 27) (Int32.toNatClampNeg x5)))) = sJ G (A g 28) (Int32.toNatClampNeg x5) ((gJ G (A g 28) (Int32.toNatClampNeg x5)) + ((Int32.toInt64 (gI G (A g 29) (Int32.toNatClampNeg x3))) * (gJ G (A g 27) (Int32.toNatClampNeg x5))))) hx
    exact wp.mono (h (sJ G (A g 28) (Int32.toNatClampNeg x5) ((gJ G (A g 28) (Int32.toNatClampNeg x5)) + ((Int32.toInt64 (gI G (A g 29) (Int32.toNatClampNeg x3))) * (gJ G (A g 27) (Int32.toNatClampNeg x5))))) A ⟨L, P, rfl, hS5⟩) (fun r G' q => qx_trans hx5 q)
theorem w_X3_allOdds_0 {E : EE} {d : Nat} {V : VH} {K : Int32 → VH → Prop} {g : Nat} (hg : PG (vL V) g) (h : vwp E d M_X3_allOdds 4 [some (sl g 0), some (wi 0), some (wi 0)] [] V (zi K)) : vMI E d M_X3_allOdds [sl g 0] V K := by
  intro G A hR
  obtain ⟨L, P, rfl, hS⟩ := hR
  have hx := Xt.refl (V := pl G A L P) (A := A)
  show wpM E d M_X3_allOdds [vr (A g 0)] G _
  refine wpM_of mk_X3_allOdds (Nat.le_of_ble_eq_true rfl) ?_
  refine v_X3_allOdds_0 ?_
  exact wp.mono (h G A ⟨L, P, rfl, hS⟩) (fun r G' q => qx_trans hx q)
theorem w_X3_allOdds_4 {E : EE} {d : Nat} {V : VH} {K : Int32 → VH → Prop} {g : Nat} {x1 : Int32} {x2 : Int32} (hg : PG (vL V) g) (h : ((vI V g 0 11) ≤ x2 → K x1 V) ∧ (¬ ((vI V g 0 11) ≤ x2) → vp_in x2 6 ∧ (vwp E d M_X3_allOdds 4 [some (sl g 0), some (wi (x1 + (vI V g 29 (Int32.toNatClampNeg x2)))), some (wi (x2 + 1))] [] V (zi K)))) : vwp E d M_X3_allOdds 4 [some (sl g 0), some (wi x1), some (wi x2)] [] V (zi K) := by
  intro G A hR
  obtain ⟨L, P, rfl, hS⟩ := hR
  have hx := Xt.refl (V := pl G A L P) (A := A)
  show wp E d M_X3_allOdds 4 [some (vr (A g 0)), some (vi x1), some (vi x2)] [] G _
  refine v_X3_allOdds_4 ?_
  refine ⟨hS.o (sP_0 hg), ?_⟩
  refine ⟨fun hc => ?_, fun hc => ?_⟩
  · have h := h.1 hc
    exact qx_i hS hx h
  · have h := h.2 hc
    rw [lP_0_16 hS hg]
    refine ⟨hS.o (sP_29 hg), ?_⟩
    obtain ⟨hi1, h⟩ := h
    refine ⟨by first | (rw [(nP_29 hS hg)]; exact hi1) | exact (congrArg (vp_in _) (nP_29 hS hg)).mpr hi1 | exact hi1, ?_⟩
    exact wp.mono (h G A ⟨L, P, rfl, hS⟩) (fun r G' q => qx_trans hx q)
theorem w_X3_mostRobust_0 {E : EE} {d : Nat} {V : VH} {K : Int32 → VH → Prop} {g : Nat} (hg : PG (vL V) g) (h0 : 0 < d) (h : vMI E (d - 1) M_X7_lowest [sl g 5, wi (vI V g 0 8), wi (vI V g 0 9)] V (fun r1 V1 => vwp E d M_X3_mostRobust 20 [some (sl g 0), some (wi (-1)), some (wi r1), some (wi 0)] [] V1 (zi K))) : vMI E d M_X3_mostRobust [sl g 0] V K := by
  intro G A hR
  obtain ⟨L, P, rfl, hS⟩ := hR
  have hx := Xt.refl (V := pl G A L P) (A := A)
  show wpM E d M_X3_mostRobust [vr (A g 0)] G _
  refine wpM_of mk_X3_mostRobust (Nat.le_of_ble_eq_true rfl) ?_
  refine v_X3_mostRobust_0 h0 ?_
  refine ⟨hS.o (sP_0 hg), ?_⟩
  rw [lP_0_4 hS hg]
  refine ⟨hS.o (sP_5 hg), ?_⟩
  refine wpM.mono (h G A ⟨L, P, rfl, hS⟩) (fun rr1 G1 hr => ?_)
  obtain ⟨A1, W1, w1, ⟨L1, P1, rfl, hS1⟩, hy1, rfl, r1, rfl, h⟩ := hr
  refine ⟨r1, rfl, ?_⟩
  have hx1 := Xt.trans hx hy1
  have hg2 : PG L1 g := PG.up hy1 hg
  have ee3 : A1 g 0 = A g 0 := hy1.2 _ _ hg.1 (((nP_0 hS1 hg2)).trans ((nP_0 hS hg)).symm)
  try rw [← ee3]
  exact wp.mono (h G1 A1 ⟨L1, P1, rfl, hS1⟩) (fun r G' q => qx_trans hx1 q)
theorem w_X3_mostRobust_20 {E : EE} {d : Nat} {V : VH} {K : Int32 → VH → Prop} {g : Nat} {x1 : Int32} {x2 : Int32} {x3 : Int32} (hg : PG (vL V) g) (h0 : 0 < d) (h : ((vI V g 5 1) ≤ x3 → K x1 V) ∧ (¬ ((vI V g 5 1) ≤ x3) → (x2 < 0 → K x1 V) ∧ (¬ (x2 < 0) → vMI E (d - 1) M_X3_sumOverFutures [sl g 0, wi x2] V (fun r1 V1 => (r1 = 0 → vwp E d M_X3_mostRobust 77 [some (sl g 0), some (wi x1), some (wi x2), some (wi x3)] [] V1 (zi K)) ∧ (¬ (r1 = 0) → (x1 < 0 → vwp E d M_X3_mostRobust 61 [some (sl g 0), some (wi x1), some (wi x2), some (wi x3)] [] V1 (zi K)) ∧ (¬ (x1 < 0) → vMI E (d - 1) M_X3_isLess [sl g 28, sl g 31] V1 (fun r4 V4 => (r4 = 0 → vwp E d M_X3_mostRobust 77 [some (sl g 0), some (wi x1), some (wi x2), some (wi x3)] [] V4 (zi K)) ∧ (¬ (r4 = 0) → vwp E d M_X3_mostRobust 61 [some (sl g 0), some (wi x1), some (wi x2), some (wi x3)] [] V4 (zi K))))))))) : vwp E d M_X3_mostRobust 20 [some (sl g 0), some (wi x1), some (wi x2), some (wi x3)] [] V (zi K) := by
  intro G A hR
  obtain ⟨L, P, rfl, hS⟩ := hR
  have hx := Xt.refl (V := pl G A L P) (A := A)
  show wp E d M_X3_mostRobust 20 [some (vr (A g 0)), some (vi x1), some (vi x2), some (vi x3)] [] G _
  refine v_X3_mostRobust_20 h0 ?_
  refine ⟨hS.o (sP_0 hg), ?_⟩
  rw [lP_0_4 hS hg]
  refine ⟨hS.o (sP_5 hg), ?_⟩
  refine ⟨fun hc => ?_, fun hc => ?_⟩
  · have h := h.1 hc
    exact qx_i hS hx h
  · have h := h.2 hc
    refine ⟨fun hc => ?_, fun hc => ?_⟩
    · have h := h.1 hc
      exact qx_i hS hx h
    · have h := h.2 hc
      refine wpM.mono (h G A ⟨L, P, rfl, hS⟩) (fun rr1 G1 hr => ?_)
      obtain ⟨A1, W1, w1, ⟨L1, P1, rfl, hS1⟩, hy1, rfl, r1, rfl, h⟩ := hr
      refine ⟨r1, rfl, ?_⟩
      have hx1 := Xt.trans hx hy1
      have hg2 : PG L1 g := PG.up hy1 hg
      have ee3 : A1 g 0 = A g 0 := hy1.2 _ _ hg.1 (((nP_0 hS1 hg2)).trans ((nP_0 hS hg)).symm)
      try rw [← ee3]
      refine ⟨fun hc => ?_, fun hc => ?_⟩
      · have h := h.1 hc
        exact wp.mono (h G1 A1 ⟨L1, P1, rfl, hS1⟩) (fun r G' q => qx_trans hx1 q)
      · have h := h.2 hc
        refine ⟨fun hc => ?_, fun hc => ?_⟩
        · have h := h.1 hc
          exact wp.mono (h G1 A1 ⟨L1, P1, rfl, hS1⟩) (fun r G' q => qx_trans hx1 q)
        · have h := h.2 hc
          refine ⟨hS1.o (sP_0 hg2), ?_⟩
          rw [lP_0_15 hS1 hg2]
          rw [lP_0_18 hS1 hg2]
          refine wpM.mono (h G1 A1 ⟨L1, P1, rfl, hS1⟩) (fun rr4 G4 hr => ?_)
          obtain ⟨A4, W4, w4, ⟨L4, P4, rfl, hS4⟩, hy4, rfl, r4, rfl, h⟩ := hr
          refine ⟨r4, rfl, ?_⟩
          have hx4 := Xt.trans hx1 hy4
          have hg5 : PG L4 g := PG.up hy4 hg2
          have ee6 : A4 g 0 = A1 g 0 := hy4.2 _ _ hg2.1 (((nP_0 hS4 hg5)).trans ((nP_0 hS1 hg2)).symm)
          try rw [← ee6]
          refine ⟨fun hc => ?_, fun hc => ?_⟩
          · have h := h.1 hc
            exact wp.mono (h G4 A4 ⟨L4, P4, rfl, hS4⟩) (fun r G' q => qx_trans hx4 q)
          · have h := h.2 hc
            exact wp.mono (h G4 A4 ⟨L4, P4, rfl, hS4⟩) (fun r G' q => qx_trans hx4 q)
theorem w_X3_mostRobust_61 {E : EE} {d : Nat} {V : VH} {K : Int32 → VH → Prop} {g : Nat} {x1 : Int32} {x2 : Int32} {x3 : Int32} (hg : PG (vL V) g) (h0 : 0 < d) (h : ∀ V6 : VH, V6 = cpyJ V g 28 g 31 (Int32.toNatClampNeg 0) (Int32.toNatClampNeg 0) (Int32.toNatClampNeg 3) → vwp E d M_X3_mostRobust 77 [some (sl g 0), some (wi x2), some (wi x2), some (wi x3)] [] V6 (zi K)) : vwp E d M_X3_mostRobust 61 [some (sl g 0), some (wi x1), some (wi x2), some (wi x3)] [] V (zi K) := by
  intro G A hR
  obtain ⟨L, P, rfl, hS⟩ := hR
  have hx := Xt.refl (V := pl G A L P) (A := A)
  show wp E d M_X3_mostRobust 61 [some (vr (A g 0)), some (vi x1), some (vi x2), some (vi x3)] [] G _
  refine v_X3_mostRobust_61 h0 ?_
  refine ⟨hS.o (sP_0 hg), ?_⟩
  rw [lP_0_15 hS hg]
  rw [lP_0_18 hS hg]
  refine ⟨hS.o (sP_28 hg), ?_⟩
  refine ⟨hS.o (sP_31 hg), ?_⟩
  refine ⟨by decide, ?_⟩
  refine ⟨by decide, ?_⟩
  refine ⟨by decide, ?_⟩
  refine ⟨by rw [(nP_28 hS hg)]; decide, ?_⟩
  refine ⟨by rw [(nP_31 hS hg)]; decide, ?_⟩
  have hS6 : Sh E (cpJ G (A g 28) (A g 31) (Int32.toNatClampNeg 0) (Int32.toNatClampNeg 0) (Int32.toNatClampNeg 3)) A L P := Sh_cpJ (rfl : cpJ G (A g 28) (A g 31) (Int32.toNatClampNeg 0) (Int32.toNatClampNeg 0) (Int32.toNatClampNeg 3) = cpJ G (A g 28) (A g 31) (Int32.toNatClampNeg 0) (Int32.toNatClampNeg 0) (Int32.toNatClampNeg 3)) hS
  have h := h (pl (cpJ G (A g 28) (A g 31) (Int32.toNatClampNeg 0) (Int32.toNatClampNeg 0) (Int32.toNatClampNeg 3)) A L P) (pl_cpJ (rfl : cpJ G (A g 28) (A g 31) (Int32.toNatClampNeg 0) (Int32.toNatClampNeg 0) (Int32.toNatClampNeg 3) = cpJ G (A g 28) (A g 31) (Int32.toNatClampNeg 0) (Int32.toNatClampNeg 0) (Int32.toNatClampNeg 3)) hS (sP_31 hg))
  have hx6 : Xt (pl G A L P) A (pl (cpJ G (A g 28) (A g 31) (Int32.toNatClampNeg 0) (Int32.toNatClampNeg 0) (Int32.toNatClampNeg 3)) A L P) A := Xt_cpJ (rfl : cpJ G (A g 28) (A g 31) (Int32.toNatClampNeg 0) (Int32.toNatClampNeg 0) (Int32.toNatClampNeg 3) = cpJ G (A g 28) (A g 31) (Int32.toNatClampNeg 0) (Int32.toNatClampNeg 0) (Int32.toNatClampNeg 3)) hx
  exact wp.mono (h (cpJ G (A g 28) (A g 31) (Int32.toNatClampNeg 0) (Int32.toNatClampNeg 0) (Int32.toNatClampNeg 3)) A ⟨L, P, rfl, hS6⟩) (fun r G' q => qx_trans hx6 q)
theorem w_X3_mostRobust_77 {E : EE} {d : Nat} {V : VH} {K : Int32 → VH → Prop} {g : Nat} {x1 : Int32} {x2 : Int32} {x3 : Int32} (hg : PG (vL V) g) (h0 : 0 < d) (h : vMI E (d - 1) M_X7_following [sl g 5, wi x2, wi (vI V g 0 9)] V (fun r1 V1 => vwp E d M_X3_mostRobust 20 [some (sl g 0), some (wi x1), some (wi r1), some (wi (x3 + 1))] [] V1 (zi K))) : vwp E d M_X3_mostRobust 77 [some (sl g 0), some (wi x1), some (wi x2), some (wi x3)] [] V (zi K) := by
  intro G A hR
  obtain ⟨L, P, rfl, hS⟩ := hR
  have hx := Xt.refl (V := pl G A L P) (A := A)
  show wp E d M_X3_mostRobust 77 [some (vr (A g 0)), some (vi x1), some (vi x2), some (vi x3)] [] G _
  refine v_X3_mostRobust_77 h0 ?_
  refine ⟨hS.o (sP_0 hg), ?_⟩
  rw [lP_0_4 hS hg]
  refine ⟨hS.o (sP_5 hg), ?_⟩
  refine wpM.mono (h G A ⟨L, P, rfl, hS⟩) (fun rr1 G1 hr => ?_)
  obtain ⟨A1, W1, w1, ⟨L1, P1, rfl, hS1⟩, hy1, rfl, r1, rfl, h⟩ := hr
  refine ⟨r1, rfl, ?_⟩
  have hx1 := Xt.trans hx hy1
  have hg2 : PG L1 g := PG.up hy1 hg
  have ee3 : A1 g 0 = A g 0 := hy1.2 _ _ hg.1 (((nP_0 hS1 hg2)).trans ((nP_0 hS hg)).symm)
  try rw [← ee3]
  exact wp.mono (h G1 A1 ⟨L1, P1, rfl, hS1⟩) (fun r G' q => qx_trans hx1 q)
theorem w_X3_isLess_0 {E : EE} {d : Nat} {V : VH} {K : Int32 → VH → Prop} {a0 f0 : Nat} {a1 f1 : Nat} (hA0 : SL (vL V) a0 f0 15) (hA1 : SL (vL V) a1 f1 15) (h : vwp E d M_X3_isLess 2 [some (sl a0 f0), some (sl a1 f1), some (wi 0)] [] V (zi K)) : vMI E d M_X3_isLess [sl a0 f0, sl a1 f1] V K := by
  intro G A hR
  obtain ⟨L, P, rfl, hS⟩ := hR
  have hx := Xt.refl (V := pl G A L P) (A := A)
  show wpM E d M_X3_isLess [vr (A a0 f0), vr (A a1 f1)] G _
  refine wpM_of mk_X3_isLess (Nat.le_of_ble_eq_true rfl) ?_
  refine v_X3_isLess_0 ?_
  exact wp.mono (h G A ⟨L, P, rfl, hS⟩) (fun r G' q => qx_trans hx q)
theorem w_X3_isLess_2 {E : EE} {d : Nat} {V : VH} {K : Int32 → VH → Prop} {a0 f0 : Nat} {a1 f1 : Nat} {x2 : Int32} (hA0 : SL (vL V) a0 f0 15) (hA1 : SL (vL V) a1 f1 15) (h : (3 ≤ x2 → K 0 V) ∧ (¬ (3 ≤ x2) → vp_in x2 (vN V a0 f0) ∧ (vp_in x2 (vN V a1 f1) ∧ (((vJ V a0 f0 (Int32.toNatClampNeg x2)) = (vJ V a1 f1 (Int32.toNatClampNeg x2)) → vwp E d M_X3_isLess 2 [some (sl a0 f0), some (sl a1 f1), some (wi (x2 + 1))] [] V (zi K)) ∧ (¬ ((vJ V a0 f0 (Int32.toNatClampNeg x2)) = (vJ V a1 f1 (Int32.toNatClampNeg x2))) → vp_in x2 (vN V a0 f0) ∧ (vp_in x2 (vN V a1 f1) ∧ (((vJ V a1 f1 (Int32.toNatClampNeg x2)) ≤ (vJ V a0 f0 (Int32.toNatClampNeg x2)) → K 0 V) ∧ (¬ ((vJ V a1 f1 (Int32.toNatClampNeg x2)) ≤ (vJ V a0 f0 (Int32.toNatClampNeg x2))) → K 1 V)))))))) : vwp E d M_X3_isLess 2 [some (sl a0 f0), some (sl a1 f1), some (wi x2)] [] V (zi K) := by
  intro G A hR
  obtain ⟨L, P, rfl, hS⟩ := hR
  have hx := Xt.refl (V := pl G A L P) (A := A)
  show wp E d M_X3_isLess 2 [some (vr (A a0 f0)), some (vr (A a1 f1)), some (vi x2)] [] G _
  refine v_X3_isLess_2 ?_
  refine ⟨fun hc => ?_, fun hc => ?_⟩
  · have h := h.1 hc
    exact qx_i hS hx h
  · have h := h.2 hc
    refine ⟨hS.o hA0, ?_⟩
    obtain ⟨hi1, h⟩ := h
    refine ⟨hi1, ?_⟩
    refine ⟨hS.o hA1, ?_⟩
    obtain ⟨hi2, h⟩ := h
    refine ⟨hi2, ?_⟩
    refine ⟨fun hc => ?_, fun hc => ?_⟩
    · have h := h.1 hc
      exact wp.mono (h G A ⟨L, P, rfl, hS⟩) (fun r G' q => qx_trans hx q)
    · have h := h.2 hc
      obtain ⟨hi3, h⟩ := h
      refine ⟨hi3, ?_⟩
      obtain ⟨hi4, h⟩ := h
      refine ⟨hi4, ?_⟩
      refine ⟨fun hc => ?_, fun hc => ?_⟩
      · have h := h.1 hc
        exact qx_i hS hx h
      · have h := h.2 hc
        exact qx_i hS hx h
theorem w_X3_isFact_0 {E : EE} {d : Nat} {V : VH} {K : Int32 → VH → Prop} {g : Nat} {x1 : Int32} (hg : PG (vL V) g) (h : (x1 < 0 → K 0 V) ∧ (¬ (x1 < 0) → ((vI V g 4 (Int32.toNatClampNeg 0)) ≤ x1 → K 0 V) ∧ (¬ ((vI V g 4 (Int32.toNatClampNeg 0)) ≤ x1) → K 1 V))) : vMI E d M_X3_isFact [sl g 0, wi x1] V K := by
  intro G A hR
  obtain ⟨L, P, rfl, hS⟩ := hR
  have hx := Xt.refl (V := pl G A L P) (A := A)
  show wpM E d M_X3_isFact [vr (A g 0), vi x1] G _
  refine wpM_of mk_X3_isFact (Nat.le_of_ble_eq_true rfl) ?_
  refine v_X3_isFact_0 ?_
  refine ⟨fun hc => ?_, fun hc => ?_⟩
  · have h := h.1 hc
    exact qx_i hS hx h
  · have h := h.2 hc
    refine ⟨hS.o (sP_0 hg), ?_⟩
    rw [lP_0_3 hS hg]
    refine ⟨hS.o (sP_4 hg), ?_⟩
    refine ⟨by first | (rw [(nP_4 hS hg)]; unfold vp_in; decide) | exact (congrArg (vp_in _) (nP_4 hS hg)).mpr (by unfold vp_in; decide) | (unfold vp_in; decide), ?_⟩
    refine ⟨fun hc => ?_, fun hc => ?_⟩
    · have h := h.1 hc
      exact qx_i hS hx h
    · have h := h.2 hc
      exact qx_i hS hx h
theorem w_X3_addFuture_0 {E : EE} {d : Nat} {V : VH} {K : Int32 → VH → Prop} {g : Nat} {x1 : Int32} (hg : PG (vL V) g) (h : ((vI V g 0 11) < 6 → vp_in (vI V g 0 11) 6 ∧ (∀ V2 : VH, V2 = wrI V g 29 (Int32.toNatClampNeg (vI V g 0 11)) x1 → vp_in (vI V2 g 0 11) 6 ∧ (∀ V4 : VH, V4 = wrI V2 g 25 (Int32.toNatClampNeg (vI V2 g 0 11)) 0 → ∀ V5 : VH, V5 = wrI V4 g 0 11 ((vI V4 g 0 11) + 1) → K (vI V4 g 0 11) V5))) ∧ (¬ ((vI V g 0 11) < 6) → K (-100000) V)) : vMI E d M_X3_addFuture [sl g 0, wi x1] V K := by
  intro G A hR
  obtain ⟨L, P, rfl, hS⟩ := hR
  have hx := Xt.refl (V := pl G A L P) (A := A)
  show wpM E d M_X3_addFuture [vr (A g 0), vi x1] G _
  refine wpM_of mk_X3_addFuture (Nat.le_of_ble_eq_true rfl) ?_
  refine v_X3_addFuture_0 ?_
  refine ⟨hS.o (sP_0 hg), ?_⟩
  refine ⟨fun hc => ?_, fun hc => ?_⟩
  · have h := h.1 hc
    rw [lP_0_16 hS hg]
    refine ⟨hS.o (sP_29 hg), ?_⟩
    obtain ⟨hi1, h⟩ := h
    refine ⟨by first | (rw [(nP_29 hS hg)]; exact hi1) | exact (congrArg (vp_in _) (nP_29 hS hg)).mpr hi1 | exact hi1, ?_⟩
    intro G2 eG2
    have hS2 : Sh E G2 A L P := Sh_sI eG2 hS (sP_29 hg) (okT_0 rfl)
    have h := h (pl G2 A L P) (pl_sI eG2 hS (sP_29 hg))
    have hx2 : Xt (pl G A L P) A (pl G2 A L P) A := Xt_sI eG2 hx
    rw [lP_0_12 hS2 hg]
    refine ⟨hS2.o (sP_25 hg), ?_⟩
    obtain ⟨hi3, h⟩ := h
    refine ⟨by first | (rw [(nP_25 hS2 hg)]; exact hi3) | exact (congrArg (vp_in _) (nP_25 hS2 hg)).mpr hi3 | exact hi3, ?_⟩
    intro G4 eG4
    have hS4 : Sh E G4 A L P := Sh_sI eG4 hS2 (sP_25 hg) (okT_0 rfl)
    have h := h (pl G4 A L P) (pl_sI eG4 hS2 (sP_25 hg))
    have hx4 : Xt (pl G A L P) A (pl G4 A L P) A := Xt_sI eG4 hx2
    intro G5 eG5
    have hS5 : Sh E G5 A L P := Sh_sI eG5 hS4 (sP_0 hg) (okT_0 rfl)
    have h := h (pl G5 A L P) (pl_sI eG5 hS4 (sP_0 hg))
    have hx5 : Xt (pl G A L P) A (pl G5 A L P) A := Xt_sI eG5 hx4
    exact qx_i hS5 hx5 h
  · have h := h.2 hc
    exact qx_i hS hx h
theorem w_X3_firstBestWith_0 {E : EE} {d : Nat} {V : VH} {K : Int32 → VH → Prop} {g : Nat} {x1 : Int32} {x2 : Int32} (hg : PG (vL V) g) (h0 : 0 < d) (h : vMI E (d - 1) M_X7_placeOfValue [sl g 5, wi x1, wi x2] V (fun r1 V1 => (0 ≤ r1 → vMI E (d - 1) M_X9_gather [sl g 19, sl g 0, wi (vI V1 g 0 9)] V1 (fun r4 V4 => vMI E (d - 1) M_X9_keepValue [sl g 19, sl g 5, wi x1, wi r1] V4 (fun r7 V7 => vMI E (d - 1) M_X9_keepBest [sl g 19] V7 (fun r10 V10 => (r10 ≤ 0 → K (-1) V10) ∧ (¬ (r10 ≤ 0) → vp_in 0 (vN V10 g 20) ∧ (K (vI V10 g 20 (Int32.toNatClampNeg 0)) V10)))))) ∧ (¬ (0 ≤ r1) → K (-1) V1))) : vMI E d M_X3_firstBestWith [sl g 0, wi x1, wi x2] V K := by
  intro G A hR
  obtain ⟨L, P, rfl, hS⟩ := hR
  have hx := Xt.refl (V := pl G A L P) (A := A)
  show wpM E d M_X3_firstBestWith [vr (A g 0), vi x1, vi x2] G _
  refine wpM_of mk_X3_firstBestWith (Nat.le_of_ble_eq_true rfl) ?_
  refine v_X3_firstBestWith_0 h0 ?_
  refine ⟨hS.o (sP_0 hg), ?_⟩
  rw [lP_0_4 hS hg]
  refine ⟨hS.o (sP_5 hg), ?_⟩
  refine wpM.mono (h G A ⟨L, P, rfl, hS⟩) (fun rr1 G1 hr => ?_)
  obtain ⟨A1, W1, w1, ⟨L1, P1, rfl, hS1⟩, hy1, rfl, r1, rfl, h⟩ := hr
  refine ⟨r1, rfl, ?_⟩
  have hx1 := Xt.trans hx hy1
  have hg2 : PG L1 g := PG.up hy1 hg
  have ee3 : A1 g 0 = A g 0 := hy1.2 _ _ hg.1 (((nP_0 hS1 hg2)).trans ((nP_0 hS hg)).symm)
  try rw [← ee3]
  refine ⟨fun hc => ?_, fun hc => ?_⟩
  · have h := h.1 hc
    refine ⟨hS1.o (sP_0 hg2), ?_⟩
    rw [lP_0_6 hS1 hg2]
    refine ⟨hS1.o (sP_19 hg2), ?_⟩
    refine wpM.mono (h G1 A1 ⟨L1, P1, rfl, hS1⟩) (fun rr4 G4 hr => ?_)
    obtain ⟨A4, W4, w4, ⟨L4, P4, rfl, hS4⟩, hy4, rfl, r4, rfl, h⟩ := hr
    refine ⟨r4, rfl, ?_⟩
    have hx4 := Xt.trans hx1 hy4
    have hg5 : PG L4 g := PG.up hy4 hg2
    have ee6 : A4 g 0 = A1 g 0 := hy4.2 _ _ hg2.1 (((nP_0 hS4 hg5)).trans ((nP_0 hS1 hg2)).symm)
    try rw [← ee6]
    refine ⟨hS4.o (sP_0 hg5), ?_⟩
    rw [lP_0_6 hS4 hg5]
    rw [lP_0_4 hS4 hg5]
    refine ⟨hS4.o (sP_19 hg5), ?_⟩
    refine wpM.mono (h G4 A4 ⟨L4, P4, rfl, hS4⟩) (fun rr7 G7 hr => ?_)
    obtain ⟨A7, W7, w7, ⟨L7, P7, rfl, hS7⟩, hy7, rfl, r7, rfl, h⟩ := hr
    refine ⟨r7, rfl, ?_⟩
    have hx7 := Xt.trans hx4 hy7
    have hg8 : PG L7 g := PG.up hy7 hg5
    have ee9 : A7 g 0 = A4 g 0 := hy7.2 _ _ hg5.1 (((nP_0 hS7 hg8)).trans ((nP_0 hS4 hg5)).symm)
    try rw [← ee9]
    refine ⟨hS7.o (sP_0 hg8), ?_⟩
    rw [lP_0_6 hS7 hg8]
    refine ⟨hS7.o (sP_19 hg8), ?_⟩
    refine wpM.mono (h G7 A7 ⟨L7, P7, rfl, hS7⟩) (fun rr10 G10 hr => ?_)
    obtain ⟨A10, W10, w10, ⟨L10, P10, rfl, hS10⟩, hy10, rfl, r10, rfl, h⟩ := hr
    refine ⟨r10, rfl, ?_⟩
    have hx10 := Xt.trans hx7 hy10
    have hg11 : PG L10 g := PG.up hy10 hg8
    have ee12 : A10 g 0 = A7 g 0 := hy10.2 _ _ hg8.1 (((nP_0 hS10 hg11)).trans ((nP_0 hS7 hg8)).symm)
    try rw [← ee12]
    refine ⟨fun hc => ?_, fun hc => ?_⟩
    · have h := h.1 hc
      exact qx_i hS10 hx10 h
    · have h := h.2 hc
      refine ⟨hS10.o (sP_0 hg11), ?_⟩
      rw [lP_0_6 hS10 hg11]
      refine ⟨hS10.o (sP_19 hg11), ?_⟩
      rw [lP_19_2 hS10 hg11]
      refine ⟨hS10.o (sP_20 hg11), ?_⟩
      obtain ⟨hi13, h⟩ := h
      refine ⟨hi13, ?_⟩
      exact qx_i hS10 hx10 h
  · have h := h.2 hc
    exact qx_i hS1 hx1 h
theorem w_X3_firstWorseRule_0 {E : EE} {d : Nat} {V : VH} {K : Int32 → VH → Prop} {g : Nat} {x1 : Int32} {x2 : Int32} (hg : PG (vL V) g) (h : vwp E d M_X3_firstWorseRule 2 [some (sl g 0), some (wi x1), some (wi x2), some (wi 0), none] [] V (zi K)) : vMI E d M_X3_firstWorseRule [sl g 0, wi x1, wi x2] V K := by
  intro G A hR
  obtain ⟨L, P, rfl, hS⟩ := hR
  have hx := Xt.refl (V := pl G A L P) (A := A)
  show wpM E d M_X3_firstWorseRule [vr (A g 0), vi x1, vi x2] G _
  refine wpM_of mk_X3_firstWorseRule (Nat.le_of_ble_eq_true rfl) ?_
  refine v_X3_firstWorseRule_0 ?_
  exact wp.mono (h G A ⟨L, P, rfl, hS⟩) (fun r G' q => qx_trans hx q)
theorem w_X3_firstWorseRule_2 {E : EE} {d : Nat} {V : VH} {K : Int32 → VH → Prop} {g : Nat} {x1 : Int32} {x2 : Int32} {x3 : Int32} (hg : PG (vL V) g) (h0 : 0 < d) (h : ((vI V g 4 (Int32.toNatClampNeg 2)) ≤ x3 → K (-1) V) ∧ (¬ ((vI V g 4 (Int32.toNatClampNeg 2)) ≤ x3) → vMV E (d - 1) M_X2_look [sl g 9, sl g 5, wi x1] V (fun V2 => vMI E (d - 1) M_X2_run [sl g 9, wi x3, sl g 23] V2 (fun r5 V5 => vMV E (d - 1) M_X2_look [sl g 9, sl g 5, wi x2] V5 (fun V8 => vMI E (d - 1) M_X2_run [sl g 9, wi x3, sl g 23] V8 (fun r11 V11 => (r5 ≤ r11 → vwp E d M_X3_firstWorseRule 2 [some (sl g 0), some (wi x1), some (wi x2), some (wi (x3 + 1)), none] [] V11 (zi K)) ∧ (¬ (r5 ≤ r11) → K x3 V11))))))) : vwp E d M_X3_firstWorseRule 2 [some (sl g 0), some (wi x1), some (wi x2), some (wi x3), none] [] V (zi K) := by
  intro G A hR
  obtain ⟨L, P, rfl, hS⟩ := hR
  have hx := Xt.refl (V := pl G A L P) (A := A)
  show wp E d M_X3_firstWorseRule 2 [some (vr (A g 0)), some (vi x1), some (vi x2), some (vi x3), none] [] G _
  refine v_X3_firstWorseRule_2 h0 ?_
  refine ⟨hS.o (sP_0 hg), ?_⟩
  rw [lP_0_3 hS hg]
  refine ⟨hS.o (sP_4 hg), ?_⟩
  refine ⟨by first | (rw [(nP_4 hS hg)]; unfold vp_in; decide) | exact (congrArg (vp_in _) (nP_4 hS hg)).mpr (by unfold vp_in; decide) | (unfold vp_in; decide), ?_⟩
  refine ⟨fun hc => ?_, fun hc => ?_⟩
  · have h := h.1 hc
    exact qx_i hS hx h
  · have h := h.2 hc
    rw [lP_0_5 hS hg]
    rw [lP_0_4 hS hg]
    refine ⟨hS.o (sP_9 hg), ?_⟩
    refine wpM.mono (h G A ⟨L, P, rfl, hS⟩) (fun rr2 G2 hr => ?_)
    obtain ⟨A2, W2, w2, ⟨L2, P2, rfl, hS2⟩, hy2, rfl, rfl, h⟩ := hr
    refine ⟨rfl, ?_⟩
    have hx2 := Xt.trans hx hy2
    have hg3 : PG L2 g := PG.up hy2 hg
    have ee4 : A2 g 0 = A g 0 := hy2.2 _ _ hg.1 (((nP_0 hS2 hg3)).trans ((nP_0 hS hg)).symm)
    try rw [← ee4]
    refine ⟨hS2.o (sP_0 hg3), ?_⟩
    rw [lP_0_5 hS2 hg3]
    rw [lP_0_7 hS2 hg3]
    refine ⟨hS2.o (sP_9 hg3), ?_⟩
    refine wpM.mono (h G2 A2 ⟨L2, P2, rfl, hS2⟩) (fun rr5 G5 hr => ?_)
    obtain ⟨A5, W5, w5, ⟨L5, P5, rfl, hS5⟩, hy5, rfl, r5, rfl, h⟩ := hr
    refine ⟨r5, rfl, ?_⟩
    have hx5 := Xt.trans hx2 hy5
    have hg6 : PG L5 g := PG.up hy5 hg3
    have ee7 : A5 g 0 = A2 g 0 := hy5.2 _ _ hg3.1 (((nP_0 hS5 hg6)).trans ((nP_0 hS2 hg3)).symm)
    try rw [← ee7]
    refine ⟨hS5.o (sP_0 hg6), ?_⟩
    rw [lP_0_5 hS5 hg6]
    rw [lP_0_4 hS5 hg6]
    refine ⟨hS5.o (sP_9 hg6), ?_⟩
    refine wpM.mono (h G5 A5 ⟨L5, P5, rfl, hS5⟩) (fun rr8 G8 hr => ?_)
    obtain ⟨A8, W8, w8, ⟨L8, P8, rfl, hS8⟩, hy8, rfl, rfl, h⟩ := hr
    refine ⟨rfl, ?_⟩
    have hx8 := Xt.trans hx5 hy8
    have hg9 : PG L8 g := PG.up hy8 hg6
    have ee10 : A8 g 0 = A5 g 0 := hy8.2 _ _ hg6.1 (((nP_0 hS8 hg9)).trans ((nP_0 hS5 hg6)).symm)
    try rw [← ee10]
    refine ⟨hS8.o (sP_0 hg9), ?_⟩
    rw [lP_0_5 hS8 hg9]
    rw [lP_0_7 hS8 hg9]
    refine ⟨hS8.o (sP_9 hg9), ?_⟩
    refine wpM.mono (h G8 A8 ⟨L8, P8, rfl, hS8⟩) (fun rr11 G11 hr => ?_)
    obtain ⟨A11, W11, w11, ⟨L11, P11, rfl, hS11⟩, hy11, rfl, r11, rfl, h⟩ := hr
    refine ⟨r11, rfl, ?_⟩
    have hx11 := Xt.trans hx8 hy11
    have hg12 : PG L11 g := PG.up hy11 hg9
    have ee13 : A11 g 0 = A8 g 0 := hy11.2 _ _ hg9.1 (((nP_0 hS11 hg12)).trans ((nP_0 hS8 hg9)).symm)
    try rw [← ee13]
    refine ⟨fun hc => ?_, fun hc => ?_⟩
    · have h := h.1 hc
      exact wp.mono (h G11 A11 ⟨L11, P11, rfl, hS11⟩) (fun r G' q => qx_trans hx11 q)
    · have h := h.2 hc
      exact qx_i hS11 hx11 h
theorem w_X3_isRule_0 {E : EE} {d : Nat} {V : VH} {K : Int32 → VH → Prop} {g : Nat} {x1 : Int32} (hg : PG (vL V) g) (h : (x1 < 0 → K 0 V) ∧ (¬ (x1 < 0) → ((vI V g 4 (Int32.toNatClampNeg 2)) ≤ x1 → K 0 V) ∧ (¬ ((vI V g 4 (Int32.toNatClampNeg 2)) ≤ x1) → K 1 V))) : vMI E d M_X3_isRule [sl g 0, wi x1] V K := by
  intro G A hR
  obtain ⟨L, P, rfl, hS⟩ := hR
  have hx := Xt.refl (V := pl G A L P) (A := A)
  show wpM E d M_X3_isRule [vr (A g 0), vi x1] G _
  refine wpM_of mk_X3_isRule (Nat.le_of_ble_eq_true rfl) ?_
  refine v_X3_isRule_0 ?_
  refine ⟨fun hc => ?_, fun hc => ?_⟩
  · have h := h.1 hc
    exact qx_i hS hx h
  · have h := h.2 hc
    refine ⟨hS.o (sP_0 hg), ?_⟩
    rw [lP_0_3 hS hg]
    refine ⟨hS.o (sP_4 hg), ?_⟩
    refine ⟨by first | (rw [(nP_4 hS hg)]; unfold vp_in; decide) | exact (congrArg (vp_in _) (nP_4 hS hg)).mpr (by unfold vp_in; decide) | (unfold vp_in; decide), ?_⟩
    refine ⟨fun hc => ?_, fun hc => ?_⟩
    · have h := h.1 hc
      exact qx_i hS hx h
    · have h := h.2 hc
      exact qx_i hS hx h
theorem w_X3_bestLacking_0 {E : EE} {d : Nat} {V : VH} {K : Int32 → VH → Prop} {g : Nat} {x1 : Int32} (hg : PG (vL V) g) (h0 : 0 < d) (h : vMI E (d - 1) M_X7_lowest [sl g 5, wi (vI V g 0 8), wi (vI V g 0 9)] V (fun r1 V1 => vwp E d M_X3_bestLacking 36 [some (sl g 0), some (wi x1), some (wi 0), some (wi ((vI V g 9 0) &&& ((1 <<< (x1 &&& 31)) ^^^ (-1)))), some (wi r1), some (wi 0), none] [] V1 (zi K))) : vMI E d M_X3_bestLacking [sl g 0, wi x1] V K := by
  intro G A hR
  obtain ⟨L, P, rfl, hS⟩ := hR
  have hx := Xt.refl (V := pl G A L P) (A := A)
  show wpM E d M_X3_bestLacking [vr (A g 0), vi x1] G _
  refine wpM_of mk_X3_bestLacking (Nat.le_of_ble_eq_true rfl) ?_
  refine v_X3_bestLacking_0 h0 ?_
  refine ⟨hS.o (sP_0 hg), ?_⟩
  rw [lP_0_5 hS hg]
  refine ⟨hS.o (sP_9 hg), ?_⟩
  rw [lP_0_4 hS hg]
  refine ⟨hS.o (sP_5 hg), ?_⟩
  refine wpM.mono (h G A ⟨L, P, rfl, hS⟩) (fun rr1 G1 hr => ?_)
  obtain ⟨A1, W1, w1, ⟨L1, P1, rfl, hS1⟩, hy1, rfl, r1, rfl, h⟩ := hr
  refine ⟨r1, rfl, ?_⟩
  have hx1 := Xt.trans hx hy1
  have hg2 : PG L1 g := PG.up hy1 hg
  have ee3 : A1 g 0 = A g 0 := hy1.2 _ _ hg.1 (((nP_0 hS1 hg2)).trans ((nP_0 hS hg)).symm)
  try rw [← ee3]
  exact wp.mono (h G1 A1 ⟨L1, P1, rfl, hS1⟩) (fun r G' q => qx_trans hx1 q)
theorem w_X3_bestLacking_36 {E : EE} {d : Nat} {V : VH} {K : Int32 → VH → Prop} {g : Nat} {x1 : Int32} {x2 : Int32} {x3 : Int32} {x4 : Int32} {x5 : Int32} (hg : PG (vL V) g) (h0 : 0 < d) (h : ((vI V g 5 1) ≤ x5 → bz x2 ∧ K x2 V) ∧ (¬ ((vI V g 5 1) ≤ x5) → (x4 < 0 → bz x2 ∧ K x2 V) ∧ (¬ (x4 < 0) → vMI E (d - 1) M_X9_setOf [sl g 19, wi x4] V (fun r1 V1 => (¬ (r1 &&& x3) = 0 → vwp E d M_X3_bestLacking 188 [some (sl g 0), some (wi x1), some (wi x2), some (wi x3), some (wi x4), some (wi x5), none] [] V1 (zi K)) ∧ ((r1 &&& x3) = 0 → vwp E d M_X3_bestLacking 70 [some (sl g 0), some (wi x1), some (wi x2), some (wi x3), some (wi x4), some (wi x5), some (wi 0)] [] V1 (zi K)))))) : vwp E d M_X3_bestLacking 36 [some (sl g 0), some (wi x1), some (wi x2), some (wi x3), some (wi x4), some (wi x5), none] [] V (zi K) := by
  intro G A hR
  obtain ⟨L, P, rfl, hS⟩ := hR
  have hx := Xt.refl (V := pl G A L P) (A := A)
  show wp E d M_X3_bestLacking 36 [some (vr (A g 0)), some (vi x1), some (vi x2), some (vi x3), some (vi x4), some (vi x5), none] [] G _
  refine v_X3_bestLacking_36 h0 ?_
  refine ⟨hS.o (sP_0 hg), ?_⟩
  rw [lP_0_4 hS hg]
  refine ⟨hS.o (sP_5 hg), ?_⟩
  refine ⟨fun hc => ?_, fun hc => ?_⟩
  · have h := h.1 hc
    exact ⟨bz_ok h.1, qx_i hS hx h.2⟩
  · have h := h.2 hc
    refine ⟨fun hc => ?_, fun hc => ?_⟩
    · have h := h.1 hc
      exact ⟨bz_ok h.1, qx_i hS hx h.2⟩
    · have h := h.2 hc
      rw [lP_0_6 hS hg]
      refine ⟨hS.o (sP_19 hg), ?_⟩
      refine wpM.mono (h G A ⟨L, P, rfl, hS⟩) (fun rr1 G1 hr => ?_)
      obtain ⟨A1, W1, w1, ⟨L1, P1, rfl, hS1⟩, hy1, rfl, r1, rfl, h⟩ := hr
      refine ⟨r1, rfl, ?_⟩
      have hx1 := Xt.trans hx hy1
      have hg2 : PG L1 g := PG.up hy1 hg
      have ee3 : A1 g 0 = A g 0 := hy1.2 _ _ hg.1 (((nP_0 hS1 hg2)).trans ((nP_0 hS hg)).symm)
      try rw [← ee3]
      refine ⟨fun hc => ?_, fun hc => ?_⟩
      · have h := h.1 hc
        exact wp.mono (h G1 A1 ⟨L1, P1, rfl, hS1⟩) (fun r G' q => qx_trans hx1 q)
      · have h := h.2 hc
        exact wp.mono (h G1 A1 ⟨L1, P1, rfl, hS1⟩) (fun r G' q => qx_trans hx1 q)
theorem w_X3_bestLacking_70 {E : EE} {d : Nat} {V : VH} {K : Int32 → VH → Prop} {g : Nat} {x1 : Int32} {x2 : Int32} {x3 : Int32} {x4 : Int32} {x5 : Int32} {x6 : Int32} (hg : PG (vL V) g) (h0 : 0 < d) (h : (3 ≤ x6 → vMV E (d - 1) M_X2_look [sl g 9, sl g 5, wi x4] V (fun V1 => vp_in x1 30 ∧ (vp_in (vI V1 g 10 (Int32.toNatClampNeg x1)) 3 ∧ (vp_in x1 24 ∧ (vMI E (d - 1) M_X2_run [sl g 9, wi x1, sl g 23] V1 (fun r7 V7 => vp_in (vI V1 g 10 (Int32.toNatClampNeg x1)) 3 ∧ (∀ V12 : VH, V12 = wrJ V7 g 31 (Int32.toNatClampNeg (vI V1 g 10 (Int32.toNatClampNeg x1))) ((vJ V1 g 31 (Int32.toNatClampNeg (vI V1 g 10 (Int32.toNatClampNeg x1)))) - ((Int32.toInt64 (vI V1 g 11 (Int32.toNatClampNeg x1))) * (Int32.toInt64 r7))) → (x2 = 0 → vwp E d M_X3_bestLacking 172 [some (sl g 0), some (wi x1), some (wi x2), some (wi x3), some (wi x4), some (wi x5), some (wi x6)] [] V12 (zi K)) ∧ (¬ (x2 = 0) → vMI E (d - 1) M_X3_isLess [sl g 31, sl g 28] V12 (fun r13 V13 => (r13 = 0 → vwp E d M_X3_bestLacking 186 [some (sl g 0), some (wi x1), some (wi x2), some (wi x3), some (wi x4), some (wi x5), some (wi x6)] [] V13 (zi K)) ∧ (¬ (r13 = 0) → vwp E d M_X3_bestLacking 172 [some (sl g 0), some (wi x1), some (wi x2), some (wi x3), some (wi x4), some (wi x5), some (wi x6)] [] V13 (zi K))))))))))) ∧ (¬ (3 ≤ x6) → vMJ E (d - 1) M_X9_scoreOf [sl g 19, wi x4, wi x6] V (fun r16 V16 => vp_in x6 3 ∧ (∀ V21 : VH, V21 = wrJ V16 g 31 (Int32.toNatClampNeg x6) r16 → vwp E d M_X3_bestLacking 70 [some (sl g 0), some (wi x1), some (wi x2), some (wi x3), some (wi x4), some (wi x5), some (wi (x6 + 1))] [] V21 (zi K))))) : vwp E d M_X3_bestLacking 70 [some (sl g 0), some (wi x1), some (wi x2), some (wi x3), some (wi x4), some (wi x5), some (wi x6)] [] V (zi K) := by
  intro G A hR
  obtain ⟨L, P, rfl, hS⟩ := hR
  have hx := Xt.refl (V := pl G A L P) (A := A)
  show wp E d M_X3_bestLacking 70 [some (vr (A g 0)), some (vi x1), some (vi x2), some (vi x3), some (vi x4), some (vi x5), some (vi x6)] [] G _
  refine v_X3_bestLacking_70 h0 ?_
  refine ⟨fun hc => ?_, fun hc => ?_⟩
  · have h := h.1 hc
    refine ⟨hS.o (sP_0 hg), ?_⟩
    rw [lP_0_5 hS hg]
    rw [lP_0_4 hS hg]
    refine ⟨hS.o (sP_9 hg), ?_⟩
    refine wpM.mono (h G A ⟨L, P, rfl, hS⟩) (fun rr1 G1 hr => ?_)
    obtain ⟨A1, W1, w1, ⟨L1, P1, rfl, hS1⟩, hy1, rfl, rfl, h⟩ := hr
    refine ⟨rfl, ?_⟩
    have hx1 := Xt.trans hx hy1
    have hg2 : PG L1 g := PG.up hy1 hg
    have ee3 : A1 g 0 = A g 0 := hy1.2 _ _ hg.1 (((nP_0 hS1 hg2)).trans ((nP_0 hS hg)).symm)
    try rw [← ee3]
    refine ⟨hS1.o (sP_0 hg2), ?_⟩
    rw [lP_0_18 hS1 hg2]
    rw [lP_0_5 hS1 hg2]
    refine ⟨hS1.o (sP_9 hg2), ?_⟩
    rw [lP_9_4 hS1 hg2]
    refine ⟨hS1.o (sP_10 hg2), ?_⟩
    obtain ⟨hi4, h⟩ := h
    refine ⟨by first | (rw [(nP_10 hS1 hg2)]; exact hi4) | exact (congrArg (vp_in _) (nP_10 hS1 hg2)).mpr hi4 | exact hi4, ?_⟩
    refine ⟨hS1.o (sP_31 hg2), ?_⟩
    obtain ⟨hi5, h⟩ := h
    refine ⟨by first | (rw [(nP_31 hS1 hg2)]; exact hi5) | exact (congrArg (vp_in _) (nP_31 hS1 hg2)).mpr hi5 | exact hi5, ?_⟩
    rw [lP_9_5 hS1 hg2]
    refine ⟨hS1.o (sP_11 hg2), ?_⟩
    obtain ⟨hi6, h⟩ := h
    refine ⟨by first | (rw [(nP_11 hS1 hg2)]; exact hi6) | exact (congrArg (vp_in _) (nP_11 hS1 hg2)).mpr hi6 | exact hi6, ?_⟩
    rw [lP_0_7 hS1 hg2]
    refine wpM.mono (h G1 A1 ⟨L1, P1, rfl, hS1⟩) (fun rr7 G7 hr => ?_)
    obtain ⟨A7, W7, w7, ⟨L7, P7, rfl, hS7⟩, hy7, rfl, r7, rfl, h⟩ := hr
    refine ⟨r7, rfl, ?_⟩
    have hx7 := Xt.trans hx1 hy7
    have hg8 : PG L7 g := PG.up hy7 hg2
    have ee9 : A7 g 0 = A1 g 0 := hy7.2 _ _ hg2.1 (((nP_0 hS7 hg8)).trans ((nP_0 hS1 hg2)).symm)
    try rw [← ee9]
    have ee10 : A7 g 31 = A1 g 31 := hy7.2 _ _ hg2.1 (((nP_31 hS7 hg8)).trans ((nP_31 hS1 hg2)).symm)
    try rw [← ee10]
    try rw [show gJ G1 (A7 g 31) = gJ G1 (A1 g 31) from by rw [ee10]]
    refine ⟨hS7.o (sP_31 hg8), ?_⟩
    obtain ⟨hi11, h⟩ := h
    refine ⟨by first | (rw [(nP_31 hS7 hg8)]; exact hi11) | exact (congrArg (vp_in _) (nP_31 hS7 hg8)).mpr hi11 | exact hi11, ?_⟩
    have hS12 : Sh E (sJ G7 (A7 g 31) (Int32.toNatClampNeg (gI G1 (A1 g 10) (Int32.toNatClampNeg x1))) ((gJ G1 (A1 g 31) (Int32.toNatClampNeg (gI G1 (A1 g 10) (Int32.toNatClampNeg x1)))) - ((Int32.toInt64 (gI G1 (A1 g 11) (Int32.toNatClampNeg x1))) * (Int32.toInt64 r7)))) A7 L7 P7 := Sh_sJ (rfl : sJ G7 (A7 g 31) (Int32.toNatClampNeg (gI G1 (A1 g 10) (Int32.toNatClampNeg x1))) ((gJ G1 (A1 g 31) (Int32.toNatClampNeg (gI G1 (A1 g 10) (Int32.toNatClampNeg x1)))) - ((Int32.toInt64 (gI G1 (A1 g 11) (Int32.toNatClampNeg x1))) * (Int32.toInt64 r7))) = sJ G7 (A7 g 31) (Int32.toNatClampNeg (gI G1 (A1 g 10) (Int32.toNatClampNeg x1))) ((gJ G1 (A1 g 31) (Int32.toNatClampNeg (gI G1 (A1 g 10) (Int32.toNatClampNeg x1)))) - ((Int32.toInt64 (gI G1 (A1 g 11) (Int32.toNatClampNeg x1))) * (Int32.toInt64 r7)))) hS7
    have h := h (pl (sJ G7 (A7 g 31) (Int32.toNatClampNeg (gI G1 (A1 g 10) (Int32.toNatClampNeg x1))) ((gJ G1 (A1 g 31) (Int32.toNatClampNeg (gI G1 (A1 g 10) (Int32.toNatClampNeg x1)))) - ((Int32.toInt64 (gI G1 (A1 g 11) (Int32.toNatClampNeg x1))) * (Int32.toInt64 r7)))) A7 L7 P7) (pl_sJ (rfl : sJ G7 (A7 g 31) (Int32.toNatClampNeg (gI G1 (A1 g 10) (Int32.toNatClampNeg x1))) ((gJ G1 (A1 g 31) (Int32.toNatClampNeg (gI G1 (A1 g 10) (Int32.toNatClampNeg x1)))) - ((Int32.toInt64 (gI G1 (A1 g 11) (Int32.toNatClampNeg x1))) * (Int32.toInt64 r7))) = sJ G7 (A7 g 31) (Int32.toNatClampNeg (gI G1 (A1 g 10) (Int32.toNatClampNeg x1))) ((gJ G1 (A1 g 31) (Int32.toNatClampNeg (gI G1 (A1 g 10) (Int32.toNatClampNeg x1)))) - ((Int32.toInt64 (gI G1 (A1 g 11) (Int32.toNatClampNeg x1))) * (Int32.toInt64 r7)))) hS7 (sP_31 hg8))
    have hx12 : Xt (pl G A L P) A (pl (sJ G7 (A7 g 31) (Int32.toNatClampNeg (gI G1 (A1 g 10) (Int32.toNatClampNeg x1))) ((gJ G1 (A1 g 31) (Int32.toNatClampNeg (gI G1 (A1 g 10) (Int32.toNatClampNeg x1)))) - ((Int32.toInt64 (gI G1 (A1 g 11) (Int32.toNatClampNeg x1))) * (Int32.toInt64 r7)))) A7 L7 P7) A7 := Xt_sJ (rfl : sJ G7 (A7 g 31) (Int32.toNatClampNeg (gI G1 (A1 g 10) (Int32.toNatClampNeg x1))) ((gJ G1 (A1 g 31) (Int32.toNatClampNeg (gI G1 (A1 g 10) (Int32.toNatClampNeg x1)))) - ((Int32.toInt64 (gI G1 (A1 g 11) (Int32.toNatClampNeg x1))) * (Int32.toInt64 r7))) = sJ G7 (A7 g 31) (Int32.toNatClampNeg (gI G1 (A1 g 10) (Int32.toNatClampNeg x1))) ((gJ G1 (A1 g 31) (Int32.toNatClampNeg (gI G1 (A1 g 10) (Int32.toNatClampNeg x1)))) - ((Int32.toInt64 (gI G1 (A1 g 11) (Int32.toNatClampNeg x1))) * (Int32.toInt64 r7)))) hx7
    refine ⟨fun hc => ?_, fun hc => ?_⟩
    · have h := h.1 hc
      exact wp.mono (h (sJ G7 (A7 g 31) (Int32.toNatClampNeg (gI G1 (A1 g 10) (Int32.toNatClampNeg x1))) ((gJ G1 (A1 g 31) (Int32.toNatClampNeg (gI G1 (A1 g 10) (Int32.toNatClampNeg x1)))) - ((Int32.toInt64 (gI G1 (A1 g 11) (Int32.toNatClampNeg x1))) * (Int32.toInt64 r7)))) A7 ⟨L7, P7, rfl, hS12⟩) (fun r G' q => qx_trans hx12 q)
    · have h := h.2 hc
      refine ⟨hS12.o (sP_0 hg8), ?_⟩
      rw [lP_0_18 hS7 hg8]
      rw [lP_0_15 hS7 hg8]
      refine wpM.mono (h (sJ G7 (A7 g 31) (Int32.toNatClampNeg (gI G1 (A1 g 10) (Int32.toNatClampNeg x1))) ((gJ G1 (A1 g 31) (Int32.toNatClampNeg (gI G1 (A1 g 10) (Int32.toNatClampNeg x1)))) - ((Int32.toInt64 (gI G1 (A1 g 11) (Int32.toNatClampNeg x1))) * (Int32.toInt64 r7)))) A7 ⟨L7, P7, rfl, hS12⟩) (fun rr13 G13 hr => ?_)
      obtain ⟨A13, W13, w13, ⟨L13, P13, rfl, hS13⟩, hy13, rfl, r13, rfl, h⟩ := hr
      refine ⟨r13, rfl, ?_⟩
      have hx13 := Xt.trans hx12 hy13
      have hg14 : PG L13 g := PG.up hy13 hg8
      have ee15 : A13 g 0 = A7 g 0 := hy13.2 _ _ hg8.1 (((nP_0 hS13 hg14)).trans ((nP_0 hS12 hg8)).symm)
      try rw [← ee15]
      refine ⟨fun hc => ?_, fun hc => ?_⟩
      · have h := h.1 hc
        exact wp.mono (h G13 A13 ⟨L13, P13, rfl, hS13⟩) (fun r G' q => qx_trans hx13 q)
      · have h := h.2 hc
        exact wp.mono (h G13 A13 ⟨L13, P13, rfl, hS13⟩) (fun r G' q => qx_trans hx13 q)
  · have h := h.2 hc
    refine ⟨hS.o (sP_0 hg), ?_⟩
    rw [lP_0_18 hS hg]
    rw [lP_0_6 hS hg]
    refine ⟨hS.o (sP_19 hg), ?_⟩
    refine wpM.mono (h G A ⟨L, P, rfl, hS⟩) (fun rr16 G16 hr => ?_)
    obtain ⟨A16, W16, w16, ⟨L16, P16, rfl, hS16⟩, hy16, rfl, r16, rfl, h⟩ := hr
    refine ⟨r16, rfl, ?_⟩
    have hx16 := Xt.trans hx hy16
    have hg17 : PG L16 g := PG.up hy16 hg
    have ee18 : A16 g 0 = A g 0 := hy16.2 _ _ hg.1 (((nP_0 hS16 hg17)).trans ((nP_0 hS hg)).symm)
    try rw [← ee18]
    have ee19 : A16 g 31 = A g 31 := hy16.2 _ _ hg.1 (((nP_31 hS16 hg17)).trans ((nP_31 hS hg)).symm)
    try rw [← ee19]
    refine ⟨hS16.o (sP_31 hg17), ?_⟩
    obtain ⟨hi20, h⟩ := h
    refine ⟨by first | (rw [(nP_31 hS16 hg17)]; exact hi20) | exact (congrArg (vp_in _) (nP_31 hS16 hg17)).mpr hi20 | exact hi20, ?_⟩
    have hS21 : Sh E (sJ G16 (A16 g 31) (Int32.toNatClampNeg x6) r16) A16 L16 P16 := Sh_sJ (rfl : sJ G16 (A16 g 31) (Int32.toNatClampNeg x6) r16 = sJ G16 (A16 g 31) (Int32.toNatClampNeg x6) r16) hS16
    have h := h (pl (sJ G16 (A16 g 31) (Int32.toNatClampNeg x6) r16) A16 L16 P16) (pl_sJ (rfl : sJ G16 (A16 g 31) (Int32.toNatClampNeg x6) r16 = sJ G16 (A16 g 31) (Int32.toNatClampNeg x6) r16) hS16 (sP_31 hg17))
    have hx21 : Xt (pl G A L P) A (pl (sJ G16 (A16 g 31) (Int32.toNatClampNeg x6) r16) A16 L16 P16) A16 := Xt_sJ (rfl : sJ G16 (A16 g 31) (Int32.toNatClampNeg x6) r16 = sJ G16 (A16 g 31) (Int32.toNatClampNeg x6) r16) hx16
    exact wp.mono (h (sJ G16 (A16 g 31) (Int32.toNatClampNeg x6) r16) A16 ⟨L16, P16, rfl, hS21⟩) (fun r G' q => qx_trans hx21 q)
theorem w_X3_bestLacking_172 {E : EE} {d : Nat} {V : VH} {K : Int32 → VH → Prop} {g : Nat} {x1 : Int32} {x2 : Int32} {x3 : Int32} {x4 : Int32} {x5 : Int32} {x6 : Int32} (hg : PG (vL V) g) (h0 : 0 < d) (h : ∀ V6 : VH, V6 = cpyJ V g 31 g 28 (Int32.toNatClampNeg 0) (Int32.toNatClampNeg 0) (Int32.toNatClampNeg 3) → vwp E d M_X3_bestLacking 186 [some (sl g 0), some (wi x1), some (wi x2), some (wi x3), some (wi x4), some (wi x5), some (wi x6)] [] V6 (zi K)) : vwp E d M_X3_bestLacking 172 [some (sl g 0), some (wi x1), some (wi x2), some (wi x3), some (wi x4), some (wi x5), some (wi x6)] [] V (zi K) := by
  intro G A hR
  obtain ⟨L, P, rfl, hS⟩ := hR
  have hx := Xt.refl (V := pl G A L P) (A := A)
  show wp E d M_X3_bestLacking 172 [some (vr (A g 0)), some (vi x1), some (vi x2), some (vi x3), some (vi x4), some (vi x5), some (vi x6)] [] G _
  refine v_X3_bestLacking_172 h0 ?_
  refine ⟨hS.o (sP_0 hg), ?_⟩
  rw [lP_0_18 hS hg]
  rw [lP_0_15 hS hg]
  refine ⟨hS.o (sP_31 hg), ?_⟩
  refine ⟨hS.o (sP_28 hg), ?_⟩
  refine ⟨by decide, ?_⟩
  refine ⟨by decide, ?_⟩
  refine ⟨by decide, ?_⟩
  refine ⟨by rw [(nP_31 hS hg)]; decide, ?_⟩
  refine ⟨by rw [(nP_28 hS hg)]; decide, ?_⟩
  have hS6 : Sh E (cpJ G (A g 31) (A g 28) (Int32.toNatClampNeg 0) (Int32.toNatClampNeg 0) (Int32.toNatClampNeg 3)) A L P := Sh_cpJ (rfl : cpJ G (A g 31) (A g 28) (Int32.toNatClampNeg 0) (Int32.toNatClampNeg 0) (Int32.toNatClampNeg 3) = cpJ G (A g 31) (A g 28) (Int32.toNatClampNeg 0) (Int32.toNatClampNeg 0) (Int32.toNatClampNeg 3)) hS
  have h := h (pl (cpJ G (A g 31) (A g 28) (Int32.toNatClampNeg 0) (Int32.toNatClampNeg 0) (Int32.toNatClampNeg 3)) A L P) (pl_cpJ (rfl : cpJ G (A g 31) (A g 28) (Int32.toNatClampNeg 0) (Int32.toNatClampNeg 0) (Int32.toNatClampNeg 3) = cpJ G (A g 31) (A g 28) (Int32.toNatClampNeg 0) (Int32.toNatClampNeg 0) (Int32.toNatClampNeg 3)) hS (sP_28 hg))
  have hx6 : Xt (pl G A L P) A (pl (cpJ G (A g 31) (A g 28) (Int32.toNatClampNeg 0) (Int32.toNatClampNeg 0) (Int32.toNatClampNeg 3)) A L P) A := Xt_cpJ (rfl : cpJ G (A g 31) (A g 28) (Int32.toNatClampNeg 0) (Int32.toNatClampNeg 0) (Int32.toNatClampNeg 3) = cpJ G (A g 31) (A g 28) (Int32.toNatClampNeg 0) (Int32.toNatClampNeg 0) (Int32.toNatClampNeg 3)) hx
  exact wp.mono (h (cpJ G (A g 31) (A g 28) (Int32.toNatClampNeg 0) (Int32.toNatClampNeg 0) (Int32.toNatClampNeg 3)) A ⟨L, P, rfl, hS6⟩) (fun r G' q => qx_trans hx6 q)
theorem w_X3_bestLacking_186 {E : EE} {d : Nat} {V : VH} {K : Int32 → VH → Prop} {g : Nat} {x1 : Int32} {x2 : Int32} {x3 : Int32} {x4 : Int32} {x5 : Int32} {x6 : Int32} (hg : PG (vL V) g) (h : vwp E d M_X3_bestLacking 188 [some (sl g 0), some (wi x1), some (wi 1), some (wi x3), some (wi x4), some (wi x5), none] [] V (zi K)) : vwp E d M_X3_bestLacking 186 [some (sl g 0), some (wi x1), some (wi x2), some (wi x3), some (wi x4), some (wi x5), some (wi x6)] [] V (zi K) := by
  intro G A hR
  obtain ⟨L, P, rfl, hS⟩ := hR
  have hx := Xt.refl (V := pl G A L P) (A := A)
  show wp E d M_X3_bestLacking 186 [some (vr (A g 0)), some (vi x1), some (vi x2), some (vi x3), some (vi x4), some (vi x5), some (vi x6)] [] G _
  refine v_X3_bestLacking_186 ?_
  exact wp.mono (h G A ⟨L, P, rfl, hS⟩) (fun r G' q => qx_trans hx q)
theorem w_X3_bestLacking_188 {E : EE} {d : Nat} {V : VH} {K : Int32 → VH → Prop} {g : Nat} {x1 : Int32} {x2 : Int32} {x3 : Int32} {x4 : Int32} {x5 : Int32} (hg : PG (vL V) g) (h0 : 0 < d) (h : vMI E (d - 1) M_X7_following [sl g 5, wi x4, wi (vI V g 0 9)] V (fun r1 V1 => vwp E d M_X3_bestLacking 36 [some (sl g 0), some (wi x1), some (wi x2), some (wi x3), some (wi r1), some (wi (x5 + 1)), none] [] V1 (zi K))) : vwp E d M_X3_bestLacking 188 [some (sl g 0), some (wi x1), some (wi x2), some (wi x3), some (wi x4), some (wi x5), none] [] V (zi K) := by
  intro G A hR
  obtain ⟨L, P, rfl, hS⟩ := hR
  have hx := Xt.refl (V := pl G A L P) (A := A)
  show wp E d M_X3_bestLacking 188 [some (vr (A g 0)), some (vi x1), some (vi x2), some (vi x3), some (vi x4), some (vi x5), none] [] G _
  refine v_X3_bestLacking_188 h0 ?_
  refine ⟨hS.o (sP_0 hg), ?_⟩
  rw [lP_0_4 hS hg]
  refine ⟨hS.o (sP_5 hg), ?_⟩
  refine wpM.mono (h G A ⟨L, P, rfl, hS⟩) (fun rr1 G1 hr => ?_)
  obtain ⟨A1, W1, w1, ⟨L1, P1, rfl, hS1⟩, hy1, rfl, r1, rfl, h⟩ := hr
  refine ⟨r1, rfl, ?_⟩
  have hx1 := Xt.trans hx hy1
  have hg2 : PG L1 g := PG.up hy1 hg
  have ee3 : A1 g 0 = A g 0 := hy1.2 _ _ hg.1 (((nP_0 hS1 hg2)).trans ((nP_0 hS hg)).symm)
  try rw [← ee3]
  exact wp.mono (h G1 A1 ⟨L1, P1, rfl, hS1⟩) (fun r G' q => qx_trans hx1 q)
theorem w_X3_costTo_0 {E : EE} {d : Nat} {V : VH} {K : Int32 → VH → Prop} {g : Nat} {x1 : Int32} (hg : PG (vL V) g) (h : vwp E d M_X3_costTo 4 [some (sl g 0), some (wi x1), some (wi 0), some (wi 0)] [] V (zi K)) : vMI E d M_X3_costTo [sl g 0, wi x1] V K := by
  intro G A hR
  obtain ⟨L, P, rfl, hS⟩ := hR
  have hx := Xt.refl (V := pl G A L P) (A := A)
  show wpM E d M_X3_costTo [vr (A g 0), vi x1] G _
  refine wpM_of mk_X3_costTo (Nat.le_of_ble_eq_true rfl) ?_
  refine v_X3_costTo_0 ?_
  exact wp.mono (h G A ⟨L, P, rfl, hS⟩) (fun r G' q => qx_trans hx q)
theorem w_X3_costTo_4 {E : EE} {d : Nat} {V : VH} {K : Int32 → VH → Prop} {g : Nat} {x1 : Int32} {x2 : Int32} {x3 : Int32} (hg : PG (vL V) g) (h0 : 0 < d) (h : ((vI V g 5 0) ≤ x3 → K x2 V) ∧ (¬ ((vI V g 5 0) ≤ x3) → vMI E (d - 1) M_X7_placeOf [sl g 5, wi x1, wi x3] V (fun r1 V1 => vMI E (d - 1) M_X7_placeOf [sl g 5, wi (vI V1 g 0 8), wi x3] V1 (fun r4 V4 => (r1 = r4 → vwp E d M_X3_costTo 48 [some (sl g 0), some (wi x1), some (wi x2), some (wi x3)] [] V4 (zi K)) ∧ (¬ (r1 = r4) → vp_in x3 12 ∧ (vwp E d M_X3_costTo 48 [some (sl g 0), some (wi x1), some (wi (x2 + (vI V4 g 24 (Int32.toNatClampNeg x3)))), some (wi x3)] [] V4 (zi K))))))) : vwp E d M_X3_costTo 4 [some (sl g 0), some (wi x1), some (wi x2), some (wi x3)] [] V (zi K) := by
  intro G A hR
  obtain ⟨L, P, rfl, hS⟩ := hR
  have hx := Xt.refl (V := pl G A L P) (A := A)
  show wp E d M_X3_costTo 4 [some (vr (A g 0)), some (vi x1), some (vi x2), some (vi x3)] [] G _
  refine v_X3_costTo_4 h0 ?_
  refine ⟨hS.o (sP_0 hg), ?_⟩
  rw [lP_0_4 hS hg]
  refine ⟨hS.o (sP_5 hg), ?_⟩
  refine ⟨fun hc => ?_, fun hc => ?_⟩
  · have h := h.1 hc
    exact qx_i hS hx h
  · have h := h.2 hc
    refine wpM.mono (h G A ⟨L, P, rfl, hS⟩) (fun rr1 G1 hr => ?_)
    obtain ⟨A1, W1, w1, ⟨L1, P1, rfl, hS1⟩, hy1, rfl, r1, rfl, h⟩ := hr
    refine ⟨r1, rfl, ?_⟩
    have hx1 := Xt.trans hx hy1
    have hg2 : PG L1 g := PG.up hy1 hg
    have ee3 : A1 g 0 = A g 0 := hy1.2 _ _ hg.1 (((nP_0 hS1 hg2)).trans ((nP_0 hS hg)).symm)
    try rw [← ee3]
    refine ⟨hS1.o (sP_0 hg2), ?_⟩
    rw [lP_0_4 hS1 hg2]
    refine ⟨hS1.o (sP_5 hg2), ?_⟩
    refine wpM.mono (h G1 A1 ⟨L1, P1, rfl, hS1⟩) (fun rr4 G4 hr => ?_)
    obtain ⟨A4, W4, w4, ⟨L4, P4, rfl, hS4⟩, hy4, rfl, r4, rfl, h⟩ := hr
    refine ⟨r4, rfl, ?_⟩
    have hx4 := Xt.trans hx1 hy4
    have hg5 : PG L4 g := PG.up hy4 hg2
    have ee6 : A4 g 0 = A1 g 0 := hy4.2 _ _ hg2.1 (((nP_0 hS4 hg5)).trans ((nP_0 hS1 hg2)).symm)
    try rw [← ee6]
    refine ⟨fun hc => ?_, fun hc => ?_⟩
    · have h := h.1 hc
      exact wp.mono (h G4 A4 ⟨L4, P4, rfl, hS4⟩) (fun r G' q => qx_trans hx4 q)
    · have h := h.2 hc
      refine ⟨hS4.o (sP_0 hg5), ?_⟩
      rw [lP_0_10 hS4 hg5]
      refine ⟨hS4.o (sP_24 hg5), ?_⟩
      obtain ⟨hi7, h⟩ := h
      refine ⟨by first | (rw [(nP_24 hS4 hg5)]; exact hi7) | exact (congrArg (vp_in _) (nP_24 hS4 hg5)).mpr hi7 | exact hi7, ?_⟩
      exact wp.mono (h G4 A4 ⟨L4, P4, rfl, hS4⟩) (fun r G' q => qx_trans hx4 q)
theorem w_X3_costTo_48 {E : EE} {d : Nat} {V : VH} {K : Int32 → VH → Prop} {g : Nat} {x1 : Int32} {x2 : Int32} {x3 : Int32} (hg : PG (vL V) g) (h : vwp E d M_X3_costTo 4 [some (sl g 0), some (wi x1), some (wi x2), some (wi (x3 + 1))] [] V (zi K)) : vwp E d M_X3_costTo 48 [some (sl g 0), some (wi x1), some (wi x2), some (wi x3)] [] V (zi K) := by
  intro G A hR
  obtain ⟨L, P, rfl, hS⟩ := hR
  have hx := Xt.refl (V := pl G A L P) (A := A)
  show wp E d M_X3_costTo 48 [some (vr (A g 0)), some (vi x1), some (vi x2), some (vi x3)] [] G _
  refine v_X3_costTo_48 ?_
  exact wp.mono (h G A ⟨L, P, rfl, hS⟩) (fun r G' q => qx_trans hx q)
theorem w_X1_cheapest_0 {E : EE} {d : Nat} {V : VH} {K : Int32 → VH → Prop} {g : Nat} (hg : PG (vL V) g) (h0 : 0 < d) (h : vMI E (d - 1) M_X1_lookAtSets [sl 0 10, sl g 0] V (fun r1 V1 => vwp E d M_X1_cheapest 15 [some (sl 0 10), some (sl g 0), some (wi r1), some (wi 0), some (wi 2147483647), some (wi 0), none] [] V1 (zi K))) : vMI E d M_X1_cheapest [sl 0 10, sl g 0] V K := by
  intro G A hR
  obtain ⟨L, P, rfl, hS⟩ := hR
  have hx := Xt.refl (V := pl G A L P) (A := A)
  show wpM E d M_X1_cheapest [vr (A 0 10), vr (A g 0)] G _
  refine wpM_of mk_X1_cheapest (Nat.le_of_ble_eq_true rfl) ?_
  refine v_X1_cheapest_0 h0 ?_
  refine ⟨hS.o (s0_10 hS), ?_⟩
  refine wpM.mono (h G A ⟨L, P, rfl, hS⟩) (fun rr1 G1 hr => ?_)
  obtain ⟨A1, W1, w1, ⟨L1, P1, rfl, hS1⟩, hy1, rfl, r1, rfl, h⟩ := hr
  refine ⟨r1, rfl, ?_⟩
  have hx1 := Xt.trans hx hy1
  have hg2 : PG L1 g := PG.up hy1 hg
  have ee3 : A1 0 10 = A 0 10 := hy1.2 _ _ hS.1.1 (((n0_10 hS1)).trans ((n0_10 hS)).symm)
  try rw [← ee3]
  have ee4 : A1 g 0 = A g 0 := hy1.2 _ _ hg.1 (((nP_0 hS1 hg2)).trans ((nP_0 hS hg)).symm)
  try rw [← ee4]
  exact wp.mono (h G1 A1 ⟨L1, P1, rfl, hS1⟩) (fun r G' q => qx_trans hx1 q)
theorem w_X1_cheapest_15 {E : EE} {d : Nat} {V : VH} {K : Int32 → VH → Prop} {g : Nat} {x2 : Int32} {x3 : Int32} {x4 : Int32} {x5 : Int32} (hg : PG (vL V) g) (h0 : 0 < d) (h : (x2 < x5 → vMI E (d - 1) M_X1_byNumber [sl 0 10, wi x3] V (fun r1 V1 => K r1 V1)) ∧ (¬ (x2 < x5) → vMI E (d - 1) M_X1_weightOf [sl 0 10, sl g 0, wi x5] V (fun r5 V5 => (x4 ≤ r5 → vwp E d M_X1_cheapest 61 [some (sl 0 10), some (sl g 0), some (wi x2), some (wi x3), some (wi x4), some (wi x5), some (wi r5)] [] V5 (zi K)) ∧ (¬ (x4 ≤ r5) → vMI E (d - 1) M_X1_isClash [sl 0 10, wi (x2 &&& (x5 ^^^ (-1))), wi x2] V5 (fun r9 V9 => (r9 = 0 → vwp E d M_X1_cheapest 61 [some (sl 0 10), some (sl g 0), some (wi x2), some (wi x5), some (wi r5), some (wi x5), some (wi r5)] [] V9 (zi K)) ∧ (¬ (r9 = 0) → vwp E d M_X1_cheapest 61 [some (sl 0 10), some (sl g 0), some (wi x2), some (wi x3), some (wi x4), some (wi x5), some (wi r5)] [] V9 (zi K))))))) : vwp E d M_X1_cheapest 15 [some (sl 0 10), some (sl g 0), some (wi x2), some (wi x3), some (wi x4), some (wi x5), none] [] V (zi K) := by
  intro G A hR
  obtain ⟨L, P, rfl, hS⟩ := hR
  have hx := Xt.refl (V := pl G A L P) (A := A)
  show wp E d M_X1_cheapest 15 [some (vr (A 0 10)), some (vr (A g 0)), some (vi x2), some (vi x3), some (vi x4), some (vi x5), none] [] G _
  refine v_X1_cheapest_15 h0 ?_
  refine ⟨fun hc => ?_, fun hc => ?_⟩
  · have h := h.1 hc
    refine ⟨hS.o (s0_10 hS), ?_⟩
    refine wpM.mono (h G A ⟨L, P, rfl, hS⟩) (fun rr1 G1 hr => ?_)
    obtain ⟨A1, W1, w1, ⟨L1, P1, rfl, hS1⟩, hy1, rfl, r1, rfl, h⟩ := hr
    refine ⟨r1, rfl, ?_⟩
    have hx1 := Xt.trans hx hy1
    have hg2 : PG L1 g := PG.up hy1 hg
    have ee3 : A1 0 10 = A 0 10 := hy1.2 _ _ hS.1.1 (((n0_10 hS1)).trans ((n0_10 hS)).symm)
    try rw [← ee3]
    have ee4 : A1 g 0 = A g 0 := hy1.2 _ _ hg.1 (((nP_0 hS1 hg2)).trans ((nP_0 hS hg)).symm)
    try rw [← ee4]
    exact qx_i hS1 hx1 h
  · have h := h.2 hc
    refine ⟨hS.o (s0_10 hS), ?_⟩
    refine wpM.mono (h G A ⟨L, P, rfl, hS⟩) (fun rr5 G5 hr => ?_)
    obtain ⟨A5, W5, w5, ⟨L5, P5, rfl, hS5⟩, hy5, rfl, r5, rfl, h⟩ := hr
    refine ⟨r5, rfl, ?_⟩
    have hx5 := Xt.trans hx hy5
    have hg6 : PG L5 g := PG.up hy5 hg
    have ee7 : A5 0 10 = A 0 10 := hy5.2 _ _ hS.1.1 (((n0_10 hS5)).trans ((n0_10 hS)).symm)
    try rw [← ee7]
    have ee8 : A5 g 0 = A g 0 := hy5.2 _ _ hg.1 (((nP_0 hS5 hg6)).trans ((nP_0 hS hg)).symm)
    try rw [← ee8]
    refine ⟨fun hc => ?_, fun hc => ?_⟩
    · have h := h.1 hc
      exact wp.mono (h G5 A5 ⟨L5, P5, rfl, hS5⟩) (fun r G' q => qx_trans hx5 q)
    · have h := h.2 hc
      refine ⟨hS5.o (s0_10 hS5), ?_⟩
      refine wpM.mono (h G5 A5 ⟨L5, P5, rfl, hS5⟩) (fun rr9 G9 hr => ?_)
      obtain ⟨A9, W9, w9, ⟨L9, P9, rfl, hS9⟩, hy9, rfl, r9, rfl, h⟩ := hr
      refine ⟨r9, rfl, ?_⟩
      have hx9 := Xt.trans hx5 hy9
      have hg10 : PG L9 g := PG.up hy9 hg6
      have ee11 : A9 0 10 = A5 0 10 := hy9.2 _ _ hS5.1.1 (((n0_10 hS9)).trans ((n0_10 hS5)).symm)
      try rw [← ee11]
      have ee12 : A9 g 0 = A5 g 0 := hy9.2 _ _ hg6.1 (((nP_0 hS9 hg10)).trans ((nP_0 hS5 hg6)).symm)
      try rw [← ee12]
      refine ⟨fun hc => ?_, fun hc => ?_⟩
      · have h := h.1 hc
        exact wp.mono (h G9 A9 ⟨L9, P9, rfl, hS9⟩) (fun r G' q => qx_trans hx9 q)
      · have h := h.2 hc
        exact wp.mono (h G9 A9 ⟨L9, P9, rfl, hS9⟩) (fun r G' q => qx_trans hx9 q)
theorem w_X1_cheapest_61 {E : EE} {d : Nat} {V : VH} {K : Int32 → VH → Prop} {g : Nat} {x2 : Int32} {x3 : Int32} {x4 : Int32} {x5 : Int32} {x6 : Int32} (hg : PG (vL V) g) (h : vwp E d M_X1_cheapest 15 [some (sl 0 10), some (sl g 0), some (wi x2), some (wi x3), some (wi x4), some (wi (x5 + 1)), none] [] V (zi K)) : vwp E d M_X1_cheapest 61 [some (sl 0 10), some (sl g 0), some (wi x2), some (wi x3), some (wi x4), some (wi x5), some (wi x6)] [] V (zi K) := by
  intro G A hR
  obtain ⟨L, P, rfl, hS⟩ := hR
  have hx := Xt.refl (V := pl G A L P) (A := A)
  show wp E d M_X1_cheapest 61 [some (vr (A 0 10)), some (vr (A g 0)), some (vi x2), some (vi x3), some (vi x4), some (vi x5), some (vi x6)] [] G _
  refine v_X1_cheapest_61 ?_
  exact wp.mono (h G A ⟨L, P, rfl, hS⟩) (fun r G' q => qx_trans hx q)
theorem w_X1_lookAtSets_22 {E : EE} {d : Nat} {V : VH} {K : Int32 → VH → Prop} {g : Nat} (hg : PG (vL V) g) (h : vwp E d M_X1_lookAtSets 33 [some (sl 0 10), some (sl g 0), some (wi ((1 <<< ((vI V 0 10 4) &&& 31)) - 1)), some (wi 0), none, none] [] V (zi K)) : vwp E d M_X1_lookAtSets 22 [some (sl 0 10), some (sl g 0), none, none, none, none] [] V (zi K) := by
  intro G A hR
  obtain ⟨L, P, rfl, hS⟩ := hR
  have hx := Xt.refl (V := pl G A L P) (A := A)
  show wp E d M_X1_lookAtSets 22 [some (vr (A 0 10)), some (vr (A g 0)), none, none, none, none] [] G _
  refine v_X1_lookAtSets_22 ?_
  refine ⟨hS.o (s0_10 hS), ?_⟩
  exact wp.mono (h G A ⟨L, P, rfl, hS⟩) (fun r G' q => qx_trans hx q)
theorem w_X1_lookAtSets_33 {E : EE} {d : Nat} {V : VH} {K : Int32 → VH → Prop} {g : Nat} {x2 : Int32} {x3 : Int32} (hg : PG (vL V) g) (h0 : 0 < d) (h : (x2 < x3 → vMI E (d - 1) M_X7_lowest [sl g 5, wi (vI V g 0 8), wi (vI V g 0 9)] V (fun r1 V1 => vwp E d M_X1_lookAtSets 70 [some (sl 0 10), some (sl g 0), some (wi x2), some (wi r1), some (wi 0), none] [] V1 (zi K))) ∧ (¬ (x2 < x3) → vp_in x3 (vN V 0 15) ∧ (∀ V6 : VH, V6 = wrI V 0 15 (Int32.toNatClampNeg x3) (nz 0) → vwp E d M_X1_lookAtSets 33 [some (sl 0 10), some (sl g 0), some (wi x2), some (wi (x3 + 1)), none, none] [] V6 (zi K)))) : vwp E d M_X1_lookAtSets 33 [some (sl 0 10), some (sl g 0), some (wi x2), some (wi x3), none, none] [] V (zi K) := by
  intro G A hR
  obtain ⟨L, P, rfl, hS⟩ := hR
  have hx := Xt.refl (V := pl G A L P) (A := A)
  show wp E d M_X1_lookAtSets 33 [some (vr (A 0 10)), some (vr (A g 0)), some (vi x2), some (vi x3), none, none] [] G _
  refine v_X1_lookAtSets_33 h0 ?_
  refine ⟨fun hc => ?_, fun hc => ?_⟩
  · have h := h.1 hc
    refine ⟨hS.o (sP_0 hg), ?_⟩
    rw [lP_0_4 hS hg]
    refine ⟨hS.o (sP_5 hg), ?_⟩
    refine wpM.mono (h G A ⟨L, P, rfl, hS⟩) (fun rr1 G1 hr => ?_)
    obtain ⟨A1, W1, w1, ⟨L1, P1, rfl, hS1⟩, hy1, rfl, r1, rfl, h⟩ := hr
    refine ⟨r1, rfl, ?_⟩
    have hx1 := Xt.trans hx hy1
    have hg2 : PG L1 g := PG.up hy1 hg
    have ee3 : A1 0 10 = A 0 10 := hy1.2 _ _ hS.1.1 (((n0_10 hS1)).trans ((n0_10 hS)).symm)
    try rw [← ee3]
    have ee4 : A1 g 0 = A g 0 := hy1.2 _ _ hg.1 (((nP_0 hS1 hg2)).trans ((nP_0 hS hg)).symm)
    try rw [← ee4]
    exact wp.mono (h G1 A1 ⟨L1, P1, rfl, hS1⟩) (fun r G' q => qx_trans hx1 q)
  · have h := h.2 hc
    refine ⟨hS.o (s0_10 hS), ?_⟩
    rw [l0_10_5 hS]
    refine ⟨hS.o (s0_15 hS), ?_⟩
    obtain ⟨hi5, h⟩ := h
    refine ⟨hi5, ?_⟩
    have hS6 : Sh E (sI G (A 0 15) (Int32.toNatClampNeg x3) (nz 0)) A L P := Sh_sI (rfl : sI G (A 0 15) (Int32.toNatClampNeg x3) (nz 0) = sI G (A 0 15) (Int32.toNatClampNeg x3) (nz 0)) hS (s0_15 hS) (okT_nz rfl)
    have h := h (pl (sI G (A 0 15) (Int32.toNatClampNeg x3) (nz 0)) A L P) (pl_sI (rfl : sI G (A 0 15) (Int32.toNatClampNeg x3) (nz 0) = sI G (A 0 15) (Int32.toNatClampNeg x3) (nz 0)) hS (s0_15 hS))
    have hx6 : Xt (pl G A L P) A (pl (sI G (A 0 15) (Int32.toNatClampNeg x3) (nz 0)) A L P) A := Xt_sI (rfl : sI G (A 0 15) (Int32.toNatClampNeg x3) (nz 0) = sI G (A 0 15) (Int32.toNatClampNeg x3) (nz 0)) hx
    exact wp.mono (h (sI G (A 0 15) (Int32.toNatClampNeg x3) (nz 0)) A ⟨L, P, rfl, hS6⟩) (fun r G' q => qx_trans hx6 q)
theorem w_X1_lookAtSets_70 {E : EE} {d : Nat} {V : VH} {K : Int32 → VH → Prop} {g : Nat} {x2 : Int32} {x3 : Int32} {x4 : Int32} (hg : PG (vL V) g) (h0 : 0 < d) (h : ((vI V g 5 1) ≤ x4 → vwp E d M_X1_lookAtSets 123 [some (sl 0 10), some (sl g 0), some (wi x2), some (wi x3), some (wi x4), none] [] V (zi K)) ∧ (¬ ((vI V g 5 1) ≤ x4) → (x3 < 0 → vwp E d M_X1_lookAtSets 123 [some (sl 0 10), some (sl g 0), some (wi x2), some (wi x3), some (wi x4), none] [] V (zi K)) ∧ (¬ (x3 < 0) → vMI E (d - 1) M_X9_setOf [sl g 19, wi x3] V (fun r1 V1 => vN V1 0 15 = vN V 0 15 ∧ (vMI E (d - 1) M_X1_among [sl 0 10, wi r1] V1 (fun r7 V7 => vN V7 0 15 = vN V1 0 15 ∧ (vp_in r7 (vN V7 0 15) ∧ (∀ V14 : VH, V14 = wrI V7 0 15 (Int32.toNatClampNeg r7) (nz 1) → vMI E (d - 1) M_X7_following [sl g 5, wi x3, wi (vI V14 g 0 9)] V14 (fun r15 V15 => vwp E d M_X1_lookAtSets 70 [some (sl 0 10), some (sl g 0), some (wi x2), some (wi r15), some (wi (x4 + 1)), none] [] V15 (zi K)))))))))) : vwp E d M_X1_lookAtSets 70 [some (sl 0 10), some (sl g 0), some (wi x2), some (wi x3), some (wi x4), none] [] V (zi K) := by
  intro G A hR
  obtain ⟨L, P, rfl, hS⟩ := hR
  have hx := Xt.refl (V := pl G A L P) (A := A)
  show wp E d M_X1_lookAtSets 70 [some (vr (A 0 10)), some (vr (A g 0)), some (vi x2), some (vi x3), some (vi x4), none] [] G _
  refine v_X1_lookAtSets_70 h0 ?_
  refine ⟨hS.o (sP_0 hg), ?_⟩
  rw [lP_0_4 hS hg]
  refine ⟨hS.o (sP_5 hg), ?_⟩
  refine ⟨fun hc => ?_, fun hc => ?_⟩
  · have h := h.1 hc
    exact wp.mono (h G A ⟨L, P, rfl, hS⟩) (fun r G' q => qx_trans hx q)
  · have h := h.2 hc
    refine ⟨fun hc => ?_, fun hc => ?_⟩
    · have h := h.1 hc
      exact wp.mono (h G A ⟨L, P, rfl, hS⟩) (fun r G' q => qx_trans hx q)
    · have h := h.2 hc
      refine ⟨hS.o (s0_10 hS), ?_⟩
      rw [l0_10_5 hS]
      rw [lP_0_6 hS hg]
      refine ⟨hS.o (sP_19 hg), ?_⟩
      refine wpM.mono (h G A ⟨L, P, rfl, hS⟩) (fun rr1 G1 hr => ?_)
      obtain ⟨A1, W1, w1, ⟨L1, P1, rfl, hS1⟩, hy1, rfl, r1, rfl, h⟩ := hr
      refine ⟨r1, rfl, ?_⟩
      have hx1 := Xt.trans hx hy1
      have hg2 : PG L1 g := PG.up hy1 hg
      have ee3 : A1 0 10 = A 0 10 := hy1.2 _ _ hS.1.1 (((n0_10 hS1)).trans ((n0_10 hS)).symm)
      try rw [← ee3]
      obtain ⟨hv5, h⟩ := h
      have ee4 : A1 0 15 = A 0 15 := hy1.2 _ _ hS.1.1 hv5
      try rw [← ee4]
      have ee6 : A1 g 0 = A g 0 := hy1.2 _ _ hg.1 (((nP_0 hS1 hg2)).trans ((nP_0 hS hg)).symm)
      try rw [← ee6]
      refine ⟨hS1.o (s0_10 hS1), ?_⟩
      refine wpM.mono (h G1 A1 ⟨L1, P1, rfl, hS1⟩) (fun rr7 G7 hr => ?_)
      obtain ⟨A7, W7, w7, ⟨L7, P7, rfl, hS7⟩, hy7, rfl, r7, rfl, h⟩ := hr
      refine ⟨r7, rfl, ?_⟩
      have hx7 := Xt.trans hx1 hy7
      have hg8 : PG L7 g := PG.up hy7 hg2
      have ee9 : A7 0 10 = A1 0 10 := hy7.2 _ _ hS1.1.1 (((n0_10 hS7)).trans ((n0_10 hS1)).symm)
      try rw [← ee9]
      obtain ⟨hv11, h⟩ := h
      have ee10 : A7 0 15 = A1 0 15 := hy7.2 _ _ hS1.1.1 hv11
      try rw [← ee10]
      have ee12 : A7 g 0 = A1 g 0 := hy7.2 _ _ hg2.1 (((nP_0 hS7 hg8)).trans ((nP_0 hS1 hg2)).symm)
      try rw [← ee12]
      refine ⟨hS7.o (s0_15 hS7), ?_⟩
      obtain ⟨hi13, h⟩ := h
      refine ⟨hi13, ?_⟩
      have hS14 : Sh E (sI G7 (A7 0 15) (Int32.toNatClampNeg r7) (nz 1)) A7 L7 P7 := Sh_sI (rfl : sI G7 (A7 0 15) (Int32.toNatClampNeg r7) (nz 1) = sI G7 (A7 0 15) (Int32.toNatClampNeg r7) (nz 1)) hS7 (s0_15 hS7) (okT_nz rfl)
      have h := h (pl (sI G7 (A7 0 15) (Int32.toNatClampNeg r7) (nz 1)) A7 L7 P7) (pl_sI (rfl : sI G7 (A7 0 15) (Int32.toNatClampNeg r7) (nz 1) = sI G7 (A7 0 15) (Int32.toNatClampNeg r7) (nz 1)) hS7 (s0_15 hS7))
      have hx14 : Xt (pl G A L P) A (pl (sI G7 (A7 0 15) (Int32.toNatClampNeg r7) (nz 1)) A7 L7 P7) A7 := Xt_sI (rfl : sI G7 (A7 0 15) (Int32.toNatClampNeg r7) (nz 1) = sI G7 (A7 0 15) (Int32.toNatClampNeg r7) (nz 1)) hx7
      refine ⟨hS14.o (sP_0 hg8), ?_⟩
      rw [lP_0_4 hS7 hg8]
      refine ⟨hS14.o (sP_5 hg8), ?_⟩
      refine wpM.mono (h (sI G7 (A7 0 15) (Int32.toNatClampNeg r7) (nz 1)) A7 ⟨L7, P7, rfl, hS14⟩) (fun rr15 G15 hr => ?_)
      obtain ⟨A15, W15, w15, ⟨L15, P15, rfl, hS15⟩, hy15, rfl, r15, rfl, h⟩ := hr
      refine ⟨r15, rfl, ?_⟩
      have hx15 := Xt.trans hx14 hy15
      have hg16 : PG L15 g := PG.up hy15 hg8
      have ee17 : A15 0 10 = A7 0 10 := hy15.2 _ _ hS14.1.1 (((n0_10 hS15)).trans ((n0_10 hS14)).symm)
      try rw [← ee17]
      have ee18 : A15 g 0 = A7 g 0 := hy15.2 _ _ hg8.1 (((nP_0 hS15 hg16)).trans ((nP_0 hS14 hg8)).symm)
      try rw [← ee18]
      exact wp.mono (h G15 A15 ⟨L15, P15, rfl, hS15⟩) (fun r G' q => qx_trans hx15 q)
theorem w_X1_lookAtSets_123 {E : EE} {d : Nat} {V : VH} {K : Int32 → VH → Prop} {g : Nat} {x2 : Int32} {x3 : Int32} {x4 : Int32} (hg : PG (vL V) g) (h : vwp E d M_X1_lookAtSets 126 [some (sl 0 10), some (sl g 0), some (wi x2), some (wi x3), some (wi 1), none] [] V (zi K)) : vwp E d M_X1_lookAtSets 123 [some (sl 0 10), some (sl g 0), some (wi x2), some (wi x3), some (wi x4), none] [] V (zi K) := by
  intro G A hR
  obtain ⟨L, P, rfl, hS⟩ := hR
  have hx := Xt.refl (V := pl G A L P) (A := A)
  show wp E d M_X1_lookAtSets 123 [some (vr (A 0 10)), some (vr (A g 0)), some (vi x2), some (vi x3), some (vi x4), none] [] G _
  refine v_X1_lookAtSets_123 ?_
  exact wp.mono (h G A ⟨L, P, rfl, hS⟩) (fun r G' q => qx_trans hx q)
theorem w_X1_lookAtSets_126 {E : EE} {d : Nat} {V : VH} {K : Int32 → VH → Prop} {g : Nat} {x2 : Int32} {x3 : Int32} {x4 : Int32} (hg : PG (vL V) g) (h : (x2 < x4 → K x2 V) ∧ (¬ (x2 < x4) → vwp E d M_X1_lookAtSets 135 [some (sl 0 10), some (sl g 0), some (wi x2), some (wi x3), some (wi x4), some (wi 0)] [] V (zi K))) : vwp E d M_X1_lookAtSets 126 [some (sl 0 10), some (sl g 0), some (wi x2), some (wi x3), some (wi x4), none] [] V (zi K) := by
  intro G A hR
  obtain ⟨L, P, rfl, hS⟩ := hR
  have hx := Xt.refl (V := pl G A L P) (A := A)
  show wp E d M_X1_lookAtSets 126 [some (vr (A 0 10)), some (vr (A g 0)), some (vi x2), some (vi x3), some (vi x4), none] [] G _
  refine v_X1_lookAtSets_126 ?_
  refine ⟨fun hc => ?_, fun hc => ?_⟩
  · have h := h.1 hc
    exact qx_i hS hx h
  · have h := h.2 hc
    exact wp.mono (h G A ⟨L, P, rfl, hS⟩) (fun r G' q => qx_trans hx q)
theorem w_X1_lookAtSets_135 {E : EE} {d : Nat} {V : VH} {K : Int32 → VH → Prop} {g : Nat} {x2 : Int32} {x3 : Int32} {x4 : Int32} {x5 : Int32} (hg : PG (vL V) g) (h : ((vI V 0 10 4) ≤ x5 → vwp E d M_X1_lookAtSets 191 [some (sl 0 10), some (sl g 0), some (wi x2), some (wi x3), some (wi x4), some (wi x5)] [] V (zi K)) ∧ (¬ ((vI V 0 10 4) ≤ x5) → vp_in x4 (vN V 0 15) ∧ ((¬ (vI V 0 15 (Int32.toNatClampNeg x4)) = 0 → vwp E d M_X1_lookAtSets 191 [some (sl 0 10), some (sl g 0), some (wi x2), some (wi x3), some (wi x4), some (wi x5)] [] V (zi K)) ∧ ((vI V 0 15 (Int32.toNatClampNeg x4)) = 0 → (((x4 >>> (x5 &&& 31)) &&& 1) = 0 → vwp E d M_X1_lookAtSets 185 [some (sl 0 10), some (sl g 0), some (wi x2), some (wi x3), some (wi x4), some (wi x5)] [] V (zi K)) ∧ (¬ (((x4 >>> (x5 &&& 31)) &&& 1) = 0) → vp_in (x4 &&& ((1 <<< (x5 &&& 31)) ^^^ (-1))) (vN V 0 15) ∧ (vp_in x4 (vN V 0 15) ∧ (∀ V4 : VH, V4 = wrI V 0 15 (Int32.toNatClampNeg x4) (nz (vI V 0 15 (Int32.toNatClampNeg (x4 &&& ((1 <<< (x5 &&& 31)) ^^^ (-1)))))) → vwp E d M_X1_lookAtSets 185 [some (sl 0 10), some (sl g 0), some (wi x2), some (wi x3), some (wi x4), some (wi x5)] [] V4 (zi K)))))))) : vwp E d M_X1_lookAtSets 135 [some (sl 0 10), some (sl g 0), some (wi x2), some (wi x3), some (wi x4), some (wi x5)] [] V (zi K) := by
  intro G A hR
  obtain ⟨L, P, rfl, hS⟩ := hR
  have hx := Xt.refl (V := pl G A L P) (A := A)
  show wp E d M_X1_lookAtSets 135 [some (vr (A 0 10)), some (vr (A g 0)), some (vi x2), some (vi x3), some (vi x4), some (vi x5)] [] G _
  refine v_X1_lookAtSets_135 ?_
  refine ⟨hS.o (s0_10 hS), ?_⟩
  refine ⟨fun hc => ?_, fun hc => ?_⟩
  · have h := h.1 hc
    exact wp.mono (h G A ⟨L, P, rfl, hS⟩) (fun r G' q => qx_trans hx q)
  · have h := h.2 hc
    rw [l0_10_5 hS]
    refine ⟨hS.o (s0_15 hS), ?_⟩
    obtain ⟨hi1, h⟩ := h
    refine ⟨hi1, ?_⟩
    refine ⟨fun hc => ?_, fun hc => ?_⟩
    · have h := h.1 hc
      exact wp.mono (h G A ⟨L, P, rfl, hS⟩) (fun r G' q => qx_trans hx q)
    · have h := h.2 hc
      refine ⟨fun hc => ?_, fun hc => ?_⟩
      · have h := h.1 hc
        exact wp.mono (h G A ⟨L, P, rfl, hS⟩) (fun r G' q => qx_trans hx q)
      · have h := h.2 hc
        obtain ⟨hi2, h⟩ := h
        refine ⟨hi2, ?_⟩
        obtain ⟨hi3, h⟩ := h
        refine ⟨hi3, ?_⟩
        have hS4 : Sh E (sI G (A 0 15) (Int32.toNatClampNeg x4) (nz (gI G (A 0 15) (Int32.toNatClampNeg (x4 &&& ((1 <<< (x5 &&& 31)) ^^^ (-1))))))) A L P := Sh_sI (rfl : sI G (A 0 15) (Int32.toNatClampNeg x4) (nz (gI G (A 0 15) (Int32.toNatClampNeg (x4 &&& ((1 <<< (x5 &&& 31)) ^^^ (-1)))))) = sI G (A 0 15) (Int32.toNatClampNeg x4) (nz (gI G (A 0 15) (Int32.toNatClampNeg (x4 &&& ((1 <<< (x5 &&& 31)) ^^^ (-1))))))) hS (s0_15 hS) (okT_nz rfl)
        have h := h (pl (sI G (A 0 15) (Int32.toNatClampNeg x4) (nz (gI G (A 0 15) (Int32.toNatClampNeg (x4 &&& ((1 <<< (x5 &&& 31)) ^^^ (-1))))))) A L P) (pl_sI (rfl : sI G (A 0 15) (Int32.toNatClampNeg x4) (nz (gI G (A 0 15) (Int32.toNatClampNeg (x4 &&& ((1 <<< (x5 &&& 31)) ^^^ (-1)))))) = sI G (A 0 15) (Int32.toNatClampNeg x4) (nz (gI G (A 0 15) (Int32.toNatClampNeg (x4 &&& ((1 <<< (x5 &&& 31)) ^^^ (-1))))))) hS (s0_15 hS))
        have hx4 : Xt (pl G A L P) A (pl (sI G (A 0 15) (Int32.toNatClampNeg x4) (nz (gI G (A 0 15) (Int32.toNatClampNeg (x4 &&& ((1 <<< (x5 &&& 31)) ^^^ (-1))))))) A L P) A := Xt_sI (rfl : sI G (A 0 15) (Int32.toNatClampNeg x4) (nz (gI G (A 0 15) (Int32.toNatClampNeg (x4 &&& ((1 <<< (x5 &&& 31)) ^^^ (-1)))))) = sI G (A 0 15) (Int32.toNatClampNeg x4) (nz (gI G (A 0 15) (Int32.toNatClampNeg (x4 &&& ((1 <<< (x5 &&& 31)) ^^^ (-1))))))) hx
        exact wp.mono (h (sI G (A 0 15) (Int32.toNatClampNeg x4) (nz (gI G (A 0 15) (Int32.toNatClampNeg (x4 &&& ((1 <<< (x5 &&& 31)) ^^^ (-1))))))) A ⟨L, P, rfl, hS4⟩) (fun r G' q => qx_trans hx4 q)
theorem w_X1_lookAtSets_185 {E : EE} {d : Nat} {V : VH} {K : Int32 → VH → Prop} {g : Nat} {x2 : Int32} {x3 : Int32} {x4 : Int32} {x5 : Int32} (hg : PG (vL V) g) (h : vwp E d M_X1_lookAtSets 135 [some (sl 0 10), some (sl g 0), some (wi x2), some (wi x3), some (wi x4), some (wi (x5 + 1))] [] V (zi K)) : vwp E d M_X1_lookAtSets 185 [some (sl 0 10), some (sl g 0), some (wi x2), some (wi x3), some (wi x4), some (wi x5)] [] V (zi K) := by
  intro G A hR
  obtain ⟨L, P, rfl, hS⟩ := hR
  have hx := Xt.refl (V := pl G A L P) (A := A)
  show wp E d M_X1_lookAtSets 185 [some (vr (A 0 10)), some (vr (A g 0)), some (vi x2), some (vi x3), some (vi x4), some (vi x5)] [] G _
  refine v_X1_lookAtSets_185 ?_
  exact wp.mono (h G A ⟨L, P, rfl, hS⟩) (fun r G' q => qx_trans hx q)
theorem w_X1_lookAtSets_191 {E : EE} {d : Nat} {V : VH} {K : Int32 → VH → Prop} {g : Nat} {x2 : Int32} {x3 : Int32} {x4 : Int32} {x5 : Int32} (hg : PG (vL V) g) (h : vwp E d M_X1_lookAtSets 126 [some (sl 0 10), some (sl g 0), some (wi x2), some (wi x3), some (wi (x4 + 1)), none] [] V (zi K)) : vwp E d M_X1_lookAtSets 191 [some (sl 0 10), some (sl g 0), some (wi x2), some (wi x3), some (wi x4), some (wi x5)] [] V (zi K) := by
  intro G A hR
  obtain ⟨L, P, rfl, hS⟩ := hR
  have hx := Xt.refl (V := pl G A L P) (A := A)
  show wp E d M_X1_lookAtSets 191 [some (vr (A 0 10)), some (vr (A g 0)), some (vi x2), some (vi x3), some (vi x4), some (vi x5)] [] G _
  refine v_X1_lookAtSets_191 ?_
  exact wp.mono (h G A ⟨L, P, rfl, hS⟩) (fun r G' q => qx_trans hx q)
theorem w_X1_listRules_0 {E : EE} {d : Nat} {V : VH} {K : VH → Prop} {g : Nat} (hg : PG (vL V) g) (h : ∀ V1 : VH, V1 = wrI V 0 10 4 0 → vwp E d M_X1_listRules 7 [some (sl 0 10), some (sl g 0), some (wi 0)] [] V1 (zv K)) : vMV E d M_X1_listRules [sl 0 10, sl g 0] V K := by
  intro G A hR
  obtain ⟨L, P, rfl, hS⟩ := hR
  have hx := Xt.refl (V := pl G A L P) (A := A)
  show wpM E d M_X1_listRules [vr (A 0 10), vr (A g 0)] G _
  refine wpM_of mk_X1_listRules (Nat.le_of_ble_eq_true rfl) ?_
  refine v_X1_listRules_0 ?_
  refine ⟨hS.o (s0_10 hS), ?_⟩
  have hS1 : Sh E (sI G (A 0 10) 4 0) A L P := Sh_sI (rfl : sI G (A 0 10) 4 0 = sI G (A 0 10) 4 0) hS (s0_10 hS) (okT_0 rfl)
  have h := h (pl (sI G (A 0 10) 4 0) A L P) (pl_sI (rfl : sI G (A 0 10) 4 0 = sI G (A 0 10) 4 0) hS (s0_10 hS))
  have hx1 : Xt (pl G A L P) A (pl (sI G (A 0 10) 4 0) A L P) A := Xt_sI (rfl : sI G (A 0 10) 4 0 = sI G (A 0 10) 4 0) hx
  exact wp.mono (h (sI G (A 0 10) 4 0) A ⟨L, P, rfl, hS1⟩) (fun r G' q => qx_trans hx1 q)
theorem w_X1_listRules_7 {E : EE} {d : Nat} {V : VH} {K : VH → Prop} {g : Nat} {x2 : Int32} (hg : PG (vL V) g) (h : (24 ≤ x2 → K V) ∧ (¬ (24 ≤ x2) → ((((vI V g 9 0) >>> (x2 &&& 31)) &&& 1) = 0 → vwp E d M_X1_listRules 53 [some (sl 0 10), some (sl g 0), some (wi x2)] [] V (zv K)) ∧ (¬ ((((vI V g 9 0) >>> (x2 &&& 31)) &&& 1) = 0) → (12 ≤ (vI V 0 10 4) → vwp E d M_X1_listRules 53 [some (sl 0 10), some (sl g 0), some (wi x2)] [] V (zv K)) ∧ (¬ (12 ≤ (vI V 0 10 4)) → ∀ V1 : VH, V1 = wrI V 0 10 4 ((vI V 0 10 4) + 1) → vp_in (vI V 0 10 4) 12 ∧ (∀ V3 : VH, V3 = wrI V1 0 14 (Int32.toNatClampNeg (vI V 0 10 4)) x2 → vwp E d M_X1_listRules 53 [some (sl 0 10), some (sl g 0), some (wi x2)] [] V3 (zv K)))))) : vwp E d M_X1_listRules 7 [some (sl 0 10), some (sl g 0), some (wi x2)] [] V (zv K) := by
  intro G A hR
  obtain ⟨L, P, rfl, hS⟩ := hR
  have hx := Xt.refl (V := pl G A L P) (A := A)
  show wp E d M_X1_listRules 7 [some (vr (A 0 10)), some (vr (A g 0)), some (vi x2)] [] G _
  refine v_X1_listRules_7 ?_
  refine ⟨fun hc => ?_, fun hc => ?_⟩
  · have h := h.1 hc
    exact qx_v hS hx h
  · have h := h.2 hc
    refine ⟨hS.o (sP_0 hg), ?_⟩
    rw [lP_0_5 hS hg]
    refine ⟨hS.o (sP_9 hg), ?_⟩
    refine ⟨fun hc => ?_, fun hc => ?_⟩
    · have h := h.1 hc
      exact wp.mono (h G A ⟨L, P, rfl, hS⟩) (fun r G' q => qx_trans hx q)
    · have h := h.2 hc
      refine ⟨hS.o (s0_10 hS), ?_⟩
      refine ⟨fun hc => ?_, fun hc => ?_⟩
      · have h := h.1 hc
        exact wp.mono (h G A ⟨L, P, rfl, hS⟩) (fun r G' q => qx_trans hx q)
      · have h := h.2 hc
        rw [l0_10_3 hS]
        intro G1 eG1
        have hS1 : Sh E G1 A L P := Sh_sI eG1 hS (s0_10 hS) (okT_0 rfl)
        have h := h (pl G1 A L P) (pl_sI eG1 hS (s0_10 hS))
        have hx1 : Xt (pl G A L P) A (pl G1 A L P) A := Xt_sI eG1 hx
        refine ⟨hS1.o (s0_14 hS1), ?_⟩
        obtain ⟨hi2, h⟩ := h
        refine ⟨by first | (rw [(n0_14 hS1)]; exact hi2) | exact (congrArg (vp_in _) (n0_14 hS1)).mpr hi2 | exact hi2, ?_⟩
        intro G3 eG3
        have hS3 : Sh E G3 A L P := Sh_sI eG3 hS1 (s0_14 hS1) (okT_0 rfl)
        have h := h (pl G3 A L P) (pl_sI eG3 hS1 (s0_14 hS1))
        have hx3 : Xt (pl G A L P) A (pl G3 A L P) A := Xt_sI eG3 hx1
        exact wp.mono (h G3 A ⟨L, P, rfl, hS3⟩) (fun r G' q => qx_trans hx3 q)
theorem w_X1_listRules_53 {E : EE} {d : Nat} {V : VH} {K : VH → Prop} {g : Nat} {x2 : Int32} (hg : PG (vL V) g) (h : vwp E d M_X1_listRules 7 [some (sl 0 10), some (sl g 0), some (wi (x2 + 1))] [] V (zv K)) : vwp E d M_X1_listRules 53 [some (sl 0 10), some (sl g 0), some (wi x2)] [] V (zv K) := by
  intro G A hR
  obtain ⟨L, P, rfl, hS⟩ := hR
  have hx := Xt.refl (V := pl G A L P) (A := A)
  show wp E d M_X1_listRules 53 [some (vr (A 0 10)), some (vr (A g 0)), some (vi x2)] [] G _
  refine v_X1_listRules_53 ?_
  exact wp.mono (h G A ⟨L, P, rfl, hS⟩) (fun r G' q => qx_trans hx q)
theorem w_X1_among_0 {E : EE} {d : Nat} {V : VH} {K : Int32 → VH → Prop} {x1 : Int32}  (h : vwp E d M_X1_among 4 [some (sl 0 10), some (wi x1), some (wi 0), some (wi 0)] [] V (zi K)) : vMI E d M_X1_among [sl 0 10, wi x1] V K := by
  intro G A hR
  obtain ⟨L, P, rfl, hS⟩ := hR
  have hx := Xt.refl (V := pl G A L P) (A := A)
  show wpM E d M_X1_among [vr (A 0 10), vi x1] G _
  refine wpM_of mk_X1_among (Nat.le_of_ble_eq_true rfl) ?_
  refine v_X1_among_0 ?_
  exact wp.mono (h G A ⟨L, P, rfl, hS⟩) (fun r G' q => qx_trans hx q)
theorem w_X1_among_4 {E : EE} {d : Nat} {V : VH} {K : Int32 → VH → Prop} {x1 : Int32} {x2 : Int32} {x3 : Int32}  (h : ((vI V 0 10 4) ≤ x3 → K x2 V) ∧ (¬ ((vI V 0 10 4) ≤ x3) → vp_in x3 12 ∧ (vwp E d M_X1_among 4 [some (sl 0 10), some (wi x1), some (wi (x2 ||| (((x1 >>> ((vI V 0 14 (Int32.toNatClampNeg x3)) &&& 31)) &&& 1) <<< (x3 &&& 31)))), some (wi (x3 + 1))] [] V (zi K)))) : vwp E d M_X1_among 4 [some (sl 0 10), some (wi x1), some (wi x2), some (wi x3)] [] V (zi K) := by
  intro G A hR
  obtain ⟨L, P, rfl, hS⟩ := hR
  have hx := Xt.refl (V := pl G A L P) (A := A)
  show wp E d M_X1_among 4 [some (vr (A 0 10)), some (vi x1), some (vi x2), some (vi x3)] [] G _
  refine v_X1_among_4 ?_
  refine ⟨hS.o (s0_10 hS), ?_⟩
  refine ⟨fun hc => ?_, fun hc => ?_⟩
  · have h := h.1 hc
    exact qx_i hS hx h
  · have h := h.2 hc
    rw [l0_10_3 hS]
    refine ⟨hS.o (s0_14 hS), ?_⟩
    obtain ⟨hi1, h⟩ := h
    refine ⟨by first | (rw [(n0_14 hS)]; exact hi1) | exact (congrArg (vp_in _) (n0_14 hS)).mpr hi1 | exact hi1, ?_⟩
    exact wp.mono (h G A ⟨L, P, rfl, hS⟩) (fun r G' q => qx_trans hx q)
theorem w_X1_weightOf_0 {E : EE} {d : Nat} {V : VH} {K : Int32 → VH → Prop} {g : Nat} {x2 : Int32} (hg : PG (vL V) g) (h : vwp E d M_X1_weightOf 5 [some (sl 0 10), some (sl g 0), some (wi x2), some (wi 0), some (wi 0)] [] V (zi K)) : vMI E d M_X1_weightOf [sl 0 10, sl g 0, wi x2] V K := by
  intro G A hR
  obtain ⟨L, P, rfl, hS⟩ := hR
  have hx := Xt.refl (V := pl G A L P) (A := A)
  show wpM E d M_X1_weightOf [vr (A 0 10), vr (A g 0), vi x2] G _
  refine wpM_of mk_X1_weightOf (Nat.le_of_ble_eq_true rfl) ?_
  refine v_X1_weightOf_0 ?_
  exact wp.mono (h G A ⟨L, P, rfl, hS⟩) (fun r G' q => qx_trans hx q)
theorem w_X1_weightOf_5 {E : EE} {d : Nat} {V : VH} {K : Int32 → VH → Prop} {g : Nat} {x2 : Int32} {x3 : Int32} {x4 : Int32} (hg : PG (vL V) g) (h : ((vI V 0 10 4) ≤ x4 → K x3 V) ∧ (¬ ((vI V 0 10 4) ≤ x4) → vp_in x4 12 ∧ (vp_in (vI V 0 14 (Int32.toNatClampNeg x4)) 24 ∧ (vwp E d M_X1_weightOf 5 [some (sl 0 10), some (sl g 0), some (wi x2), some (wi (x3 + (((x2 >>> (x4 &&& 31)) &&& 1) * (vI V g 11 (Int32.toNatClampNeg (vI V 0 14 (Int32.toNatClampNeg x4))))))), some (wi (x4 + 1))] [] V (zi K))))) : vwp E d M_X1_weightOf 5 [some (sl 0 10), some (sl g 0), some (wi x2), some (wi x3), some (wi x4)] [] V (zi K) := by
  intro G A hR
  obtain ⟨L, P, rfl, hS⟩ := hR
  have hx := Xt.refl (V := pl G A L P) (A := A)
  show wp E d M_X1_weightOf 5 [some (vr (A 0 10)), some (vr (A g 0)), some (vi x2), some (vi x3), some (vi x4)] [] G _
  refine v_X1_weightOf_5 ?_
  refine ⟨hS.o (s0_10 hS), ?_⟩
  refine ⟨fun hc => ?_, fun hc => ?_⟩
  · have h := h.1 hc
    exact qx_i hS hx h
  · have h := h.2 hc
    refine ⟨hS.o (sP_0 hg), ?_⟩
    rw [lP_0_5 hS hg]
    refine ⟨hS.o (sP_9 hg), ?_⟩
    rw [lP_9_5 hS hg]
    rw [l0_10_3 hS]
    refine ⟨hS.o (s0_14 hS), ?_⟩
    obtain ⟨hi1, h⟩ := h
    refine ⟨by first | (rw [(n0_14 hS)]; exact hi1) | exact (congrArg (vp_in _) (n0_14 hS)).mpr hi1 | exact hi1, ?_⟩
    refine ⟨hS.o (sP_11 hg), ?_⟩
    obtain ⟨hi2, h⟩ := h
    refine ⟨by first | (rw [(nP_11 hS hg)]; exact hi2) | exact (congrArg (vp_in _) (nP_11 hS hg)).mpr hi2 | exact hi2, ?_⟩
    exact wp.mono (h G A ⟨L, P, rfl, hS⟩) (fun r G' q => qx_trans hx q)
theorem w_X1_isClash_0 {E : EE} {d : Nat} {V : VH} {K : Int32 → VH → Prop} {x1 : Int32} {x2 : Int32}  (h : ((x2 &&& (x1 ^^^ (-1))) < 0 → vwp E d M_X1_isClash 28 [some (sl 0 10), some (wi x1), some (wi x2), some (wi (x2 &&& (x1 ^^^ (-1))))] [] V (zi K)) ∧ (¬ ((x2 &&& (x1 ^^^ (-1))) < 0) → ((nI (vN V 0 15)) ≤ (x2 &&& (x1 ^^^ (-1))) → vwp E d M_X1_isClash 28 [some (sl 0 10), some (wi x1), some (wi x2), some (wi (x2 &&& (x1 ^^^ (-1))))] [] V (zi K)) ∧ (¬ ((nI (vN V 0 15)) ≤ (x2 &&& (x1 ^^^ (-1)))) → vp_in (x2 &&& (x1 ^^^ (-1))) (vN V 0 15) ∧ ((¬ (vI V 0 15 (Int32.toNatClampNeg (x2 &&& (x1 ^^^ (-1))))) = 0 → K 0 V) ∧ ((vI V 0 15 (Int32.toNatClampNeg (x2 &&& (x1 ^^^ (-1))))) = 0 → vwp E d M_X1_isClash 28 [some (sl 0 10), some (wi x1), some (wi x2), some (wi (x2 &&& (x1 ^^^ (-1))))] [] V (zi K)))))) : vMI E d M_X1_isClash [sl 0 10, wi x1, wi x2] V K := by
  intro G A hR
  obtain ⟨L, P, rfl, hS⟩ := hR
  have hx := Xt.refl (V := pl G A L P) (A := A)
  show wpM E d M_X1_isClash [vr (A 0 10), vi x1, vi x2] G _
  refine wpM_of mk_X1_isClash (Nat.le_of_ble_eq_true rfl) ?_
  refine v_X1_isClash_0 ?_
  refine ⟨fun hc => ?_, fun hc => ?_⟩
  · have h := h.1 hc
    exact wp.mono (h G A ⟨L, P, rfl, hS⟩) (fun r G' q => qx_trans hx q)
  · have h := h.2 hc
    refine ⟨hS.o (s0_10 hS), ?_⟩
    rw [l0_10_5 hS]
    refine ⟨hS.o (s0_15 hS), ?_⟩
    refine ⟨fun hc => ?_, fun hc => ?_⟩
    · have h := h.1 hc
      exact wp.mono (h G A ⟨L, P, rfl, hS⟩) (fun r G' q => qx_trans hx q)
    · have h := h.2 hc
      obtain ⟨hi1, h⟩ := h
      refine ⟨hi1, ?_⟩
      refine ⟨fun hc => ?_, fun hc => ?_⟩
      · have h := h.1 hc
        exact qx_i hS hx h
      · have h := h.2 hc
        exact wp.mono (h G A ⟨L, P, rfl, hS⟩) (fun r G' q => qx_trans hx q)
theorem w_X1_isClash_28 {E : EE} {d : Nat} {V : VH} {K : Int32 → VH → Prop} {x1 : Int32} {x2 : Int32} {x3 : Int32}  (h : K 1 V) : vwp E d M_X1_isClash 28 [some (sl 0 10), some (wi x1), some (wi x2), some (wi x3)] [] V (zi K) := by
  intro G A hR
  obtain ⟨L, P, rfl, hS⟩ := hR
  have hx := Xt.refl (V := pl G A L P) (A := A)
  show wp E d M_X1_isClash 28 [some (vr (A 0 10)), some (vi x1), some (vi x2), some (vi x3)] [] G _
  refine v_X1_isClash_28 ?_
  exact qx_i hS hx h
theorem w_X1_byNumber_0 {E : EE} {d : Nat} {V : VH} {K : Int32 → VH → Prop} {x1 : Int32}  (h : vwp E d M_X1_byNumber 4 [some (sl 0 10), some (wi x1), some (wi 0), some (wi 0)] [] V (zi K)) : vMI E d M_X1_byNumber [sl 0 10, wi x1] V K := by
  intro G A hR
  obtain ⟨L, P, rfl, hS⟩ := hR
  have hx := Xt.refl (V := pl G A L P) (A := A)
  show wpM E d M_X1_byNumber [vr (A 0 10), vi x1] G _
  refine wpM_of mk_X1_byNumber (Nat.le_of_ble_eq_true rfl) ?_
  refine v_X1_byNumber_0 ?_
  exact wp.mono (h G A ⟨L, P, rfl, hS⟩) (fun r G' q => qx_trans hx q)
theorem w_X1_byNumber_4 {E : EE} {d : Nat} {V : VH} {K : Int32 → VH → Prop} {x1 : Int32} {x2 : Int32} {x3 : Int32}  (h : ((vI V 0 10 4) ≤ x3 → K x2 V) ∧ (¬ ((vI V 0 10 4) ≤ x3) → vp_in x3 12 ∧ (vwp E d M_X1_byNumber 4 [some (sl 0 10), some (wi x1), some (wi (x2 ||| (((x1 >>> (x3 &&& 31)) &&& 1) <<< ((vI V 0 14 (Int32.toNatClampNeg x3)) &&& 31)))), some (wi (x3 + 1))] [] V (zi K)))) : vwp E d M_X1_byNumber 4 [some (sl 0 10), some (wi x1), some (wi x2), some (wi x3)] [] V (zi K) := by
  intro G A hR
  obtain ⟨L, P, rfl, hS⟩ := hR
  have hx := Xt.refl (V := pl G A L P) (A := A)
  show wp E d M_X1_byNumber 4 [some (vr (A 0 10)), some (vi x1), some (vi x2), some (vi x3)] [] G _
  refine v_X1_byNumber_4 ?_
  refine ⟨hS.o (s0_10 hS), ?_⟩
  refine ⟨fun hc => ?_, fun hc => ?_⟩
  · have h := h.1 hc
    exact qx_i hS hx h
  · have h := h.2 hc
    rw [l0_10_3 hS]
    refine ⟨hS.o (s0_14 hS), ?_⟩
    obtain ⟨hi1, h⟩ := h
    refine ⟨by first | (rw [(n0_14 hS)]; exact hi1) | exact (congrArg (vp_in _) (n0_14 hS)).mpr hi1 | exact hi1, ?_⟩
    exact wp.mono (h G A ⟨L, P, rfl, hS⟩) (fun r G' q => qx_trans hx q)
theorem w_X1_smallest_0 {E : EE} {d : Nat} {V : VH} {K : Int32 → VH → Prop} {g : Nat} (hg : PG (vL V) g) (h0 : 0 < d) (h : vMI E (d - 1) M_X1_lookAtSets [sl 0 10, sl g 0] V (fun r1 V1 => vwp E d M_X1_smallest 15 [some (sl 0 10), some (sl g 0), some (wi r1), some (wi 0), some (wi 13), some (wi 1), none] [] V1 (zi K))) : vMI E d M_X1_smallest [sl 0 10, sl g 0] V K := by
  intro G A hR
  obtain ⟨L, P, rfl, hS⟩ := hR
  have hx := Xt.refl (V := pl G A L P) (A := A)
  show wpM E d M_X1_smallest [vr (A 0 10), vr (A g 0)] G _
  refine wpM_of mk_X1_smallest (Nat.le_of_ble_eq_true rfl) ?_
  refine v_X1_smallest_0 h0 ?_
  refine ⟨hS.o (s0_10 hS), ?_⟩
  refine wpM.mono (h G A ⟨L, P, rfl, hS⟩) (fun rr1 G1 hr => ?_)
  obtain ⟨A1, W1, w1, ⟨L1, P1, rfl, hS1⟩, hy1, rfl, r1, rfl, h⟩ := hr
  refine ⟨r1, rfl, ?_⟩
  have hx1 := Xt.trans hx hy1
  have hg2 : PG L1 g := PG.up hy1 hg
  have ee3 : A1 0 10 = A 0 10 := hy1.2 _ _ hS.1.1 (((n0_10 hS1)).trans ((n0_10 hS)).symm)
  try rw [← ee3]
  have ee4 : A1 g 0 = A g 0 := hy1.2 _ _ hg.1 (((nP_0 hS1 hg2)).trans ((nP_0 hS hg)).symm)
  try rw [← ee4]
  exact wp.mono (h G1 A1 ⟨L1, P1, rfl, hS1⟩) (fun r G' q => qx_trans hx1 q)
theorem w_X1_smallest_15 {E : EE} {d : Nat} {V : VH} {K : Int32 → VH → Prop} {g : Nat} {x2 : Int32} {x3 : Int32} {x4 : Int32} {x5 : Int32} (hg : PG (vL V) g) (h0 : 0 < d) (h : (x2 < x5 → vMI E (d - 1) M_X1_byNumber [sl 0 10, wi x3] V (fun r1 V1 => K r1 V1)) ∧ (¬ (x2 < x5) → vMI E (d - 1) M_J6_bitCount_0f7a4 [wi x5] V (fun r5 V5 => (x4 ≤ r5 → vwp E d M_X1_smallest 55 [some (sl 0 10), some (sl g 0), some (wi x2), some (wi x3), some (wi x4), some (wi x5), some (wi r5)] [] V5 (zi K)) ∧ (¬ (x4 ≤ r5) → vMI E (d - 1) M_X1_isClash [sl 0 10, wi x5, wi x2] V5 (fun r9 V9 => (¬ r9 = 0 → vwp E d M_X1_smallest 55 [some (sl 0 10), some (sl g 0), some (wi x2), some (wi x5), some (wi r5), some (wi x5), some (wi r5)] [] V9 (zi K)) ∧ (r9 = 0 → vwp E d M_X1_smallest 55 [some (sl 0 10), some (sl g 0), some (wi x2), some (wi x3), some (wi x4), some (wi x5), some (wi r5)] [] V9 (zi K))))))) : vwp E d M_X1_smallest 15 [some (sl 0 10), some (sl g 0), some (wi x2), some (wi x3), some (wi x4), some (wi x5), none] [] V (zi K) := by
  intro G A hR
  obtain ⟨L, P, rfl, hS⟩ := hR
  have hx := Xt.refl (V := pl G A L P) (A := A)
  show wp E d M_X1_smallest 15 [some (vr (A 0 10)), some (vr (A g 0)), some (vi x2), some (vi x3), some (vi x4), some (vi x5), none] [] G _
  refine v_X1_smallest_15 h0 ?_
  refine ⟨fun hc => ?_, fun hc => ?_⟩
  · have h := h.1 hc
    refine ⟨hS.o (s0_10 hS), ?_⟩
    refine wpM.mono (h G A ⟨L, P, rfl, hS⟩) (fun rr1 G1 hr => ?_)
    obtain ⟨A1, W1, w1, ⟨L1, P1, rfl, hS1⟩, hy1, rfl, r1, rfl, h⟩ := hr
    refine ⟨r1, rfl, ?_⟩
    have hx1 := Xt.trans hx hy1
    have hg2 : PG L1 g := PG.up hy1 hg
    have ee3 : A1 0 10 = A 0 10 := hy1.2 _ _ hS.1.1 (((n0_10 hS1)).trans ((n0_10 hS)).symm)
    try rw [← ee3]
    have ee4 : A1 g 0 = A g 0 := hy1.2 _ _ hg.1 (((nP_0 hS1 hg2)).trans ((nP_0 hS hg)).symm)
    try rw [← ee4]
    exact qx_i hS1 hx1 h
  · have h := h.2 hc
    refine wpM.mono (h G A ⟨L, P, rfl, hS⟩) (fun rr5 G5 hr => ?_)
    obtain ⟨A5, W5, w5, ⟨L5, P5, rfl, hS5⟩, hy5, rfl, r5, rfl, h⟩ := hr
    refine ⟨r5, rfl, ?_⟩
    have hx5 := Xt.trans hx hy5
    have hg6 : PG L5 g := PG.up hy5 hg
    have ee7 : A5 0 10 = A 0 10 := hy5.2 _ _ hS.1.1 (((n0_10 hS5)).trans ((n0_10 hS)).symm)
    try rw [← ee7]
    have ee8 : A5 g 0 = A g 0 := hy5.2 _ _ hg.1 (((nP_0 hS5 hg6)).trans ((nP_0 hS hg)).symm)
    try rw [← ee8]
    refine ⟨fun hc => ?_, fun hc => ?_⟩
    · have h := h.1 hc
      exact wp.mono (h G5 A5 ⟨L5, P5, rfl, hS5⟩) (fun r G' q => qx_trans hx5 q)
    · have h := h.2 hc
      refine ⟨hS5.o (s0_10 hS5), ?_⟩
      refine wpM.mono (h G5 A5 ⟨L5, P5, rfl, hS5⟩) (fun rr9 G9 hr => ?_)
      obtain ⟨A9, W9, w9, ⟨L9, P9, rfl, hS9⟩, hy9, rfl, r9, rfl, h⟩ := hr
      refine ⟨r9, rfl, ?_⟩
      have hx9 := Xt.trans hx5 hy9
      have hg10 : PG L9 g := PG.up hy9 hg6
      have ee11 : A9 0 10 = A5 0 10 := hy9.2 _ _ hS5.1.1 (((n0_10 hS9)).trans ((n0_10 hS5)).symm)
      try rw [← ee11]
      have ee12 : A9 g 0 = A5 g 0 := hy9.2 _ _ hg6.1 (((nP_0 hS9 hg10)).trans ((nP_0 hS5 hg6)).symm)
      try rw [← ee12]
      refine ⟨fun hc => ?_, fun hc => ?_⟩
      · have h := h.1 hc
        exact wp.mono (h G9 A9 ⟨L9, P9, rfl, hS9⟩) (fun r G' q => qx_trans hx9 q)
      · have h := h.2 hc
        exact wp.mono (h G9 A9 ⟨L9, P9, rfl, hS9⟩) (fun r G' q => qx_trans hx9 q)
theorem w_X1_smallest_55 {E : EE} {d : Nat} {V : VH} {K : Int32 → VH → Prop} {g : Nat} {x2 : Int32} {x3 : Int32} {x4 : Int32} {x5 : Int32} {x6 : Int32} (hg : PG (vL V) g) (h : vwp E d M_X1_smallest 15 [some (sl 0 10), some (sl g 0), some (wi x2), some (wi x3), some (wi x4), some (wi (x5 + 1)), none] [] V (zi K)) : vwp E d M_X1_smallest 55 [some (sl 0 10), some (sl g 0), some (wi x2), some (wi x3), some (wi x4), some (wi x5), some (wi x6)] [] V (zi K) := by
  intro G A hR
  obtain ⟨L, P, rfl, hS⟩ := hR
  have hx := Xt.refl (V := pl G A L P) (A := A)
  show wp E d M_X1_smallest 55 [some (vr (A 0 10)), some (vr (A g 0)), some (vi x2), some (vi x3), some (vi x4), some (vi x5), some (vi x6)] [] G _
  refine v_X1_smallest_55 ?_
  exact wp.mono (h G A ⟨L, P, rfl, hS⟩) (fun r G' q => qx_trans hx q)
theorem w_X1_narrowed_0 {E : EE} {d : Nat} {V : VH} {K : Int32 → VH → Prop} {g : Nat} (hg : PG (vL V) g) (h0 : 0 < d) (h : vMI E (d - 1) M_X1_lookAtSets [sl 0 10, sl g 0] V (fun r1 V1 => vMI E (d - 1) M_X1_isClash [sl 0 10, wi r1, wi r1] V1 (fun r5 V5 => (¬ r5 = 0 → vwp E d M_X1_narrowed 22 [some (sl 0 10), some (sl g 0), some (wi r1), some (wi r1), some (wi 0), none] [] V5 (zi K)) ∧ (r5 = 0 → K 0 V5)))) : vMI E d M_X1_narrowed [sl 0 10, sl g 0] V K := by
  intro G A hR
  obtain ⟨L, P, rfl, hS⟩ := hR
  have hx := Xt.refl (V := pl G A L P) (A := A)
  show wpM E d M_X1_narrowed [vr (A 0 10), vr (A g 0)] G _
  refine wpM_of mk_X1_narrowed (Nat.le_of_ble_eq_true rfl) ?_
  refine v_X1_narrowed_0 h0 ?_
  refine ⟨hS.o (s0_10 hS), ?_⟩
  refine wpM.mono (h G A ⟨L, P, rfl, hS⟩) (fun rr1 G1 hr => ?_)
  obtain ⟨A1, W1, w1, ⟨L1, P1, rfl, hS1⟩, hy1, rfl, r1, rfl, h⟩ := hr
  refine ⟨r1, rfl, ?_⟩
  have hx1 := Xt.trans hx hy1
  have hg2 : PG L1 g := PG.up hy1 hg
  have ee3 : A1 0 10 = A 0 10 := hy1.2 _ _ hS.1.1 (((n0_10 hS1)).trans ((n0_10 hS)).symm)
  try rw [← ee3]
  have ee4 : A1 g 0 = A g 0 := hy1.2 _ _ hg.1 (((nP_0 hS1 hg2)).trans ((nP_0 hS hg)).symm)
  try rw [← ee4]
  refine ⟨hS1.o (s0_10 hS1), ?_⟩
  refine wpM.mono (h G1 A1 ⟨L1, P1, rfl, hS1⟩) (fun rr5 G5 hr => ?_)
  obtain ⟨A5, W5, w5, ⟨L5, P5, rfl, hS5⟩, hy5, rfl, r5, rfl, h⟩ := hr
  refine ⟨r5, rfl, ?_⟩
  have hx5 := Xt.trans hx1 hy5
  have hg6 : PG L5 g := PG.up hy5 hg2
  have ee7 : A5 0 10 = A1 0 10 := hy5.2 _ _ hS1.1.1 (((n0_10 hS5)).trans ((n0_10 hS1)).symm)
  try rw [← ee7]
  have ee8 : A5 g 0 = A1 g 0 := hy5.2 _ _ hg2.1 (((nP_0 hS5 hg6)).trans ((nP_0 hS1 hg2)).symm)
  try rw [← ee8]
  refine ⟨fun hc => ?_, fun hc => ?_⟩
  · have h := h.1 hc
    exact wp.mono (h G5 A5 ⟨L5, P5, rfl, hS5⟩) (fun r G' q => qx_trans hx5 q)
  · have h := h.2 hc
    exact qx_i hS5 hx5 h
theorem w_X1_narrowed_22 {E : EE} {d : Nat} {V : VH} {K : Int32 → VH → Prop} {g : Nat} {x2 : Int32} {x3 : Int32} {x4 : Int32} (hg : PG (vL V) g) (h0 : 0 < d) (h : ((vI V 0 10 4) ≤ x4 → vMI E (d - 1) M_X1_byNumber [sl 0 10, wi x3] V (fun r1 V1 => K r1 V1)) ∧ (¬ ((vI V 0 10 4) ≤ x4) → vMI E (d - 1) M_X1_isClash [sl 0 10, wi (x3 &&& ((1 <<< (x4 &&& 31)) ^^^ (-1))), wi x2] V (fun r5 V5 => (r5 = 0 → vwp E d M_X1_narrowed 54 [some (sl 0 10), some (sl g 0), some (wi x2), some (wi x3), some (wi x4), some (wi (x3 &&& ((1 <<< (x4 &&& 31)) ^^^ (-1))))] [] V5 (zi K)) ∧ (¬ (r5 = 0) → vwp E d M_X1_narrowed 54 [some (sl 0 10), some (sl g 0), some (wi x2), some (wi (x3 &&& ((1 <<< (x4 &&& 31)) ^^^ (-1)))), some (wi x4), some (wi (x3 &&& ((1 <<< (x4 &&& 31)) ^^^ (-1))))] [] V5 (zi K))))) : vwp E d M_X1_narrowed 22 [some (sl 0 10), some (sl g 0), some (wi x2), some (wi x3), some (wi x4), none] [] V (zi K) := by
  intro G A hR
  obtain ⟨L, P, rfl, hS⟩ := hR
  have hx := Xt.refl (V := pl G A L P) (A := A)
  show wp E d M_X1_narrowed 22 [some (vr (A 0 10)), some (vr (A g 0)), some (vi x2), some (vi x3), some (vi x4), none] [] G _
  refine v_X1_narrowed_22 h0 ?_
  refine ⟨hS.o (s0_10 hS), ?_⟩
  refine ⟨fun hc => ?_, fun hc => ?_⟩
  · have h := h.1 hc
    refine wpM.mono (h G A ⟨L, P, rfl, hS⟩) (fun rr1 G1 hr => ?_)
    obtain ⟨A1, W1, w1, ⟨L1, P1, rfl, hS1⟩, hy1, rfl, r1, rfl, h⟩ := hr
    refine ⟨r1, rfl, ?_⟩
    have hx1 := Xt.trans hx hy1
    have hg2 : PG L1 g := PG.up hy1 hg
    have ee3 : A1 0 10 = A 0 10 := hy1.2 _ _ hS.1.1 (((n0_10 hS1)).trans ((n0_10 hS)).symm)
    try rw [← ee3]
    have ee4 : A1 g 0 = A g 0 := hy1.2 _ _ hg.1 (((nP_0 hS1 hg2)).trans ((nP_0 hS hg)).symm)
    try rw [← ee4]
    exact qx_i hS1 hx1 h
  · have h := h.2 hc
    refine wpM.mono (h G A ⟨L, P, rfl, hS⟩) (fun rr5 G5 hr => ?_)
    obtain ⟨A5, W5, w5, ⟨L5, P5, rfl, hS5⟩, hy5, rfl, r5, rfl, h⟩ := hr
    refine ⟨r5, rfl, ?_⟩
    have hx5 := Xt.trans hx hy5
    have hg6 : PG L5 g := PG.up hy5 hg
    have ee7 : A5 0 10 = A 0 10 := hy5.2 _ _ hS.1.1 (((n0_10 hS5)).trans ((n0_10 hS)).symm)
    try rw [← ee7]
    have ee8 : A5 g 0 = A g 0 := hy5.2 _ _ hg.1 (((nP_0 hS5 hg6)).trans ((nP_0 hS hg)).symm)
    try rw [← ee8]
    refine ⟨fun hc => ?_, fun hc => ?_⟩
    · have h := h.1 hc
      exact wp.mono (h G5 A5 ⟨L5, P5, rfl, hS5⟩) (fun r G' q => qx_trans hx5 q)
    · have h := h.2 hc
      exact wp.mono (h G5 A5 ⟨L5, P5, rfl, hS5⟩) (fun r G' q => qx_trans hx5 q)
theorem w_X1_narrowed_54 {E : EE} {d : Nat} {V : VH} {K : Int32 → VH → Prop} {g : Nat} {x2 : Int32} {x3 : Int32} {x4 : Int32} {x5 : Int32} (hg : PG (vL V) g) (h : vwp E d M_X1_narrowed 22 [some (sl 0 10), some (sl g 0), some (wi x2), some (wi x3), some (wi (x4 + 1)), none] [] V (zi K)) : vwp E d M_X1_narrowed 54 [some (sl 0 10), some (sl g 0), some (wi x2), some (wi x3), some (wi x4), some (wi x5)] [] V (zi K) := by
  intro G A hR
  obtain ⟨L, P, rfl, hS⟩ := hR
  have hx := Xt.refl (V := pl G A L P) (A := A)
  show wp E d M_X1_narrowed 54 [some (vr (A 0 10)), some (vr (A g 0)), some (vi x2), some (vi x3), some (vi x4), some (vi x5)] [] G _
  refine v_X1_narrowed_54 ?_
  exact wp.mono (h G A ⟨L, P, rfl, hS⟩) (fun r G' q => qx_trans hx q)
theorem w_X1_alwaysBroken_0 {E : EE} {d : Nat} {V : VH} {K : Int32 → VH → Prop} {g : Nat} (hg : PG (vL V) g) (h0 : 0 < d) (h : vMI E (d - 1) M_X7_lowest [sl g 5, wi (vI V g 0 8), wi (vI V g 0 9)] V (fun r1 V1 => vwp E d M_X1_alwaysBroken 27 [some (sl 0 10), some (sl g 0), some (wi (vI V g 9 0)), some (wi r1), some (wi 0)] [] V1 (zi K))) : vMI E d M_X1_alwaysBroken [sl 0 10, sl g 0] V K := by
  intro G A hR
  obtain ⟨L, P, rfl, hS⟩ := hR
  have hx := Xt.refl (V := pl G A L P) (A := A)
  show wpM E d M_X1_alwaysBroken [vr (A 0 10), vr (A g 0)] G _
  refine wpM_of mk_X1_alwaysBroken (Nat.le_of_ble_eq_true rfl) ?_
  refine v_X1_alwaysBroken_0 h0 ?_
  refine ⟨hS.o (sP_0 hg), ?_⟩
  rw [lP_0_5 hS hg]
  refine ⟨hS.o (sP_9 hg), ?_⟩
  rw [lP_0_4 hS hg]
  refine ⟨hS.o (sP_5 hg), ?_⟩
  refine wpM.mono (h G A ⟨L, P, rfl, hS⟩) (fun rr1 G1 hr => ?_)
  obtain ⟨A1, W1, w1, ⟨L1, P1, rfl, hS1⟩, hy1, rfl, r1, rfl, h⟩ := hr
  refine ⟨r1, rfl, ?_⟩
  have hx1 := Xt.trans hx hy1
  have hg2 : PG L1 g := PG.up hy1 hg
  have ee3 : A1 0 10 = A 0 10 := hy1.2 _ _ hS.1.1 (((n0_10 hS1)).trans ((n0_10 hS)).symm)
  try rw [← ee3]
  have ee4 : A1 g 0 = A g 0 := hy1.2 _ _ hg.1 (((nP_0 hS1 hg2)).trans ((nP_0 hS hg)).symm)
  try rw [← ee4]
  exact wp.mono (h G1 A1 ⟨L1, P1, rfl, hS1⟩) (fun r G' q => qx_trans hx1 q)
theorem w_X1_alwaysBroken_27 {E : EE} {d : Nat} {V : VH} {K : Int32 → VH → Prop} {g : Nat} {x2 : Int32} {x3 : Int32} {x4 : Int32} (hg : PG (vL V) g) (h0 : 0 < d) (h : ((vI V g 5 1) ≤ x4 → vwp E d M_X1_alwaysBroken 73 [some (sl 0 10), some (sl g 0), some (wi x2), some (wi x3), some (wi x4)] [] V (zi K)) ∧ (¬ ((vI V g 5 1) ≤ x4) → (x3 < 0 → vwp E d M_X1_alwaysBroken 73 [some (sl 0 10), some (sl g 0), some (wi x2), some (wi x3), some (wi x4)] [] V (zi K)) ∧ (¬ (x3 < 0) → vMI E (d - 1) M_X9_setOf [sl g 19, wi x3] V (fun r1 V1 => vMI E (d - 1) M_X7_following [sl g 5, wi x3, wi (vI V1 g 0 9)] V1 (fun r5 V5 => vwp E d M_X1_alwaysBroken 27 [some (sl 0 10), some (sl g 0), some (wi (x2 &&& r1)), some (wi r5), some (wi (x4 + 1))] [] V5 (zi K)))))) : vwp E d M_X1_alwaysBroken 27 [some (sl 0 10), some (sl g 0), some (wi x2), some (wi x3), some (wi x4)] [] V (zi K) := by
  intro G A hR
  obtain ⟨L, P, rfl, hS⟩ := hR
  have hx := Xt.refl (V := pl G A L P) (A := A)
  show wp E d M_X1_alwaysBroken 27 [some (vr (A 0 10)), some (vr (A g 0)), some (vi x2), some (vi x3), some (vi x4)] [] G _
  refine v_X1_alwaysBroken_27 h0 ?_
  refine ⟨hS.o (sP_0 hg), ?_⟩
  rw [lP_0_4 hS hg]
  refine ⟨hS.o (sP_5 hg), ?_⟩
  refine ⟨fun hc => ?_, fun hc => ?_⟩
  · have h := h.1 hc
    exact wp.mono (h G A ⟨L, P, rfl, hS⟩) (fun r G' q => qx_trans hx q)
  · have h := h.2 hc
    refine ⟨fun hc => ?_, fun hc => ?_⟩
    · have h := h.1 hc
      exact wp.mono (h G A ⟨L, P, rfl, hS⟩) (fun r G' q => qx_trans hx q)
    · have h := h.2 hc
      rw [lP_0_6 hS hg]
      refine ⟨hS.o (sP_19 hg), ?_⟩
      refine wpM.mono (h G A ⟨L, P, rfl, hS⟩) (fun rr1 G1 hr => ?_)
      obtain ⟨A1, W1, w1, ⟨L1, P1, rfl, hS1⟩, hy1, rfl, r1, rfl, h⟩ := hr
      refine ⟨r1, rfl, ?_⟩
      have hx1 := Xt.trans hx hy1
      have hg2 : PG L1 g := PG.up hy1 hg
      have ee3 : A1 0 10 = A 0 10 := hy1.2 _ _ hS.1.1 (((n0_10 hS1)).trans ((n0_10 hS)).symm)
      try rw [← ee3]
      have ee4 : A1 g 0 = A g 0 := hy1.2 _ _ hg.1 (((nP_0 hS1 hg2)).trans ((nP_0 hS hg)).symm)
      try rw [← ee4]
      refine ⟨hS1.o (sP_0 hg2), ?_⟩
      rw [lP_0_4 hS1 hg2]
      refine ⟨hS1.o (sP_5 hg2), ?_⟩
      refine wpM.mono (h G1 A1 ⟨L1, P1, rfl, hS1⟩) (fun rr5 G5 hr => ?_)
      obtain ⟨A5, W5, w5, ⟨L5, P5, rfl, hS5⟩, hy5, rfl, r5, rfl, h⟩ := hr
      refine ⟨r5, rfl, ?_⟩
      have hx5 := Xt.trans hx1 hy5
      have hg6 : PG L5 g := PG.up hy5 hg2
      have ee7 : A5 0 10 = A1 0 10 := hy5.2 _ _ hS1.1.1 (((n0_10 hS5)).trans ((n0_10 hS1)).symm)
      try rw [← ee7]
      have ee8 : A5 g 0 = A1 g 0 := hy5.2 _ _ hg2.1 (((nP_0 hS5 hg6)).trans ((nP_0 hS1 hg2)).symm)
      try rw [← ee8]
      exact wp.mono (h G5 A5 ⟨L5, P5, rfl, hS5⟩) (fun r G' q => qx_trans hx5 q)
theorem w_X1_alwaysBroken_73 {E : EE} {d : Nat} {V : VH} {K : Int32 → VH → Prop} {g : Nat} {x2 : Int32} {x3 : Int32} {x4 : Int32} (hg : PG (vL V) g) (h0 : 0 < d) (h : (¬ x2 = 0 → vMI E (d - 1) M_J6_numberOfTrailingZeros_0f7a4 [wi x2] V (fun r1 V1 => K r1 V1)) ∧ (x2 = 0 → K (-1) V)) : vwp E d M_X1_alwaysBroken 73 [some (sl 0 10), some (sl g 0), some (wi x2), some (wi x3), some (wi x4)] [] V (zi K) := by
  intro G A hR
  obtain ⟨L, P, rfl, hS⟩ := hR
  have hx := Xt.refl (V := pl G A L P) (A := A)
  show wp E d M_X1_alwaysBroken 73 [some (vr (A 0 10)), some (vr (A g 0)), some (vi x2), some (vi x3), some (vi x4)] [] G _
  refine v_X1_alwaysBroken_73 h0 ?_
  refine ⟨fun hc => ?_, fun hc => ?_⟩
  · have h := h.1 hc
    refine wpM.mono (h G A ⟨L, P, rfl, hS⟩) (fun rr1 G1 hr => ?_)
    obtain ⟨A1, W1, w1, ⟨L1, P1, rfl, hS1⟩, hy1, rfl, r1, rfl, h⟩ := hr
    refine ⟨r1, rfl, ?_⟩
    have hx1 := Xt.trans hx hy1
    have hg2 : PG L1 g := PG.up hy1 hg
    have ee3 : A1 0 10 = A 0 10 := hy1.2 _ _ hS.1.1 (((n0_10 hS1)).trans ((n0_10 hS)).symm)
    try rw [← ee3]
    have ee4 : A1 g 0 = A g 0 := hy1.2 _ _ hg.1 (((nP_0 hS1 hg2)).trans ((nP_0 hS hg)).symm)
    try rw [← ee4]
    exact qx_i hS1 hx1 h
  · have h := h.2 hc
    exact qx_i hS hx h
theorem w_X1_workOut_0 {E : EE} {d : Nat} {V : VH} {K : Int32 → VH → Prop} {g : Nat} (hg : PG (vL V) g) (h0 : 0 < d) (h : vMV E (d - 1) M_X1_listRules [sl 0 10, sl g 0] V (fun V1 => vwp E d M_X1_workOut 7 [some (sl 0 10), some (sl g 0), some (wi 0), none, none] [] V1 (zi K))) : vMI E d M_X1_workOut [sl 0 10, sl g 0] V K := by
  intro G A hR
  obtain ⟨L, P, rfl, hS⟩ := hR
  have hx := Xt.refl (V := pl G A L P) (A := A)
  show wpM E d M_X1_workOut [vr (A 0 10), vr (A g 0)] G _
  refine wpM_of mk_X1_workOut (Nat.le_of_ble_eq_true rfl) ?_
  refine v_X1_workOut_0 h0 ?_
  refine ⟨hS.o (s0_10 hS), ?_⟩
  refine wpM.mono (h G A ⟨L, P, rfl, hS⟩) (fun rr1 G1 hr => ?_)
  obtain ⟨A1, W1, w1, ⟨L1, P1, rfl, hS1⟩, hy1, rfl, rfl, h⟩ := hr
  refine ⟨rfl, ?_⟩
  have hx1 := Xt.trans hx hy1
  have hg2 : PG L1 g := PG.up hy1 hg
  have ee3 : A1 0 10 = A 0 10 := hy1.2 _ _ hS.1.1 (((n0_10 hS1)).trans ((n0_10 hS)).symm)
  try rw [← ee3]
  have ee4 : A1 g 0 = A g 0 := hy1.2 _ _ hg.1 (((nP_0 hS1 hg2)).trans ((nP_0 hS hg)).symm)
  try rw [← ee4]
  exact wp.mono (h G1 A1 ⟨L1, P1, rfl, hS1⟩) (fun r G' q => qx_trans hx1 q)
theorem w_X1_workOut_7 {E : EE} {d : Nat} {V : VH} {K : Int32 → VH → Prop} {g : Nat} {x2 : Int32} (hg : PG (vL V) g) (h : ((vI V g 5 0) ≤ x2 → vwp E d M_X1_workOut 85 [some (sl 0 10), some (sl g 0), some (wi 1), some (wi 0), none] [] V (zi K)) ∧ (¬ ((vI V g 5 0) ≤ x2) → ((((vI V g 0 9) >>> (x2 &&& 31)) &&& 1) = 0 → vwp E d M_X1_workOut 34 [some (sl 0 10), some (sl g 0), some (wi x2), none, none] [wi 0] V (zi K)) ∧ (¬ ((((vI V g 0 9) >>> (x2 &&& 31)) &&& 1) = 0) → vwp E d M_X1_workOut 34 [some (sl 0 10), some (sl g 0), some (wi x2), none, none] [wi 1] V (zi K)))) : vwp E d M_X1_workOut 7 [some (sl 0 10), some (sl g 0), some (wi x2), none, none] [] V (zi K) := by
  intro G A hR
  obtain ⟨L, P, rfl, hS⟩ := hR
  have hx := Xt.refl (V := pl G A L P) (A := A)
  show wp E d M_X1_workOut 7 [some (vr (A 0 10)), some (vr (A g 0)), some (vi x2), none, none] [] G _
  refine v_X1_workOut_7 ?_
  refine ⟨hS.o (sP_0 hg), ?_⟩
  rw [lP_0_4 hS hg]
  refine ⟨hS.o (sP_5 hg), ?_⟩
  refine ⟨fun hc => ?_, fun hc => ?_⟩
  · have h := h.1 hc
    exact wp.mono (h G A ⟨L, P, rfl, hS⟩) (fun r G' q => qx_trans hx q)
  · have h := h.2 hc
    refine ⟨fun hc => ?_, fun hc => ?_⟩
    · have h := h.1 hc
      exact wp.mono (h G A ⟨L, P, rfl, hS⟩) (fun r G' q => qx_trans hx q)
    · have h := h.2 hc
      exact wp.mono (h G A ⟨L, P, rfl, hS⟩) (fun r G' q => qx_trans hx q)
theorem w_X1_workOut_34 {E : EE} {d : Nat} {V : VH} {K : Int32 → VH → Prop} {g : Nat} {x2 : Int32} {t0 : Int32} (hg : PG (vL V) g) (h0 : 0 < d) (h : (t0 = 0 → vp_in x2 12 ∧ (vwp E d M_X1_workOut 74 [some (sl 0 10), some (sl g 0), some (wi x2), some (wi t0), none] [wi ((1 <<< ((vI V g 6 (Int32.toNatClampNeg x2)) &&& 31)) - 1), wi x2, sl 0 11] V (zi K))) ∧ (¬ (t0 = 0) → vMI E (d - 1) M_X7_placeOf [sl g 5, wi (vI V g 0 8), wi x2] V (fun r2 V2 => vwp E d M_X1_workOut 74 [some (sl 0 10), some (sl g 0), some (wi x2), some (wi t0), none] [wi (1 <<< (r2 &&& 31)), wi x2, sl 0 11] V2 (zi K)))) : vwp E d M_X1_workOut 34 [some (sl 0 10), some (sl g 0), some (wi x2), none, none] [wi t0] V (zi K) := by
  intro G A hR
  obtain ⟨L, P, rfl, hS⟩ := hR
  have hx := Xt.refl (V := pl G A L P) (A := A)
  show wp E d M_X1_workOut 34 [some (vr (A 0 10)), some (vr (A g 0)), some (vi x2), none, none] [vi t0] G _
  refine v_X1_workOut_34 h0 ?_
  refine ⟨hS.o (s0_10 hS), ?_⟩
  rw [l0_10_0 hS]
  refine ⟨fun hc => ?_, fun hc => ?_⟩
  · have h := h.1 hc
    refine ⟨hS.o (sP_0 hg), ?_⟩
    rw [lP_0_4 hS hg]
    refine ⟨hS.o (sP_5 hg), ?_⟩
    rw [lP_5_2 hS hg]
    refine ⟨hS.o (sP_6 hg), ?_⟩
    obtain ⟨hi1, h⟩ := h
    refine ⟨by first | (rw [(nP_6 hS hg)]; exact hi1) | exact (congrArg (vp_in _) (nP_6 hS hg)).mpr hi1 | exact hi1, ?_⟩
    exact wp.mono (h G A ⟨L, P, rfl, hS⟩) (fun r G' q => qx_trans hx q)
  · have h := h.2 hc
    refine ⟨hS.o (sP_0 hg), ?_⟩
    rw [lP_0_4 hS hg]
    refine ⟨hS.o (sP_5 hg), ?_⟩
    refine wpM.mono (h G A ⟨L, P, rfl, hS⟩) (fun rr2 G2 hr => ?_)
    obtain ⟨A2, W2, w2, ⟨L2, P2, rfl, hS2⟩, hy2, rfl, r2, rfl, h⟩ := hr
    refine ⟨r2, rfl, ?_⟩
    have hx2 := Xt.trans hx hy2
    have hg3 : PG L2 g := PG.up hy2 hg
    have ee4 : A2 0 10 = A 0 10 := hy2.2 _ _ hS.1.1 (((n0_10 hS2)).trans ((n0_10 hS)).symm)
    try rw [← ee4]
    have ee5 : A2 0 11 = A 0 11 := hy2.2 _ _ hS.1.1 (((n0_11 hS2)).trans ((n0_11 hS)).symm)
    try rw [← ee5]
    have ee6 : A2 g 0 = A g 0 := hy2.2 _ _ hg.1 (((nP_0 hS2 hg3)).trans ((nP_0 hS hg)).symm)
    try rw [← ee6]
    exact wp.mono (h G2 A2 ⟨L2, P2, rfl, hS2⟩) (fun r G' q => qx_trans hx2 q)
theorem w_X1_workOut_74 {E : EE} {d : Nat} {V : VH} {K : Int32 → VH → Prop} {g : Nat} {x2 : Int32} {x3 : Int32} {a90 f90 : Nat} {t1 : Int32} {t2 : Int32} (hg : PG (vL V) g) (hA90 : SL (vL V) a90 f90 14) (h : vp_in t1 (vN V a90 f90) ∧ (∀ V2 : VH, V2 = wrI V a90 f90 (Int32.toNatClampNeg t1) t2 → vwp E d M_X1_workOut 7 [some (sl 0 10), some (sl g 0), some (wi (x2 + 1)), none, none] [] V2 (zi K))) : vwp E d M_X1_workOut 74 [some (sl 0 10), some (sl g 0), some (wi x2), some (wi x3), none] [wi t2, wi t1, sl a90 f90] V (zi K) := by
  intro G A hR
  obtain ⟨L, P, rfl, hS⟩ := hR
  have hx := Xt.refl (V := pl G A L P) (A := A)
  show wp E d M_X1_workOut 74 [some (vr (A 0 10)), some (vr (A g 0)), some (vi x2), some (vi x3), none] [vi t2, vi t1, vr (A a90 f90)] G _
  refine v_X1_workOut_74 ?_
  refine ⟨hS.o hA90, ?_⟩
  obtain ⟨hi1, h⟩ := h
  refine ⟨hi1, ?_⟩
  have hS2 : Sh E (sI G (A a90 f90) (Int32.toNatClampNeg t1) t2) A L P := Sh_sI (rfl : sI G (A a90 f90) (Int32.toNatClampNeg t1) t2 = sI G (A a90 f90) (Int32.toNatClampNeg t1) t2) hS hA90 (okT_0 rfl)
  have h := h (pl (sI G (A a90 f90) (Int32.toNatClampNeg t1) t2) A L P) (pl_sI (rfl : sI G (A a90 f90) (Int32.toNatClampNeg t1) t2 = sI G (A a90 f90) (Int32.toNatClampNeg t1) t2) hS hA90)
  have hx2 : Xt (pl G A L P) A (pl (sI G (A a90 f90) (Int32.toNatClampNeg t1) t2) A L P) A := Xt_sI (rfl : sI G (A a90 f90) (Int32.toNatClampNeg t1) t2 = sI G (A a90 f90) (Int32.toNatClampNeg t1) t2) hx
  exact wp.mono (h (sI G (A a90 f90) (Int32.toNatClampNeg t1) t2) A ⟨L, P, rfl, hS2⟩) (fun r G' q => qx_trans hx2 q)
theorem w_X1_workOut_85 {E : EE} {d : Nat} {V : VH} {K : Int32 → VH → Prop} {g : Nat} {x2 : Int32} {x3 : Int32} (hg : PG (vL V) g) (h0 : 0 < d) (h : (240 < x3 → vwp E d M_X1_workOut 108 [some (sl 0 10), some (sl g 0), some (wi x2), some (wi x3), none] [] V (zi K)) ∧ (¬ (240 < x3) → (x2 = 0 → vwp E d M_X1_workOut 108 [some (sl 0 10), some (sl g 0), some (wi x2), some (wi x3), none] [] V (zi K)) ∧ (¬ (x2 = 0) → vMI E (d - 1) M_X1_dropUnsupported [sl 0 10, sl g 0] V (fun r1 V1 => vwp E d M_X1_workOut 85 [some (sl 0 10), some (sl g 0), some (wi r1), some (wi (x3 + 1)), none] [] V1 (zi K))))) : vwp E d M_X1_workOut 85 [some (sl 0 10), some (sl g 0), some (wi x2), some (wi x3), none] [] V (zi K) := by
  intro G A hR
  obtain ⟨L, P, rfl, hS⟩ := hR
  have hx := Xt.refl (V := pl G A L P) (A := A)
  show wp E d M_X1_workOut 85 [some (vr (A 0 10)), some (vr (A g 0)), some (vi x2), some (vi x3), none] [] G _
  refine v_X1_workOut_85 h0 ?_
  refine ⟨fun hc => ?_, fun hc => ?_⟩
  · have h := h.1 hc
    exact wp.mono (h G A ⟨L, P, rfl, hS⟩) (fun r G' q => qx_trans hx q)
  · have h := h.2 hc
    refine ⟨fun hc => ?_, fun hc => ?_⟩
    · have h := h.1 hc
      exact wp.mono (h G A ⟨L, P, rfl, hS⟩) (fun r G' q => qx_trans hx q)
    · have h := h.2 hc
      refine ⟨hS.o (s0_10 hS), ?_⟩
      refine wpM.mono (h G A ⟨L, P, rfl, hS⟩) (fun rr1 G1 hr => ?_)
      obtain ⟨A1, W1, w1, ⟨L1, P1, rfl, hS1⟩, hy1, rfl, r1, rfl, h⟩ := hr
      refine ⟨r1, rfl, ?_⟩
      have hx1 := Xt.trans hx hy1
      have hg2 : PG L1 g := PG.up hy1 hg
      have ee3 : A1 0 10 = A 0 10 := hy1.2 _ _ hS.1.1 (((n0_10 hS1)).trans ((n0_10 hS)).symm)
      try rw [← ee3]
      have ee4 : A1 g 0 = A g 0 := hy1.2 _ _ hg.1 (((nP_0 hS1 hg2)).trans ((nP_0 hS hg)).symm)
      try rw [← ee4]
      exact wp.mono (h G1 A1 ⟨L1, P1, rfl, hS1⟩) (fun r G' q => qx_trans hx1 q)
theorem w_X1_workOut_108 {E : EE} {d : Nat} {V : VH} {K : Int32 → VH → Prop} {g : Nat} {x2 : Int32} {x3 : Int32} (hg : PG (vL V) g) (h : vwp E d M_X1_workOut 113 [some (sl 0 10), some (sl g 0), some (wi x2), some (wi 0), some (wi 0)] [] V (zi K)) : vwp E d M_X1_workOut 108 [some (sl 0 10), some (sl g 0), some (wi x2), some (wi x3), none] [] V (zi K) := by
  intro G A hR
  obtain ⟨L, P, rfl, hS⟩ := hR
  have hx := Xt.refl (V := pl G A L P) (A := A)
  show wp E d M_X1_workOut 108 [some (vr (A 0 10)), some (vr (A g 0)), some (vi x2), some (vi x3), none] [] G _
  refine v_X1_workOut_108 ?_
  exact wp.mono (h G A ⟨L, P, rfl, hS⟩) (fun r G' q => qx_trans hx q)
theorem w_X1_workOut_113 {E : EE} {d : Nat} {V : VH} {K : Int32 → VH → Prop} {g : Nat} {x2 : Int32} {x3 : Int32} {x4 : Int32} (hg : PG (vL V) g) (h0 : 0 < d) (h : ((vI V g 5 0) ≤ x4 → K x3 V) ∧ (¬ ((vI V g 5 0) ≤ x4) → vp_in x4 12 ∧ (vMI E (d - 1) M_J6_bitCount_0f7a4 [wi (vI V 0 11 (Int32.toNatClampNeg x4))] V (fun r2 V2 => vwp E d M_X1_workOut 113 [some (sl 0 10), some (sl g 0), some (wi x2), some (wi (x3 + r2)), some (wi (x4 + 1))] [] V2 (zi K))))) : vwp E d M_X1_workOut 113 [some (sl 0 10), some (sl g 0), some (wi x2), some (wi x3), some (wi x4)] [] V (zi K) := by
  intro G A hR
  obtain ⟨L, P, rfl, hS⟩ := hR
  have hx := Xt.refl (V := pl G A L P) (A := A)
  show wp E d M_X1_workOut 113 [some (vr (A 0 10)), some (vr (A g 0)), some (vi x2), some (vi x3), some (vi x4)] [] G _
  refine v_X1_workOut_113 h0 ?_
  refine ⟨hS.o (sP_0 hg), ?_⟩
  rw [lP_0_4 hS hg]
  refine ⟨hS.o (sP_5 hg), ?_⟩
  refine ⟨fun hc => ?_, fun hc => ?_⟩
  · have h := h.1 hc
    exact qx_i hS hx h
  · have h := h.2 hc
    refine ⟨hS.o (s0_10 hS), ?_⟩
    rw [l0_10_0 hS]
    refine ⟨hS.o (s0_11 hS), ?_⟩
    obtain ⟨hi1, h⟩ := h
    refine ⟨by first | (rw [(n0_11 hS)]; exact hi1) | exact (congrArg (vp_in _) (n0_11 hS)).mpr hi1 | exact hi1, ?_⟩
    refine wpM.mono (h G A ⟨L, P, rfl, hS⟩) (fun rr2 G2 hr => ?_)
    obtain ⟨A2, W2, w2, ⟨L2, P2, rfl, hS2⟩, hy2, rfl, r2, rfl, h⟩ := hr
    refine ⟨r2, rfl, ?_⟩
    have hx2 := Xt.trans hx hy2
    have hg3 : PG L2 g := PG.up hy2 hg
    have ee4 : A2 0 10 = A 0 10 := hy2.2 _ _ hS.1.1 (((n0_10 hS2)).trans ((n0_10 hS)).symm)
    try rw [← ee4]
    have ee5 : A2 g 0 = A g 0 := hy2.2 _ _ hg.1 (((nP_0 hS2 hg3)).trans ((nP_0 hS hg)).symm)
    try rw [← ee5]
    exact wp.mono (h G2 A2 ⟨L2, P2, rfl, hS2⟩) (fun r G' q => qx_trans hx2 q)
theorem w_X1_dropUnsupported_0 {E : EE} {d : Nat} {V : VH} {K : Int32 → VH → Prop} {g : Nat} (hg : PG (vL V) g) (h0 : 0 < d) (h : vMV E (d - 1) M_J7_fill_53178 [sl 0 12, wi 0] V (fun V1 => vMI E (d - 1) M_X7_lowest [sl g 5, wi (vI V1 g 0 8), wi (vI V1 g 0 9)] V1 (fun r5 V5 => vwp E d M_X1_dropUnsupported 26 [some (sl 0 10), some (sl g 0), some (wi r5), some (wi 0), none, none, none] [] V5 (zi K)))) : vMI E d M_X1_dropUnsupported [sl 0 10, sl g 0] V K := by
  intro G A hR
  obtain ⟨L, P, rfl, hS⟩ := hR
  have hx := Xt.refl (V := pl G A L P) (A := A)
  show wpM E d M_X1_dropUnsupported [vr (A 0 10), vr (A g 0)] G _
  refine wpM_of mk_X1_dropUnsupported (Nat.le_of_ble_eq_true rfl) ?_
  refine v_X1_dropUnsupported_0 h0 ?_
  refine ⟨hS.o (s0_10 hS), ?_⟩
  rw [l0_10_1 hS]
  refine wpM.mono (h G A ⟨L, P, rfl, hS⟩) (fun rr1 G1 hr => ?_)
  obtain ⟨A1, W1, w1, ⟨L1, P1, rfl, hS1⟩, hy1, rfl, rfl, h⟩ := hr
  refine ⟨rfl, ?_⟩
  have hx1 := Xt.trans hx hy1
  have hg2 : PG L1 g := PG.up hy1 hg
  have ee3 : A1 0 10 = A 0 10 := hy1.2 _ _ hS.1.1 (((n0_10 hS1)).trans ((n0_10 hS)).symm)
  try rw [← ee3]
  have ee4 : A1 g 0 = A g 0 := hy1.2 _ _ hg.1 (((nP_0 hS1 hg2)).trans ((nP_0 hS hg)).symm)
  try rw [← ee4]
  refine ⟨hS1.o (sP_0 hg2), ?_⟩
  rw [lP_0_4 hS1 hg2]
  refine ⟨hS1.o (sP_5 hg2), ?_⟩
  refine wpM.mono (h G1 A1 ⟨L1, P1, rfl, hS1⟩) (fun rr5 G5 hr => ?_)
  obtain ⟨A5, W5, w5, ⟨L5, P5, rfl, hS5⟩, hy5, rfl, r5, rfl, h⟩ := hr
  refine ⟨r5, rfl, ?_⟩
  have hx5 := Xt.trans hx1 hy5
  have hg6 : PG L5 g := PG.up hy5 hg2
  have ee7 : A5 0 10 = A1 0 10 := hy5.2 _ _ hS1.1.1 (((n0_10 hS5)).trans ((n0_10 hS1)).symm)
  try rw [← ee7]
  have ee8 : A5 g 0 = A1 g 0 := hy5.2 _ _ hg2.1 (((nP_0 hS5 hg6)).trans ((nP_0 hS1 hg2)).symm)
  try rw [← ee8]
  exact wp.mono (h G5 A5 ⟨L5, P5, rfl, hS5⟩) (fun r G' q => qx_trans hx5 q)
theorem w_X1_dropUnsupported_26 {E : EE} {d : Nat} {V : VH} {K : Int32 → VH → Prop} {g : Nat} {x2 : Int32} {x3 : Int32} (hg : PG (vL V) g) (h0 : 0 < d) (h : ((vI V g 5 1) ≤ x3 → vwp E d M_X1_dropUnsupported 91 [some (sl 0 10), some (sl g 0), some (wi x2), some (wi x3), none, none, none] [] V (zi K)) ∧ (¬ ((vI V g 5 1) ≤ x3) → (x2 < 0 → vwp E d M_X1_dropUnsupported 91 [some (sl 0 10), some (sl g 0), some (wi x2), some (wi x3), none, none, none] [] V (zi K)) ∧ (¬ (x2 < 0) → vMI E (d - 1) M_X1_isOfLeft [sl 0 10, sl g 5, wi x2] V (fun r1 V1 => (r1 = 0 → vwp E d M_X1_dropUnsupported 72 [some (sl 0 10), some (sl g 0), some (wi x2), some (wi x3), none, none, none] [] V1 (zi K)) ∧ (¬ (r1 = 0) → vMI E (d - 1) M_X9_setOf [sl g 19, wi x2] V1 (fun r5 V5 => vMV E (d - 1) M_X1_support [sl 0 10, wi (vI V1 g 5 0), wi r5] V5 (fun V9 => vwp E d M_X1_dropUnsupported 72 [some (sl 0 10), some (sl g 0), some (wi x2), some (wi x3), none, none, none] [] V9 (zi K)))))))) : vwp E d M_X1_dropUnsupported 26 [some (sl 0 10), some (sl g 0), some (wi x2), some (wi x3), none, none, none] [] V (zi K) := by
  intro G A hR
  obtain ⟨L, P, rfl, hS⟩ := hR
  have hx := Xt.refl (V := pl G A L P) (A := A)
  show wp E d M_X1_dropUnsupported 26 [some (vr (A 0 10)), some (vr (A g 0)), some (vi x2), some (vi x3), none, none, none] [] G _
  refine v_X1_dropUnsupported_26 h0 ?_
  refine ⟨hS.o (sP_0 hg), ?_⟩
  rw [lP_0_4 hS hg]
  refine ⟨hS.o (sP_5 hg), ?_⟩
  refine ⟨fun hc => ?_, fun hc => ?_⟩
  · have h := h.1 hc
    exact wp.mono (h G A ⟨L, P, rfl, hS⟩) (fun r G' q => qx_trans hx q)
  · have h := h.2 hc
    refine ⟨fun hc => ?_, fun hc => ?_⟩
    · have h := h.1 hc
      exact wp.mono (h G A ⟨L, P, rfl, hS⟩) (fun r G' q => qx_trans hx q)
    · have h := h.2 hc
      refine ⟨hS.o (s0_10 hS), ?_⟩
      refine wpM.mono (h G A ⟨L, P, rfl, hS⟩) (fun rr1 G1 hr => ?_)
      obtain ⟨A1, W1, w1, ⟨L1, P1, rfl, hS1⟩, hy1, rfl, r1, rfl, h⟩ := hr
      refine ⟨r1, rfl, ?_⟩
      have hx1 := Xt.trans hx hy1
      have hg2 : PG L1 g := PG.up hy1 hg
      have ee3 : A1 0 10 = A 0 10 := hy1.2 _ _ hS.1.1 (((n0_10 hS1)).trans ((n0_10 hS)).symm)
      try rw [← ee3]
      have ee4 : A1 g 0 = A g 0 := hy1.2 _ _ hg.1 (((nP_0 hS1 hg2)).trans ((nP_0 hS hg)).symm)
      try rw [← ee4]
      refine ⟨fun hc => ?_, fun hc => ?_⟩
      · have h := h.1 hc
        exact wp.mono (h G1 A1 ⟨L1, P1, rfl, hS1⟩) (fun r G' q => qx_trans hx1 q)
      · have h := h.2 hc
        refine ⟨hS1.o (sP_0 hg2), ?_⟩
        rw [lP_0_4 hS1 hg2]
        refine ⟨hS1.o (sP_5 hg2), ?_⟩
        rw [lP_0_6 hS1 hg2]
        refine ⟨hS1.o (sP_19 hg2), ?_⟩
        refine wpM.mono (h G1 A1 ⟨L1, P1, rfl, hS1⟩) (fun rr5 G5 hr => ?_)
        obtain ⟨A5, W5, w5, ⟨L5, P5, rfl, hS5⟩, hy5, rfl, r5, rfl, h⟩ := hr
        refine ⟨r5, rfl, ?_⟩
        have hx5 := Xt.trans hx1 hy5
        have hg6 : PG L5 g := PG.up hy5 hg2
        have ee7 : A5 0 10 = A1 0 10 := hy5.2 _ _ hS1.1.1 (((n0_10 hS5)).trans ((n0_10 hS1)).symm)
        try rw [← ee7]
        have ee8 : A5 g 0 = A1 g 0 := hy5.2 _ _ hg2.1 (((nP_0 hS5 hg6)).trans ((nP_0 hS1 hg2)).symm)
        try rw [← ee8]
        refine ⟨hS5.o (s0_10 hS5), ?_⟩
        refine wpM.mono (h G5 A5 ⟨L5, P5, rfl, hS5⟩) (fun rr9 G9 hr => ?_)
        obtain ⟨A9, W9, w9, ⟨L9, P9, rfl, hS9⟩, hy9, rfl, rfl, h⟩ := hr
        refine ⟨rfl, ?_⟩
        have hx9 := Xt.trans hx5 hy9
        have hg10 : PG L9 g := PG.up hy9 hg6
        have ee11 : A9 0 10 = A5 0 10 := hy9.2 _ _ hS5.1.1 (((n0_10 hS9)).trans ((n0_10 hS5)).symm)
        try rw [← ee11]
        have ee12 : A9 g 0 = A5 g 0 := hy9.2 _ _ hg6.1 (((nP_0 hS9 hg10)).trans ((nP_0 hS5 hg6)).symm)
        try rw [← ee12]
        exact wp.mono (h G9 A9 ⟨L9, P9, rfl, hS9⟩) (fun r G' q => qx_trans hx9 q)
theorem w_X1_dropUnsupported_72 {E : EE} {d : Nat} {V : VH} {K : Int32 → VH → Prop} {g : Nat} {x2 : Int32} {x3 : Int32} (hg : PG (vL V) g) (h0 : 0 < d) (h : vMI E (d - 1) M_X7_following [sl g 5, wi x2, wi (vI V g 0 9)] V (fun r1 V1 => vwp E d M_X1_dropUnsupported 26 [some (sl 0 10), some (sl g 0), some (wi r1), some (wi (x3 + 1)), none, none, none] [] V1 (zi K))) : vwp E d M_X1_dropUnsupported 72 [some (sl 0 10), some (sl g 0), some (wi x2), some (wi x3), none, none, none] [] V (zi K) := by
  intro G A hR
  obtain ⟨L, P, rfl, hS⟩ := hR
  have hx := Xt.refl (V := pl G A L P) (A := A)
  show wp E d M_X1_dropUnsupported 72 [some (vr (A 0 10)), some (vr (A g 0)), some (vi x2), some (vi x3), none, none, none] [] G _
  refine v_X1_dropUnsupported_72 h0 ?_
  refine ⟨hS.o (sP_0 hg), ?_⟩
  rw [lP_0_4 hS hg]
  refine ⟨hS.o (sP_5 hg), ?_⟩
  refine wpM.mono (h G A ⟨L, P, rfl, hS⟩) (fun rr1 G1 hr => ?_)
  obtain ⟨A1, W1, w1, ⟨L1, P1, rfl, hS1⟩, hy1, rfl, r1, rfl, h⟩ := hr
  refine ⟨r1, rfl, ?_⟩
  have hx1 := Xt.trans hx hy1
  have hg2 : PG L1 g := PG.up hy1 hg
  have ee3 : A1 0 10 = A 0 10 := hy1.2 _ _ hS.1.1 (((n0_10 hS1)).trans ((n0_10 hS)).symm)
  try rw [← ee3]
  have ee4 : A1 g 0 = A g 0 := hy1.2 _ _ hg.1 (((nP_0 hS1 hg2)).trans ((nP_0 hS hg)).symm)
  try rw [← ee4]
  exact wp.mono (h G1 A1 ⟨L1, P1, rfl, hS1⟩) (fun r G' q => qx_trans hx1 q)
theorem w_X1_dropUnsupported_91 {E : EE} {d : Nat} {V : VH} {K : Int32 → VH → Prop} {g : Nat} {x2 : Int32} {x3 : Int32} (hg : PG (vL V) g) (h : vwp E d M_X1_dropUnsupported 96 [some (sl 0 10), some (sl g 0), some (wi x2), some (wi 0), some (wi 0), none, none] [] V (zi K)) : vwp E d M_X1_dropUnsupported 91 [some (sl 0 10), some (sl g 0), some (wi x2), some (wi x3), none, none, none] [] V (zi K) := by
  intro G A hR
  obtain ⟨L, P, rfl, hS⟩ := hR
  have hx := Xt.refl (V := pl G A L P) (A := A)
  show wp E d M_X1_dropUnsupported 91 [some (vr (A 0 10)), some (vr (A g 0)), some (vi x2), some (vi x3), none, none, none] [] G _
  refine v_X1_dropUnsupported_91 ?_
  exact wp.mono (h G A ⟨L, P, rfl, hS⟩) (fun r G' q => qx_trans hx q)
theorem w_X1_dropUnsupported_96 {E : EE} {d : Nat} {V : VH} {K : Int32 → VH → Prop} {g : Nat} {x2 : Int32} {x3 : Int32} {x4 : Int32} (hg : PG (vL V) g) (h : ((vI V g 5 0) ≤ x4 → bz x3 ∧ K x3 V) ∧ (¬ ((vI V g 5 0) ≤ x4) → vp_in x4 12 ∧ (vwp E d M_X1_dropUnsupported 120 [some (sl 0 10), some (sl g 0), some (wi x2), some (wi x3), some (wi x4), some (wi (vI V 0 11 (Int32.toNatClampNeg x4))), some (wi 0)] [] V (zi K)))) : vwp E d M_X1_dropUnsupported 96 [some (sl 0 10), some (sl g 0), some (wi x2), some (wi x3), some (wi x4), none, none] [] V (zi K) := by
  intro G A hR
  obtain ⟨L, P, rfl, hS⟩ := hR
  have hx := Xt.refl (V := pl G A L P) (A := A)
  show wp E d M_X1_dropUnsupported 96 [some (vr (A 0 10)), some (vr (A g 0)), some (vi x2), some (vi x3), some (vi x4), none, none] [] G _
  refine v_X1_dropUnsupported_96 ?_
  refine ⟨hS.o (sP_0 hg), ?_⟩
  rw [lP_0_4 hS hg]
  refine ⟨hS.o (sP_5 hg), ?_⟩
  refine ⟨fun hc => ?_, fun hc => ?_⟩
  · have h := h.1 hc
    exact ⟨bz_ok h.1, qx_i hS hx h.2⟩
  · have h := h.2 hc
    refine ⟨hS.o (s0_10 hS), ?_⟩
    rw [l0_10_0 hS]
    refine ⟨hS.o (s0_11 hS), ?_⟩
    obtain ⟨hi1, h⟩ := h
    refine ⟨by first | (rw [(n0_11 hS)]; exact hi1) | exact (congrArg (vp_in _) (n0_11 hS)).mpr hi1 | exact hi1, ?_⟩
    exact wp.mono (h G A ⟨L, P, rfl, hS⟩) (fun r G' q => qx_trans hx q)
theorem w_X1_dropUnsupported_120 {E : EE} {d : Nat} {V : VH} {K : Int32 → VH → Prop} {g : Nat} {x2 : Int32} {x3 : Int32} {x4 : Int32} {x5 : Int32} {x6 : Int32} (hg : PG (vL V) g) (h : ((vI V 0 10 4) ≤ x6 → vp_in x4 12 ∧ ((x5 = (vI V 0 11 (Int32.toNatClampNeg x4)) → vwp E d M_X1_dropUnsupported 172 [some (sl 0 10), some (sl g 0), some (wi x2), some (wi x3), some (wi x4), some (wi x5), some (wi x6)] [] V (zi K)) ∧ (¬ (x5 = (vI V 0 11 (Int32.toNatClampNeg x4))) → vwp E d M_X1_dropUnsupported 172 [some (sl 0 10), some (sl g 0), some (wi x2), some (wi 1), some (wi x4), some (wi x5), some (wi x6)] [] V (zi K)))) ∧ (¬ ((vI V 0 10 4) ≤ x6) → vp_in x6 12 ∧ (vp_in (((vI V 0 14 (Int32.toNatClampNeg x6)) * 12) + x4) 288 ∧ (vwp E d M_X1_dropUnsupported 120 [some (sl 0 10), some (sl g 0), some (wi x2), some (wi x3), some (wi x4), some (wi (x5 &&& (vI V 0 12 (Int32.toNatClampNeg (((vI V 0 14 (Int32.toNatClampNeg x6)) * 12) + x4))))), some (wi (x6 + 1))] [] V (zi K))))) : vwp E d M_X1_dropUnsupported 120 [some (sl 0 10), some (sl g 0), some (wi x2), some (wi x3), some (wi x4), some (wi x5), some (wi x6)] [] V (zi K) := by
  intro G A hR
  obtain ⟨L, P, rfl, hS⟩ := hR
  have hx := Xt.refl (V := pl G A L P) (A := A)
  show wp E d M_X1_dropUnsupported 120 [some (vr (A 0 10)), some (vr (A g 0)), some (vi x2), some (vi x3), some (vi x4), some (vi x5), some (vi x6)] [] G _
  refine v_X1_dropUnsupported_120 ?_
  refine ⟨hS.o (s0_10 hS), ?_⟩
  refine ⟨fun hc => ?_, fun hc => ?_⟩
  · have h := h.1 hc
    rw [l0_10_0 hS]
    refine ⟨hS.o (s0_11 hS), ?_⟩
    obtain ⟨hi1, h⟩ := h
    refine ⟨by first | (rw [(n0_11 hS)]; exact hi1) | exact (congrArg (vp_in _) (n0_11 hS)).mpr hi1 | exact hi1, ?_⟩
    refine ⟨fun hc => ?_, fun hc => ?_⟩
    · have h := h.1 hc
      exact wp.mono (h G A ⟨L, P, rfl, hS⟩) (fun r G' q => qx_trans hx q)
    · have h := h.2 hc
      exact wp.mono (h G A ⟨L, P, rfl, hS⟩) (fun r G' q => qx_trans hx q)
  · have h := h.2 hc
    rw [l0_10_1 hS]
    rw [l0_10_3 hS]
    refine ⟨hS.o (s0_14 hS), ?_⟩
    obtain ⟨hi2, h⟩ := h
    refine ⟨by first | (rw [(n0_14 hS)]; exact hi2) | exact (congrArg (vp_in _) (n0_14 hS)).mpr hi2 | exact hi2, ?_⟩
    refine ⟨hS.o (s0_12 hS), ?_⟩
    obtain ⟨hi3, h⟩ := h
    refine ⟨by first | (rw [(n0_12 hS)]; exact hi3) | exact (congrArg (vp_in _) (n0_12 hS)).mpr hi3 | exact hi3, ?_⟩
    exact wp.mono (h G A ⟨L, P, rfl, hS⟩) (fun r G' q => qx_trans hx q)
theorem w_X1_dropUnsupported_172 {E : EE} {d : Nat} {V : VH} {K : Int32 → VH → Prop} {g : Nat} {x2 : Int32} {x3 : Int32} {x4 : Int32} {x5 : Int32} {x6 : Int32} (hg : PG (vL V) g) (h : vp_in x4 12 ∧ (∀ V2 : VH, V2 = wrI V 0 11 (Int32.toNatClampNeg x4) x5 → vwp E d M_X1_dropUnsupported 96 [some (sl 0 10), some (sl g 0), some (wi x2), some (wi x3), some (wi (x4 + 1)), none, none] [] V2 (zi K))) : vwp E d M_X1_dropUnsupported 172 [some (sl 0 10), some (sl g 0), some (wi x2), some (wi x3), some (wi x4), some (wi x5), some (wi x6)] [] V (zi K) := by
  intro G A hR
  obtain ⟨L, P, rfl, hS⟩ := hR
  have hx := Xt.refl (V := pl G A L P) (A := A)
  show wp E d M_X1_dropUnsupported 172 [some (vr (A 0 10)), some (vr (A g 0)), some (vi x2), some (vi x3), some (vi x4), some (vi x5), some (vi x6)] [] G _
  refine v_X1_dropUnsupported_172 ?_
  refine ⟨hS.o (s0_10 hS), ?_⟩
  rw [l0_10_0 hS]
  refine ⟨hS.o (s0_11 hS), ?_⟩
  obtain ⟨hi1, h⟩ := h
  refine ⟨by first | (rw [(n0_11 hS)]; exact hi1) | exact (congrArg (vp_in _) (n0_11 hS)).mpr hi1 | exact hi1, ?_⟩
  have hS2 : Sh E (sI G (A 0 11) (Int32.toNatClampNeg x4) x5) A L P := Sh_sI (rfl : sI G (A 0 11) (Int32.toNatClampNeg x4) x5 = sI G (A 0 11) (Int32.toNatClampNeg x4) x5) hS (s0_11 hS) (okT_0 rfl)
  have h := h (pl (sI G (A 0 11) (Int32.toNatClampNeg x4) x5) A L P) (pl_sI (rfl : sI G (A 0 11) (Int32.toNatClampNeg x4) x5 = sI G (A 0 11) (Int32.toNatClampNeg x4) x5) hS (s0_11 hS))
  have hx2 : Xt (pl G A L P) A (pl (sI G (A 0 11) (Int32.toNatClampNeg x4) x5) A L P) A := Xt_sI (rfl : sI G (A 0 11) (Int32.toNatClampNeg x4) x5 = sI G (A 0 11) (Int32.toNatClampNeg x4) x5) hx
  exact wp.mono (h (sI G (A 0 11) (Int32.toNatClampNeg x4) x5) A ⟨L, P, rfl, hS2⟩) (fun r G' q => qx_trans hx2 q)
theorem w_X1_isOfLeft_0 {E : EE} {d : Nat} {V : VH} {K : Int32 → VH → Prop} {g : Nat} {x2 : Int32} (hg : PG (vL V) g) (h : vwp E d M_X1_isOfLeft 2 [some (sl 0 10), some (sl g 5), some (wi x2), some (wi 0)] [] V (zi K)) : vMI E d M_X1_isOfLeft [sl 0 10, sl g 5, wi x2] V K := by
  intro G A hR
  obtain ⟨L, P, rfl, hS⟩ := hR
  have hx := Xt.refl (V := pl G A L P) (A := A)
  show wpM E d M_X1_isOfLeft [vr (A 0 10), vr (A g 5), vi x2] G _
  refine wpM_of mk_X1_isOfLeft (Nat.le_of_ble_eq_true rfl) ?_
  refine v_X1_isOfLeft_0 ?_
  exact wp.mono (h G A ⟨L, P, rfl, hS⟩) (fun r G' q => qx_trans hx q)
theorem w_X1_isOfLeft_2 {E : EE} {d : Nat} {V : VH} {K : Int32 → VH → Prop} {g : Nat} {x2 : Int32} {x3 : Int32} (hg : PG (vL V) g) (h0 : 0 < d) (h : ((vI V g 5 0) ≤ x3 → K 1 V) ∧ (¬ ((vI V g 5 0) ≤ x3) → vMI E (d - 1) M_X7_placeOf [sl g 5, wi x2, wi x3] V (fun r1 V1 => vp_in x3 12 ∧ (∀ V7 : VH, V7 = wrI V1 0 13 (Int32.toNatClampNeg x3) r1 → vp_in x3 12 ∧ (vp_in x3 12 ∧ ((¬ (((vI V7 0 11 (Int32.toNatClampNeg x3)) >>> ((vI V7 0 13 (Int32.toNatClampNeg x3)) &&& 31)) &&& 1) = 0 → vwp E d M_X1_isOfLeft 2 [some (sl 0 10), some (sl g 5), some (wi x2), some (wi (x3 + 1))] [] V7 (zi K)) ∧ ((((vI V7 0 11 (Int32.toNatClampNeg x3)) >>> ((vI V7 0 13 (Int32.toNatClampNeg x3)) &&& 31)) &&& 1) = 0 → K 0 V7))))))) : vwp E d M_X1_isOfLeft 2 [some (sl 0 10), some (sl g 5), some (wi x2), some (wi x3)] [] V (zi K) := by
  intro G A hR
  obtain ⟨L, P, rfl, hS⟩ := hR
  have hx := Xt.refl (V := pl G A L P) (A := A)
  show wp E d M_X1_isOfLeft 2 [some (vr (A 0 10)), some (vr (A g 5)), some (vi x2), some (vi x3)] [] G _
  refine v_X1_isOfLeft_2 h0 ?_
  refine ⟨hS.o (sP_5 hg), ?_⟩
  refine ⟨fun hc => ?_, fun hc => ?_⟩
  · have h := h.1 hc
    exact qx_i hS hx h
  · have h := h.2 hc
    refine ⟨hS.o (s0_10 hS), ?_⟩
    rw [l0_10_2 hS]
    refine wpM.mono (h G A ⟨L, P, rfl, hS⟩) (fun rr1 G1 hr => ?_)
    obtain ⟨A1, W1, w1, ⟨L1, P1, rfl, hS1⟩, hy1, rfl, r1, rfl, h⟩ := hr
    refine ⟨r1, rfl, ?_⟩
    have hx1 := Xt.trans hx hy1
    have hg2 : PG L1 g := PG.up hy1 hg
    have ee3 : A1 0 10 = A 0 10 := hy1.2 _ _ hS.1.1 (((n0_10 hS1)).trans ((n0_10 hS)).symm)
    try rw [← ee3]
    have ee4 : A1 0 13 = A 0 13 := hy1.2 _ _ hS.1.1 (((n0_13 hS1)).trans ((n0_13 hS)).symm)
    try rw [← ee4]
    have ee5 : A1 g 5 = A g 5 := hy1.2 _ _ hg.1 (((nP_5 hS1 hg2)).trans ((nP_5 hS hg)).symm)
    try rw [← ee5]
    refine ⟨hS1.o (s0_13 hS1), ?_⟩
    obtain ⟨hi6, h⟩ := h
    refine ⟨by first | (rw [(n0_13 hS1)]; exact hi6) | exact (congrArg (vp_in _) (n0_13 hS1)).mpr hi6 | exact hi6, ?_⟩
    have hS7 : Sh E (sI G1 (A1 0 13) (Int32.toNatClampNeg x3) r1) A1 L1 P1 := Sh_sI (rfl : sI G1 (A1 0 13) (Int32.toNatClampNeg x3) r1 = sI G1 (A1 0 13) (Int32.toNatClampNeg x3) r1) hS1 (s0_13 hS1) (okT_0 rfl)
    have h := h (pl (sI G1 (A1 0 13) (Int32.toNatClampNeg x3) r1) A1 L1 P1) (pl_sI (rfl : sI G1 (A1 0 13) (Int32.toNatClampNeg x3) r1 = sI G1 (A1 0 13) (Int32.toNatClampNeg x3) r1) hS1 (s0_13 hS1))
    have hx7 : Xt (pl G A L P) A (pl (sI G1 (A1 0 13) (Int32.toNatClampNeg x3) r1) A1 L1 P1) A1 := Xt_sI (rfl : sI G1 (A1 0 13) (Int32.toNatClampNeg x3) r1 = sI G1 (A1 0 13) (Int32.toNatClampNeg x3) r1) hx1
    refine ⟨hS7.o (s0_10 hS7), ?_⟩
    rw [l0_10_0 hS1]
    refine ⟨hS7.o (s0_11 hS7), ?_⟩
    obtain ⟨hi8, h⟩ := h
    refine ⟨by first | (rw [(n0_11 hS7)]; exact hi8) | exact (congrArg (vp_in _) (n0_11 hS7)).mpr hi8 | exact hi8, ?_⟩
    rw [l0_10_2 hS1]
    refine ⟨hS7.o (s0_13 hS7), ?_⟩
    obtain ⟨hi9, h⟩ := h
    refine ⟨by first | (rw [(n0_13 hS7)]; exact hi9) | exact (congrArg (vp_in _) (n0_13 hS7)).mpr hi9 | exact hi9, ?_⟩
    refine ⟨fun hc => ?_, fun hc => ?_⟩
    · have h := h.1 hc
      exact wp.mono (h (sI G1 (A1 0 13) (Int32.toNatClampNeg x3) r1) A1 ⟨L1, P1, rfl, hS7⟩) (fun r G' q => qx_trans hx7 q)
    · have h := h.2 hc
      exact qx_i hS7 hx7 h
theorem w_X1_support_0 {E : EE} {d : Nat} {V : VH} {K : VH → Prop} {x1 : Int32} {x2 : Int32}  (h : vwp E d M_X1_support 2 [some (sl 0 10), some (wi x1), some (wi x2), some (wi 0), none, none] [] V (zv K)) : vMV E d M_X1_support [sl 0 10, wi x1, wi x2] V K := by
  intro G A hR
  obtain ⟨L, P, rfl, hS⟩ := hR
  have hx := Xt.refl (V := pl G A L P) (A := A)
  show wpM E d M_X1_support [vr (A 0 10), vi x1, vi x2] G _
  refine wpM_of mk_X1_support (Nat.le_of_ble_eq_true rfl) ?_
  refine v_X1_support_0 ?_
  exact wp.mono (h G A ⟨L, P, rfl, hS⟩) (fun r G' q => qx_trans hx q)
theorem w_X1_support_2 {E : EE} {d : Nat} {V : VH} {K : VH → Prop} {x1 : Int32} {x2 : Int32} {x3 : Int32}  (h : ((vI V 0 10 4) ≤ x3 → K V) ∧ (¬ ((vI V 0 10 4) ≤ x3) → vp_in x3 12 ∧ ((((x2 >>> ((vI V 0 14 (Int32.toNatClampNeg x3)) &&& 31)) &&& 1) = 0 → vwp E d M_X1_support 33 [some (sl 0 10), some (wi x1), some (wi x2), some (wi x3), some (wi (vI V 0 14 (Int32.toNatClampNeg x3))), some (wi 0)] [] V (zv K)) ∧ (¬ (((x2 >>> ((vI V 0 14 (Int32.toNatClampNeg x3)) &&& 31)) &&& 1) = 0) → vwp E d M_X1_support 70 [some (sl 0 10), some (wi x1), some (wi x2), some (wi x3), some (wi (vI V 0 14 (Int32.toNatClampNeg x3))), none] [] V (zv K))))) : vwp E d M_X1_support 2 [some (sl 0 10), some (wi x1), some (wi x2), some (wi x3), none, none] [] V (zv K) := by
  intro G A hR
  obtain ⟨L, P, rfl, hS⟩ := hR
  have hx := Xt.refl (V := pl G A L P) (A := A)
  show wp E d M_X1_support 2 [some (vr (A 0 10)), some (vi x1), some (vi x2), some (vi x3), none, none] [] G _
  refine v_X1_support_2 ?_
  refine ⟨hS.o (s0_10 hS), ?_⟩
  refine ⟨fun hc => ?_, fun hc => ?_⟩
  · have h := h.1 hc
    exact qx_v hS hx h
  · have h := h.2 hc
    rw [l0_10_3 hS]
    refine ⟨hS.o (s0_14 hS), ?_⟩
    obtain ⟨hi1, h⟩ := h
    refine ⟨by first | (rw [(n0_14 hS)]; exact hi1) | exact (congrArg (vp_in _) (n0_14 hS)).mpr hi1 | exact hi1, ?_⟩
    refine ⟨fun hc => ?_, fun hc => ?_⟩
    · have h := h.1 hc
      exact wp.mono (h G A ⟨L, P, rfl, hS⟩) (fun r G' q => qx_trans hx q)
    · have h := h.2 hc
      exact wp.mono (h G A ⟨L, P, rfl, hS⟩) (fun r G' q => qx_trans hx q)
theorem w_X1_support_33 {E : EE} {d : Nat} {V : VH} {K : VH → Prop} {x1 : Int32} {x2 : Int32} {x3 : Int32} {x4 : Int32} {x5 : Int32}  (h : (x1 ≤ x5 → vwp E d M_X1_support 70 [some (sl 0 10), some (wi x1), some (wi x2), some (wi x3), some (wi x4), none] [] V (zv K)) ∧ (¬ (x1 ≤ x5) → vp_in ((x4 * 12) + x5) 288 ∧ (vp_in x5 12 ∧ (vp_in ((x4 * 12) + x5) 288 ∧ (∀ V4 : VH, V4 = wrI V 0 12 (Int32.toNatClampNeg ((x4 * 12) + x5)) ((vI V 0 12 (Int32.toNatClampNeg ((x4 * 12) + x5))) ||| (1 <<< ((vI V 0 13 (Int32.toNatClampNeg x5)) &&& 31))) → vwp E d M_X1_support 33 [some (sl 0 10), some (wi x1), some (wi x2), some (wi x3), some (wi x4), some (wi (x5 + 1))] [] V4 (zv K)))))) : vwp E d M_X1_support 33 [some (sl 0 10), some (wi x1), some (wi x2), some (wi x3), some (wi x4), some (wi x5)] [] V (zv K) := by
  intro G A hR
  obtain ⟨L, P, rfl, hS⟩ := hR
  have hx := Xt.refl (V := pl G A L P) (A := A)
  show wp E d M_X1_support 33 [some (vr (A 0 10)), some (vi x1), some (vi x2), some (vi x3), some (vi x4), some (vi x5)] [] G _
  refine v_X1_support_33 ?_
  refine ⟨fun hc => ?_, fun hc => ?_⟩
  · have h := h.1 hc
    exact wp.mono (h G A ⟨L, P, rfl, hS⟩) (fun r G' q => qx_trans hx q)
  · have h := h.2 hc
    refine ⟨hS.o (s0_10 hS), ?_⟩
    rw [l0_10_1 hS]
    refine ⟨hS.o (s0_12 hS), ?_⟩
    obtain ⟨hi1, h⟩ := h
    refine ⟨by first | (rw [(n0_12 hS)]; exact hi1) | exact (congrArg (vp_in _) (n0_12 hS)).mpr hi1 | exact hi1, ?_⟩
    rw [l0_10_2 hS]
    refine ⟨hS.o (s0_13 hS), ?_⟩
    obtain ⟨hi2, h⟩ := h
    refine ⟨by first | (rw [(n0_13 hS)]; exact hi2) | exact (congrArg (vp_in _) (n0_13 hS)).mpr hi2 | exact hi2, ?_⟩
    obtain ⟨hi3, h⟩ := h
    refine ⟨by first | (rw [(n0_12 hS)]; exact hi3) | exact (congrArg (vp_in _) (n0_12 hS)).mpr hi3 | exact hi3, ?_⟩
    have hS4 : Sh E (sI G (A 0 12) (Int32.toNatClampNeg ((x4 * 12) + x5)) ((gI G (A 0 12) (Int32.toNatClampNeg ((x4 * 12) + x5))) ||| (1 <<< ((gI G (A 0 13) (Int32.toNatClampNeg x5)) &&& 31)))) A L P := Sh_sI (rfl : sI G (A 0 12) (Int32.toNatClampNeg ((x4 * 12) + x5)) ((gI G (A 0 12) (Int32.toNatClampNeg ((x4 * 12) + x5))) ||| (1 <<< ((gI G (A 0 13) (Int32.toNatClampNeg x5)) &&& 31))) = sI G (A 0 12) (Int32.toNatClampNeg ((x4 * 12) + x5)) ((gI G (A 0 12) (Int32.toNatClampNeg ((x4 * 12) + x5))) ||| (1 <<< ((gI G (A 0 13) (Int32.toNatClampNeg x5)) &&& 31)))) hS (s0_12 hS) (okT_0 rfl)
    have h := h (pl (sI G (A 0 12) (Int32.toNatClampNeg ((x4 * 12) + x5)) ((gI G (A 0 12) (Int32.toNatClampNeg ((x4 * 12) + x5))) ||| (1 <<< ((gI G (A 0 13) (Int32.toNatClampNeg x5)) &&& 31)))) A L P) (pl_sI (rfl : sI G (A 0 12) (Int32.toNatClampNeg ((x4 * 12) + x5)) ((gI G (A 0 12) (Int32.toNatClampNeg ((x4 * 12) + x5))) ||| (1 <<< ((gI G (A 0 13) (Int32.toNatClampNeg x5)) &&& 31))) = sI G (A 0 12) (Int32.toNatClampNeg ((x4 * 12) + x5)) ((gI G (A 0 12) (Int32.toNatClampNeg ((x4 * 12) + x5))) ||| (1 <<< ((gI G (A 0 13) (Int32.toNatClampNeg x5)) &&& 31)))) hS (s0_12 hS))
    have hx4 : Xt (pl G A L P) A (pl (sI G (A 0 12) (Int32.toNatClampNeg ((x4 * 12) + x5)) ((gI G (A 0 12) (Int32.toNatClampNeg ((x4 * 12) + x5))) ||| (1 <<< ((gI G (A 0 13) (Int32.toNatClampNeg x5)) &&& 31)))) A L P) A := Xt_sI (rfl : sI G (A 0 12) (Int32.toNatClampNeg ((x4 * 12) + x5)) ((gI G (A 0 12) (Int32.toNatClampNeg ((x4 * 12) + x5))) ||| (1 <<< ((gI G (A 0 13) (Int32.toNatClampNeg x5)) &&& 31))) = sI G (A 0 12) (Int32.toNatClampNeg ((x4 * 12) + x5)) ((gI G (A 0 12) (Int32.toNatClampNeg ((x4 * 12) + x5))) ||| (1 <<< ((gI G (A 0 13) (Int32.toNatClampNeg x5)) &&& 31)))) hx
    exact wp.mono (h (sI G (A 0 12) (Int32.toNatClampNeg ((x4 * 12) + x5)) ((gI G (A 0 12) (Int32.toNatClampNeg ((x4 * 12) + x5))) ||| (1 <<< ((gI G (A 0 13) (Int32.toNatClampNeg x5)) &&& 31)))) A ⟨L, P, rfl, hS4⟩) (fun r G' q => qx_trans hx4 q)
theorem w_X1_support_70 {E : EE} {d : Nat} {V : VH} {K : VH → Prop} {x1 : Int32} {x2 : Int32} {x3 : Int32} {x4 : Int32}  (h : vwp E d M_X1_support 2 [some (sl 0 10), some (wi x1), some (wi x2), some (wi (x3 + 1)), none, none] [] V (zv K)) : vwp E d M_X1_support 70 [some (sl 0 10), some (wi x1), some (wi x2), some (wi x3), some (wi x4), none] [] V (zv K) := by
  intro G A hR
  obtain ⟨L, P, rfl, hS⟩ := hR
  have hx := Xt.refl (V := pl G A L P) (A := A)
  show wp E d M_X1_support 70 [some (vr (A 0 10)), some (vi x1), some (vi x2), some (vi x3), some (vi x4), none] [] G _
  refine v_X1_support_70 ?_
  exact wp.mono (h G A ⟨L, P, rfl, hS⟩) (fun r G' q => qx_trans hx q)
theorem w_X6_mayBe_0 {E : EE} {d : Nat} {V : VH} {K : Int32 → VH → Prop} {x0 : Int32} {x1 : Int32}  (h : (x0 = 0 → K 1 V) ∧ ((x0 = 1 → (x1 < 1 → K 0 V) ∧ (¬ (x1 < 1) → (20 < x1 → K 0 V) ∧ (¬ (20 < x1) → K 1 V))) ∧ ((x0 = 2 → (x1 < 1 → K 0 V) ∧ (¬ (x1 < 1) → (100 < x1 → K 0 V) ∧ (¬ (100 < x1) → K 1 V))) ∧ ((x0 = 3 → (x1 < 1 → K 0 V) ∧ (¬ (x1 < 1) → (10000 < x1 → K 0 V) ∧ (¬ (10000 < x1) → K 1 V))) ∧ ((¬ x0 = 0 → ¬ x0 = 1 → ¬ x0 = 2 → ¬ x0 = 3 → K 0 V)))))) : vMI E d M_X6_mayBe [wi x0, wi x1] V K := by
  intro G A hR
  obtain ⟨L, P, rfl, hS⟩ := hR
  have hx := Xt.refl (V := pl G A L P) (A := A)
  show wpM E d M_X6_mayBe [vi x0, vi x1] G _
  refine wpM_of mk_X6_mayBe (Nat.le_of_ble_eq_true rfl) ?_
  refine v_X6_mayBe_0 ?_
  refine ⟨fun hc => ?_, ?_⟩
  · have h := h.1 hc
    exact qx_i hS hx h
  have h := h.2
  refine ⟨fun hc => ?_, ?_⟩
  · have h := h.1 hc
    refine ⟨fun hc => ?_, fun hc => ?_⟩
    · have h := h.1 hc
      exact qx_i hS hx h
    · have h := h.2 hc
      refine ⟨fun hc => ?_, fun hc => ?_⟩
      · have h := h.1 hc
        exact qx_i hS hx h
      · have h := h.2 hc
        exact qx_i hS hx h
  have h := h.2
  refine ⟨fun hc => ?_, ?_⟩
  · have h := h.1 hc
    refine ⟨fun hc => ?_, fun hc => ?_⟩
    · have h := h.1 hc
      exact qx_i hS hx h
    · have h := h.2 hc
      refine ⟨fun hc => ?_, fun hc => ?_⟩
      · have h := h.1 hc
        exact qx_i hS hx h
      · have h := h.2 hc
        exact qx_i hS hx h
  have h := h.2
  refine ⟨fun hc => ?_, ?_⟩
  · have h := h.1 hc
    refine ⟨fun hc => ?_, fun hc => ?_⟩
    · have h := h.1 hc
      exact qx_i hS hx h
    · have h := h.2 hc
      refine ⟨fun hc => ?_, fun hc => ?_⟩
      · have h := h.1 hc
        exact qx_i hS hx h
      · have h := h.2 hc
        exact qx_i hS hx h
  have h := h.2
  intro q0 q1 q2 q3
  have h := h q0 q1 q2 q3
  exact qx_i hS hx h
theorem w_X6_seek_0 {E : EE} {d : Nat} {V : VH} {K : Int32 → VH → Prop} {g : Nat} {x2 : Int32} {x3 : Int32} {x4 : Int32} {x5 : Int32} (hg : PG (vL V) g) (h0 : 0 < d) (h : vMV E (d - 1) M_X6_begin [sl 0 16, sl g 0, wi x4] V (fun V1 => (¬ (vI V1 0 16 5) = 0 → vMV E (d - 1) M_X9_renew [sl g 19, sl g 0] V1 (fun V5 => vwp E d M_X6_seek 30 [some (sl 0 16), some (sl g 0), some (wi x2), some (wi x3), some (wi x4), some (wi x5), some (wi 0), some (wi 0)] [] V5 (zi K))) ∧ ((vI V1 0 16 5) = 0 → K 0 V1))) : vMI E d M_X6_seek [sl 0 16, sl g 0, wi x2, wi x3, wi x4, wi x5] V K := by
  intro G A hR
  obtain ⟨L, P, rfl, hS⟩ := hR
  have hx := Xt.refl (V := pl G A L P) (A := A)
  show wpM E d M_X6_seek [vr (A 0 16), vr (A g 0), vi x2, vi x3, vi x4, vi x5] G _
  refine wpM_of mk_X6_seek (Nat.le_of_ble_eq_true rfl) ?_
  refine v_X6_seek_0 h0 ?_
  refine ⟨hS.o (s0_16 hS), ?_⟩
  refine wpM.mono (h G A ⟨L, P, rfl, hS⟩) (fun rr1 G1 hr => ?_)
  obtain ⟨A1, W1, w1, ⟨L1, P1, rfl, hS1⟩, hy1, rfl, rfl, h⟩ := hr
  refine ⟨rfl, ?_⟩
  have hx1 := Xt.trans hx hy1
  have hg2 : PG L1 g := PG.up hy1 hg
  have ee3 : A1 0 16 = A 0 16 := hy1.2 _ _ hS.1.1 (((n0_16 hS1)).trans ((n0_16 hS)).symm)
  try rw [← ee3]
  have ee4 : A1 g 0 = A g 0 := hy1.2 _ _ hg.1 (((nP_0 hS1 hg2)).trans ((nP_0 hS hg)).symm)
  try rw [← ee4]
  refine ⟨hS1.o (s0_16 hS1), ?_⟩
  refine ⟨fun hc => ?_, fun hc => ?_⟩
  · have h := h.1 hc
    refine ⟨hS1.o (sP_0 hg2), ?_⟩
    rw [lP_0_6 hS1 hg2]
    refine ⟨hS1.o (sP_19 hg2), ?_⟩
    refine wpM.mono (h G1 A1 ⟨L1, P1, rfl, hS1⟩) (fun rr5 G5 hr => ?_)
    obtain ⟨A5, W5, w5, ⟨L5, P5, rfl, hS5⟩, hy5, rfl, rfl, h⟩ := hr
    refine ⟨rfl, ?_⟩
    have hx5 := Xt.trans hx1 hy5
    have hg6 : PG L5 g := PG.up hy5 hg2
    have ee7 : A5 0 16 = A1 0 16 := hy5.2 _ _ hS1.1.1 (((n0_16 hS5)).trans ((n0_16 hS1)).symm)
    try rw [← ee7]
    have ee8 : A5 g 0 = A1 g 0 := hy5.2 _ _ hg2.1 (((nP_0 hS5 hg6)).trans ((nP_0 hS1 hg2)).symm)
    try rw [← ee8]
    exact wp.mono (h G5 A5 ⟨L5, P5, rfl, hS5⟩) (fun r G' q => qx_trans hx5 q)
  · have h := h.2 hc
    exact qx_i hS1 hx1 h
theorem w_X6_seek_30 {E : EE} {d : Nat} {V : VH} {K : Int32 → VH → Prop} {g : Nat} {x2 : Int32} {x3 : Int32} {x4 : Int32} {x5 : Int32} {x6 : Int32} {x7 : Int32} (hg : PG (vL V) g) (h0 : 0 < d) (h : (x5 ≤ x7 → vMI E (d - 1) M_X3_moveTo [sl g 0, wi (vI V 0 16 10)] V (fun r1 V1 => K x6 V1)) ∧ (¬ (x5 ≤ x7) → vMI E (d - 1) M_X6_propose [sl 0 16, sl g 5] V (fun r5 V5 => (¬ r5 = 0 → vMI E (d - 1) M_X6_isTaken [sl 0 16, sl g 19, wi x2, wi x3, wi x7, wi x5] V5 (fun r9 V9 => (r9 = 0 → vwp E d M_X6_seek 82 [some (sl 0 16), some (sl g 0), some (wi x2), some (wi x3), some (wi x4), some (wi x5), some (wi x6), some (wi x7)] [] V9 (zi K)) ∧ (¬ (r9 = 0) → vMV E (d - 1) M_X6_settle [sl 0 16, sl g 19, wi x7, wi x3] V9 (fun V13 => vwp E d M_X6_seek 82 [some (sl 0 16), some (sl g 0), some (wi x2), some (wi x3), some (wi x4), some (wi x5), some (wi (x6 + 1)), some (wi x7)] [] V13 (zi K))))) ∧ (r5 = 0 → vwp E d M_X6_seek 110 [some (sl 0 16), some (sl g 0), some (wi x2), some (wi x3), some (wi x4), some (wi x5), some (wi x6), some (wi x7)] [] V5 (zi K))))) : vwp E d M_X6_seek 30 [some (sl 0 16), some (sl g 0), some (wi x2), some (wi x3), some (wi x4), some (wi x5), some (wi x6), some (wi x7)] [] V (zi K) := by
  intro G A hR
  obtain ⟨L, P, rfl, hS⟩ := hR
  have hx := Xt.refl (V := pl G A L P) (A := A)
  show wp E d M_X6_seek 30 [some (vr (A 0 16)), some (vr (A g 0)), some (vi x2), some (vi x3), some (vi x4), some (vi x5), some (vi x6), some (vi x7)] [] G _
  refine v_X6_seek_30 h0 ?_
  refine ⟨fun hc => ?_, fun hc => ?_⟩
  · have h := h.1 hc
    refine ⟨hS.o (s0_16 hS), ?_⟩
    refine ⟨hS.o (sP_0 hg), ?_⟩
    refine wpM.mono (h G A ⟨L, P, rfl, hS⟩) (fun rr1 G1 hr => ?_)
    obtain ⟨A1, W1, w1, ⟨L1, P1, rfl, hS1⟩, hy1, rfl, r1, rfl, h⟩ := hr
    refine ⟨r1, rfl, ?_⟩
    have hx1 := Xt.trans hx hy1
    have hg2 : PG L1 g := PG.up hy1 hg
    have ee3 : A1 0 16 = A 0 16 := hy1.2 _ _ hS.1.1 (((n0_16 hS1)).trans ((n0_16 hS)).symm)
    try rw [← ee3]
    have ee4 : A1 g 0 = A g 0 := hy1.2 _ _ hg.1 (((nP_0 hS1 hg2)).trans ((nP_0 hS hg)).symm)
    try rw [← ee4]
    exact qx_i hS1 hx1 h
  · have h := h.2 hc
    refine ⟨hS.o (sP_0 hg), ?_⟩
    rw [lP_0_4 hS hg]
    refine ⟨hS.o (s0_16 hS), ?_⟩
    refine wpM.mono (h G A ⟨L, P, rfl, hS⟩) (fun rr5 G5 hr => ?_)
    obtain ⟨A5, W5, w5, ⟨L5, P5, rfl, hS5⟩, hy5, rfl, r5, rfl, h⟩ := hr
    refine ⟨r5, rfl, ?_⟩
    have hx5 := Xt.trans hx hy5
    have hg6 : PG L5 g := PG.up hy5 hg
    have ee7 : A5 0 16 = A 0 16 := hy5.2 _ _ hS.1.1 (((n0_16 hS5)).trans ((n0_16 hS)).symm)
    try rw [← ee7]
    have ee8 : A5 g 0 = A g 0 := hy5.2 _ _ hg.1 (((nP_0 hS5 hg6)).trans ((nP_0 hS hg)).symm)
    try rw [← ee8]
    refine ⟨fun hc => ?_, fun hc => ?_⟩
    · have h := h.1 hc
      refine ⟨hS5.o (sP_0 hg6), ?_⟩
      rw [lP_0_6 hS5 hg6]
      refine ⟨hS5.o (s0_16 hS5), ?_⟩
      refine wpM.mono (h G5 A5 ⟨L5, P5, rfl, hS5⟩) (fun rr9 G9 hr => ?_)
      obtain ⟨A9, W9, w9, ⟨L9, P9, rfl, hS9⟩, hy9, rfl, r9, rfl, h⟩ := hr
      refine ⟨r9, rfl, ?_⟩
      have hx9 := Xt.trans hx5 hy9
      have hg10 : PG L9 g := PG.up hy9 hg6
      have ee11 : A9 0 16 = A5 0 16 := hy9.2 _ _ hS5.1.1 (((n0_16 hS9)).trans ((n0_16 hS5)).symm)
      try rw [← ee11]
      have ee12 : A9 g 0 = A5 g 0 := hy9.2 _ _ hg6.1 (((nP_0 hS9 hg10)).trans ((nP_0 hS5 hg6)).symm)
      try rw [← ee12]
      refine ⟨fun hc => ?_, fun hc => ?_⟩
      · have h := h.1 hc
        exact wp.mono (h G9 A9 ⟨L9, P9, rfl, hS9⟩) (fun r G' q => qx_trans hx9 q)
      · have h := h.2 hc
        refine ⟨hS9.o (sP_0 hg10), ?_⟩
        rw [lP_0_6 hS9 hg10]
        refine ⟨hS9.o (s0_16 hS9), ?_⟩
        refine wpM.mono (h G9 A9 ⟨L9, P9, rfl, hS9⟩) (fun rr13 G13 hr => ?_)
        obtain ⟨A13, W13, w13, ⟨L13, P13, rfl, hS13⟩, hy13, rfl, rfl, h⟩ := hr
        refine ⟨rfl, ?_⟩
        have hx13 := Xt.trans hx9 hy13
        have hg14 : PG L13 g := PG.up hy13 hg10
        have ee15 : A13 0 16 = A9 0 16 := hy13.2 _ _ hS9.1.1 (((n0_16 hS13)).trans ((n0_16 hS9)).symm)
        try rw [← ee15]
        have ee16 : A13 g 0 = A9 g 0 := hy13.2 _ _ hg10.1 (((nP_0 hS13 hg14)).trans ((nP_0 hS9 hg10)).symm)
        try rw [← ee16]
        exact wp.mono (h G13 A13 ⟨L13, P13, rfl, hS13⟩) (fun r G' q => qx_trans hx13 q)
    · have h := h.2 hc
      exact wp.mono (h G5 A5 ⟨L5, P5, rfl, hS5⟩) (fun r G' q => qx_trans hx5 q)
theorem w_X6_seek_82 {E : EE} {d : Nat} {V : VH} {K : Int32 → VH → Prop} {g : Nat} {x2 : Int32} {x3 : Int32} {x4 : Int32} {x5 : Int32} {x6 : Int32} {x7 : Int32} (hg : PG (vL V) g) (h : (¬ x2 = 1 → vwp E d M_X6_seek 110 [some (sl 0 16), some (sl g 0), some (wi x2), some (wi x3), some (wi x4), some (wi x5), some (wi x6), some (wi x7)] [] V (zi K)) ∧ (x2 = 1 → (x3 ≤ 0 → vwp E d M_X6_seek 110 [some (sl 0 16), some (sl g 0), some (wi x2), some (wi x3), some (wi x4), some (wi x5), some (wi x6), some (wi x7)] [] V (zi K)) ∧ (¬ (x3 ≤ 0) → (20 < x3 → vwp E d M_X6_seek 110 [some (sl 0 16), some (sl g 0), some (wi x2), some (wi x3), some (wi x4), some (wi x5), some (wi x6), some (wi x7)] [] V (zi K)) ∧ (¬ (20 < x3) → ¬ x3 = 0 ∧ (vp_in (x7 - x7 / x3 * x3) 20 ∧ (∀ V3 : VH, V3 = wrI V 0 18 (Int32.toNatClampNeg (x7 - x7 / x3 * x3)) (vI V 0 16 8) → vwp E d M_X6_seek 110 [some (sl 0 16), some (sl g 0), some (wi x2), some (wi x3), some (wi x4), some (wi x5), some (wi x6), some (wi x7)] [] V3 (zi K))))))) : vwp E d M_X6_seek 82 [some (sl 0 16), some (sl g 0), some (wi x2), some (wi x3), some (wi x4), some (wi x5), some (wi x6), some (wi x7)] [] V (zi K) := by
  intro G A hR
  obtain ⟨L, P, rfl, hS⟩ := hR
  have hx := Xt.refl (V := pl G A L P) (A := A)
  show wp E d M_X6_seek 82 [some (vr (A 0 16)), some (vr (A g 0)), some (vi x2), some (vi x3), some (vi x4), some (vi x5), some (vi x6), some (vi x7)] [] G _
  refine v_X6_seek_82 ?_
  refine ⟨fun hc => ?_, fun hc => ?_⟩
  · have h := h.1 hc
    exact wp.mono (h G A ⟨L, P, rfl, hS⟩) (fun r G' q => qx_trans hx q)
  · have h := h.2 hc
    refine ⟨fun hc => ?_, fun hc => ?_⟩
    · have h := h.1 hc
      exact wp.mono (h G A ⟨L, P, rfl, hS⟩) (fun r G' q => qx_trans hx q)
    · have h := h.2 hc
      refine ⟨fun hc => ?_, fun hc => ?_⟩
      · have h := h.1 hc
        exact wp.mono (h G A ⟨L, P, rfl, hS⟩) (fun r G' q => qx_trans hx q)
      · have h := h.2 hc
        refine ⟨hS.o (s0_16 hS), ?_⟩
        rw [l0_16_6 hS]
        obtain ⟨hz1, h⟩ := h
        refine ⟨hz1, ?_⟩
        refine ⟨hS.o (s0_18 hS), ?_⟩
        obtain ⟨hi2, h⟩ := h
        refine ⟨by first | (rw [(n0_18 hS)]; exact hi2) | exact (congrArg (vp_in _) (n0_18 hS)).mpr hi2 | exact hi2, ?_⟩
        have hS3 : Sh E (sI G (A 0 18) (Int32.toNatClampNeg (x7 - x7 / x3 * x3)) (gI G (A 0 16) 8)) A L P := Sh_sI (rfl : sI G (A 0 18) (Int32.toNatClampNeg (x7 - x7 / x3 * x3)) (gI G (A 0 16) 8) = sI G (A 0 18) (Int32.toNatClampNeg (x7 - x7 / x3 * x3)) (gI G (A 0 16) 8)) hS (s0_18 hS) (okT_0 rfl)
        have h := h (pl (sI G (A 0 18) (Int32.toNatClampNeg (x7 - x7 / x3 * x3)) (gI G (A 0 16) 8)) A L P) (pl_sI (rfl : sI G (A 0 18) (Int32.toNatClampNeg (x7 - x7 / x3 * x3)) (gI G (A 0 16) 8) = sI G (A 0 18) (Int32.toNatClampNeg (x7 - x7 / x3 * x3)) (gI G (A 0 16) 8)) hS (s0_18 hS))
        have hx3 : Xt (pl G A L P) A (pl (sI G (A 0 18) (Int32.toNatClampNeg (x7 - x7 / x3 * x3)) (gI G (A 0 16) 8)) A L P) A := Xt_sI (rfl : sI G (A 0 18) (Int32.toNatClampNeg (x7 - x7 / x3 * x3)) (gI G (A 0 16) 8) = sI G (A 0 18) (Int32.toNatClampNeg (x7 - x7 / x3 * x3)) (gI G (A 0 16) 8)) hx
        exact wp.mono (h (sI G (A 0 18) (Int32.toNatClampNeg (x7 - x7 / x3 * x3)) (gI G (A 0 16) 8)) A ⟨L, P, rfl, hS3⟩) (fun r G' q => qx_trans hx3 q)
theorem w_X6_seek_110 {E : EE} {d : Nat} {V : VH} {K : Int32 → VH → Prop} {g : Nat} {x2 : Int32} {x3 : Int32} {x4 : Int32} {x5 : Int32} {x6 : Int32} {x7 : Int32} (hg : PG (vL V) g) (h : vwp E d M_X6_seek 30 [some (sl 0 16), some (sl g 0), some (wi x2), some (wi x3), some (wi x4), some (wi x5), some (wi x6), some (wi (x7 + 1))] [] V (zi K)) : vwp E d M_X6_seek 110 [some (sl 0 16), some (sl g 0), some (wi x2), some (wi x3), some (wi x4), some (wi x5), some (wi x6), some (wi x7)] [] V (zi K) := by
  intro G A hR
  obtain ⟨L, P, rfl, hS⟩ := hR
  have hx := Xt.refl (V := pl G A L P) (A := A)
  show wp E d M_X6_seek 110 [some (vr (A 0 16)), some (vr (A g 0)), some (vi x2), some (vi x3), some (vi x4), some (vi x5), some (vi x6), some (vi x7)] [] G _
  refine v_X6_seek_110 ?_
  exact wp.mono (h G A ⟨L, P, rfl, hS⟩) (fun r G' q => qx_trans hx q)
theorem w_X6_begin_0 {E : EE} {d : Nat} {V : VH} {K : VH → Prop} {g : Nat} {x2 : Int32} (hg : PG (vL V) g) (h0 : 0 < d) (h : ∀ V1 : VH, V1 = wrI V 0 16 0 1 → ∀ V2 : VH, V2 = wrI V1 0 16 1 1 → ∀ V3 : VH, V3 = wrI V2 0 16 2 x2 → ∀ V4 : VH, V4 = wrI V3 0 16 3 (-1) → ∀ V5 : VH, V5 = wrI V4 0 16 8 (vI V4 g 0 8) → ∀ V6 : VH, V6 = wrI V5 0 16 10 (vI V5 g 0 8) → vMV E (d - 1) M_J7_fill_53178 [sl 0 18, wi (vI V6 g 0 8)] V6 (fun V7 => vMV E (d - 1) M_J7_fill_53178 [sl 0 19, wi (-1)] V7 (fun V11 => ∀ V15 : VH, V15 = wrI V11 0 16 5 0 → vwp E d M_X6_begin 62 [some (sl 0 16), some (sl g 0), some (wi x2), some (wi 0)] [] V15 (zv K)))) : vMV E d M_X6_begin [sl 0 16, sl g 0, wi x2] V K := by
  intro G A hR
  obtain ⟨L, P, rfl, hS⟩ := hR
  have hx := Xt.refl (V := pl G A L P) (A := A)
  show wpM E d M_X6_begin [vr (A 0 16), vr (A g 0), vi x2] G _
  refine wpM_of mk_X6_begin (Nat.le_of_ble_eq_true rfl) ?_
  refine v_X6_begin_0 h0 ?_
  refine ⟨hS.o (s0_16 hS), ?_⟩
  intro G1 eG1
  have hS1 : Sh E G1 A L P := Sh_sI eG1 hS (s0_16 hS) (okT_2 rfl (Or.inr rfl))
  have h := h (pl G1 A L P) (pl_sI eG1 hS (s0_16 hS))
  have hx1 : Xt (pl G A L P) A (pl G1 A L P) A := Xt_sI eG1 hx
  intro G2 eG2
  have hS2 : Sh E G2 A L P := Sh_sI eG2 hS1 (s0_16 hS1) (okT_0 rfl)
  have h := h (pl G2 A L P) (pl_sI eG2 hS1 (s0_16 hS1))
  have hx2 : Xt (pl G A L P) A (pl G2 A L P) A := Xt_sI eG2 hx1
  intro G3 eG3
  have hS3 : Sh E G3 A L P := Sh_sI eG3 hS2 (s0_16 hS2) (okT_0 rfl)
  have h := h (pl G3 A L P) (pl_sI eG3 hS2 (s0_16 hS2))
  have hx3 : Xt (pl G A L P) A (pl G3 A L P) A := Xt_sI eG3 hx2
  intro G4 eG4
  have hS4 : Sh E G4 A L P := Sh_sI eG4 hS3 (s0_16 hS3) (okT_0 rfl)
  have h := h (pl G4 A L P) (pl_sI eG4 hS3 (s0_16 hS3))
  have hx4 : Xt (pl G A L P) A (pl G4 A L P) A := Xt_sI eG4 hx3
  refine ⟨hS4.o (sP_0 hg), ?_⟩
  intro G5 eG5
  have hS5 : Sh E G5 A L P := Sh_sI eG5 hS4 (s0_16 hS4) (okT_0 rfl)
  have h := h (pl G5 A L P) (pl_sI eG5 hS4 (s0_16 hS4))
  have hx5 : Xt (pl G A L P) A (pl G5 A L P) A := Xt_sI eG5 hx4
  intro G6 eG6
  have hS6 : Sh E G6 A L P := Sh_sI eG6 hS5 (s0_16 hS5) (okT_0 rfl)
  have h := h (pl G6 A L P) (pl_sI eG6 hS5 (s0_16 hS5))
  have hx6 : Xt (pl G A L P) A (pl G6 A L P) A := Xt_sI eG6 hx5
  rw [l0_16_6 hS6]
  refine wpM.mono (h G6 A ⟨L, P, rfl, hS6⟩) (fun rr7 G7 hr => ?_)
  obtain ⟨A7, W7, w7, ⟨L7, P7, rfl, hS7⟩, hy7, rfl, rfl, h⟩ := hr
  refine ⟨rfl, ?_⟩
  have hx7 := Xt.trans hx6 hy7
  have hg8 : PG L7 g := PG.up hy7 hg
  have ee9 : A7 0 16 = A 0 16 := hy7.2 _ _ hS6.1.1 (((n0_16 hS7)).trans ((n0_16 hS6)).symm)
  try rw [← ee9]
  have ee10 : A7 g 0 = A g 0 := hy7.2 _ _ hg.1 (((nP_0 hS7 hg8)).trans ((nP_0 hS6 hg)).symm)
  try rw [← ee10]
  refine ⟨hS7.o (s0_16 hS7), ?_⟩
  rw [l0_16_7 hS7]
  refine wpM.mono (h G7 A7 ⟨L7, P7, rfl, hS7⟩) (fun rr11 G11 hr => ?_)
  obtain ⟨A11, W11, w11, ⟨L11, P11, rfl, hS11⟩, hy11, rfl, rfl, h⟩ := hr
  refine ⟨rfl, ?_⟩
  have hx11 := Xt.trans hx7 hy11
  have hg12 : PG L11 g := PG.up hy11 hg8
  have ee13 : A11 0 16 = A7 0 16 := hy11.2 _ _ hS7.1.1 (((n0_16 hS11)).trans ((n0_16 hS7)).symm)
  try rw [← ee13]
  have ee14 : A11 g 0 = A7 g 0 := hy11.2 _ _ hg8.1 (((nP_0 hS11 hg12)).trans ((nP_0 hS7 hg8)).symm)
  try rw [← ee14]
  refine ⟨hS11.o (s0_16 hS11), ?_⟩
  intro G15 eG15
  have hS15 : Sh E G15 A11 L11 P11 := Sh_sI eG15 hS11 (s0_16 hS11) (okT_0 rfl)
  have h := h (pl G15 A11 L11 P11) (pl_sI eG15 hS11 (s0_16 hS11))
  have hx15 : Xt (pl G A L P) A (pl G15 A11 L11 P11) A11 := Xt_sI eG15 hx11
  exact wp.mono (h G15 A11 ⟨L11, P11, rfl, hS15⟩) (fun r G' q => qx_trans hx15 q)
theorem w_X6_begin_62 {E : EE} {d : Nat} {V : VH} {K : VH → Prop} {g : Nat} {x2 : Int32} {x3 : Int32} (hg : PG (vL V) g) (h : ((vI V g 5 0) ≤ x3 → K V) ∧ (¬ ((vI V g 5 0) ≤ x3) → (¬ (((vI V g 0 9) >>> (x3 &&& 31)) &&& 1) = 0 → vwp E d M_X6_begin 114 [some (sl 0 16), some (sl g 0), some (wi x2), some (wi x3)] [] V (zv K)) ∧ ((((vI V g 0 9) >>> (x3 &&& 31)) &&& 1) = 0 → vp_in x3 12 ∧ (((vI V g 6 (Int32.toNatClampNeg x3)) < 2 → vwp E d M_X6_begin 114 [some (sl 0 16), some (sl g 0), some (wi x2), some (wi x3)] [] V (zv K)) ∧ (¬ ((vI V g 6 (Int32.toNatClampNeg x3)) < 2) → ∀ V2 : VH, V2 = wrI V 0 16 5 ((vI V 0 16 5) + 1) → vp_in (vI V 0 16 5) 12 ∧ (∀ V4 : VH, V4 = wrI V2 0 17 (Int32.toNatClampNeg (vI V 0 16 5)) x3 → vwp E d M_X6_begin 114 [some (sl 0 16), some (sl g 0), some (wi x2), some (wi x3)] [] V4 (zv K))))))) : vwp E d M_X6_begin 62 [some (sl 0 16), some (sl g 0), some (wi x2), some (wi x3)] [] V (zv K) := by
  intro G A hR
  obtain ⟨L, P, rfl, hS⟩ := hR
  have hx := Xt.refl (V := pl G A L P) (A := A)
  show wp E d M_X6_begin 62 [some (vr (A 0 16)), some (vr (A g 0)), some (vi x2), some (vi x3)] [] G _
  refine v_X6_begin_62 ?_
  refine ⟨hS.o (sP_0 hg), ?_⟩
  rw [lP_0_4 hS hg]
  refine ⟨hS.o (sP_5 hg), ?_⟩
  refine ⟨fun hc => ?_, fun hc => ?_⟩
  · have h := h.1 hc
    exact qx_v hS hx h
  · have h := h.2 hc
    refine ⟨fun hc => ?_, fun hc => ?_⟩
    · have h := h.1 hc
      exact wp.mono (h G A ⟨L, P, rfl, hS⟩) (fun r G' q => qx_trans hx q)
    · have h := h.2 hc
      rw [lP_5_2 hS hg]
      refine ⟨hS.o (sP_6 hg), ?_⟩
      obtain ⟨hi1, h⟩ := h
      refine ⟨by first | (rw [(nP_6 hS hg)]; exact hi1) | exact (congrArg (vp_in _) (nP_6 hS hg)).mpr hi1 | exact hi1, ?_⟩
      refine ⟨fun hc => ?_, fun hc => ?_⟩
      · have h := h.1 hc
        exact wp.mono (h G A ⟨L, P, rfl, hS⟩) (fun r G' q => qx_trans hx q)
      · have h := h.2 hc
        refine ⟨hS.o (s0_16 hS), ?_⟩
        rw [l0_16_4 hS]
        intro G2 eG2
        have hS2 : Sh E G2 A L P := Sh_sI eG2 hS (s0_16 hS) (okT_0 rfl)
        have h := h (pl G2 A L P) (pl_sI eG2 hS (s0_16 hS))
        have hx2 : Xt (pl G A L P) A (pl G2 A L P) A := Xt_sI eG2 hx
        refine ⟨hS2.o (s0_17 hS2), ?_⟩
        obtain ⟨hi3, h⟩ := h
        refine ⟨by first | (rw [(n0_17 hS2)]; exact hi3) | exact (congrArg (vp_in _) (n0_17 hS2)).mpr hi3 | exact hi3, ?_⟩
        intro G4 eG4
        have hS4 : Sh E G4 A L P := Sh_sI eG4 hS2 (s0_17 hS2) (okT_0 rfl)
        have h := h (pl G4 A L P) (pl_sI eG4 hS2 (s0_17 hS2))
        have hx4 : Xt (pl G A L P) A (pl G4 A L P) A := Xt_sI eG4 hx2
        exact wp.mono (h G4 A ⟨L, P, rfl, hS4⟩) (fun r G' q => qx_trans hx4 q)
theorem w_X6_begin_114 {E : EE} {d : Nat} {V : VH} {K : VH → Prop} {g : Nat} {x2 : Int32} {x3 : Int32} (hg : PG (vL V) g) (h : vwp E d M_X6_begin 62 [some (sl 0 16), some (sl g 0), some (wi x2), some (wi (x3 + 1))] [] V (zv K)) : vwp E d M_X6_begin 114 [some (sl 0 16), some (sl g 0), some (wi x2), some (wi x3)] [] V (zv K) := by
  intro G A hR
  obtain ⟨L, P, rfl, hS⟩ := hR
  have hx := Xt.refl (V := pl G A L P) (A := A)
  show wp E d M_X6_begin 114 [some (vr (A 0 16)), some (vr (A g 0)), some (vi x2), some (vi x3)] [] G _
  refine v_X6_begin_114 ?_
  exact wp.mono (h G A ⟨L, P, rfl, hS⟩) (fun r G' q => qx_trans hx q)
theorem w_X6_propose_0 {E : EE} {d : Nat} {V : VH} {K : Int32 → VH → Prop} {g : Nat} (hg : PG (vL V) g) (h0 : 0 < d) (h : vMI E (d - 1) M_X6_draw [sl 0 16, wi 4] V (fun r1 V1 => ∀ V5 : VH, V5 = wrI V1 0 16 11 r1 → vMI E (d - 1) M_X6_draw [sl 0 16, wi (vI V5 0 16 5)] V5 (fun r6 V6 => vp_in r6 12 ∧ (∀ V12 : VH, V12 = wrI V6 0 16 12 (vI V6 0 17 (Int32.toNatClampNeg r6)) → (3 ≤ (vI V12 0 16 11) → vMI E (d - 1) M_X6_draw [sl 0 16, wi (vI V12 0 16 5)] V12 (fun r13 V13 => vp_in r13 12 ∧ (∀ V19 : VH, V19 = wrI V13 0 16 13 (vI V13 0 17 (Int32.toNatClampNeg r13)) → (¬ (vI V19 0 16 12) = (vI V19 0 16 13) → vMI E (d - 1) M_X7_valueOf [sl g 5, wi (vI V19 0 16 8), wi (vI V19 0 16 13)] V19 (fun r20 V20 => vMI E (d - 1) M_X7_placeOfValue [sl g 5, wi (vI V19 0 16 12), wi r20] V20 (fun r24 V24 => vMI E (d - 1) M_X7_valueOf [sl g 5, wi (vI V24 0 16 8), wi (vI V24 0 16 12)] V24 (fun r28 V28 => vMI E (d - 1) M_X7_placeOfValue [sl g 5, wi (vI V24 0 16 13), wi r28] V28 (fun r32 V32 => (r24 < 0 → K 0 V32) ∧ (¬ (r24 < 0) → (0 ≤ r32 → vMI E (d - 1) M_X7_moved [sl g 5, wi (vI V32 0 16 8), wi (vI V32 0 16 12), wi r24] V32 (fun r36 V36 => vMI E (d - 1) M_X7_moved [sl g 5, wi r36, wi (vI V36 0 16 13), wi r32] V36 (fun r40 V40 => ∀ V44 : VH, V44 = wrI V40 0 16 9 r40 → K 1 V44))) ∧ (¬ (0 ≤ r32) → K 0 V32))))))) ∧ ((vI V19 0 16 12) = (vI V19 0 16 13) → K 0 V19)))) ∧ (¬ (3 ≤ (vI V12 0 16 11)) → ∀ V45 : VH, V45 = wrI V12 0 16 13 (vI V12 0 16 12) → vp_in (vI V45 0 16 12) 12 ∧ (vMI E (d - 1) M_X6_draw [sl 0 16, wi ((vI V45 g 6 (Int32.toNatClampNeg (vI V45 0 16 12))) - 1)] V45 (fun r47 V47 => vMI E (d - 1) M_X7_placeOf [sl g 5, wi (vI V47 0 16 8), wi (vI V47 0 16 12)] V47 (fun r51 V51 => (r51 ≤ r47 → vwp E d M_X6_propose 91 [some (sl 0 16), some (sl g 5), some (wi r47), none] [wi (r47 + 1), wi (vI V47 0 16 12), wi (vI V47 0 16 8), sl g 5, sl 0 16] V51 (zi K)) ∧ (¬ (r51 ≤ r47) → vwp E d M_X6_propose 91 [some (sl 0 16), some (sl g 5), some (wi r47), none] [wi r47, wi (vI V47 0 16 12), wi (vI V47 0 16 8), sl g 5, sl 0 16] V51 (zi K)))))))))) : vMI E d M_X6_propose [sl 0 16, sl g 5] V K := by
  intro G A hR
  obtain ⟨L, P, rfl, hS⟩ := hR
  have hx := Xt.refl (V := pl G A L P) (A := A)
  show wpM E d M_X6_propose [vr (A 0 16), vr (A g 5)] G _
  refine wpM_of mk_X6_propose (Nat.le_of_ble_eq_true rfl) ?_
  refine v_X6_propose_0 h0 ?_
  refine ⟨hS.o (s0_16 hS), ?_⟩
  refine wpM.mono (h G A ⟨L, P, rfl, hS⟩) (fun rr1 G1 hr => ?_)
  obtain ⟨A1, W1, w1, ⟨L1, P1, rfl, hS1⟩, hy1, rfl, r1, rfl, h⟩ := hr
  refine ⟨r1, rfl, ?_⟩
  have hx1 := Xt.trans hx hy1
  have hg2 : PG L1 g := PG.up hy1 hg
  have ee3 : A1 0 16 = A 0 16 := hy1.2 _ _ hS.1.1 (((n0_16 hS1)).trans ((n0_16 hS)).symm)
  try rw [← ee3]
  have ee4 : A1 g 5 = A g 5 := hy1.2 _ _ hg.1 (((nP_5 hS1 hg2)).trans ((nP_5 hS hg)).symm)
  try rw [← ee4]
  refine ⟨hS1.o (s0_16 hS1), ?_⟩
  intro G5 eG5
  have hS5 : Sh E G5 A1 L1 P1 := Sh_sI eG5 hS1 (s0_16 hS1) (okT_0 rfl)
  have h := h (pl G5 A1 L1 P1) (pl_sI eG5 hS1 (s0_16 hS1))
  have hx5 : Xt (pl G A L P) A (pl G5 A1 L1 P1) A1 := Xt_sI eG5 hx1
  rw [l0_16_4 hS5]
  refine wpM.mono (h G5 A1 ⟨L1, P1, rfl, hS5⟩) (fun rr6 G6 hr => ?_)
  obtain ⟨A6, W6, w6, ⟨L6, P6, rfl, hS6⟩, hy6, rfl, r6, rfl, h⟩ := hr
  refine ⟨r6, rfl, ?_⟩
  have hx6 := Xt.trans hx5 hy6
  have hg7 : PG L6 g := PG.up hy6 hg2
  have ee8 : A6 0 16 = A1 0 16 := hy6.2 _ _ hS5.1.1 (((n0_16 hS6)).trans ((n0_16 hS5)).symm)
  try rw [← ee8]
  have ee9 : A6 0 17 = A1 0 17 := hy6.2 _ _ hS5.1.1 (((n0_17 hS6)).trans ((n0_17 hS5)).symm)
  try rw [← ee9]
  have ee10 : A6 g 5 = A1 g 5 := hy6.2 _ _ hg2.1 (((nP_5 hS6 hg7)).trans ((nP_5 hS5 hg2)).symm)
  try rw [← ee10]
  refine ⟨hS6.o (s0_17 hS6), ?_⟩
  obtain ⟨hi11, h⟩ := h
  refine ⟨by first | (rw [(n0_17 hS6)]; exact hi11) | exact (congrArg (vp_in _) (n0_17 hS6)).mpr hi11 | exact hi11, ?_⟩
  refine ⟨hS6.o (s0_16 hS6), ?_⟩
  intro G12 eG12
  have hS12 : Sh E G12 A6 L6 P6 := Sh_sI eG12 hS6 (s0_16 hS6) (okT_0 rfl)
  have h := h (pl G12 A6 L6 P6) (pl_sI eG12 hS6 (s0_16 hS6))
  have hx12 : Xt (pl G A L P) A (pl G12 A6 L6 P6) A6 := Xt_sI eG12 hx6
  refine ⟨fun hc => ?_, fun hc => ?_⟩
  · have h := h.1 hc
    rw [l0_16_4 hS12]
    refine wpM.mono (h G12 A6 ⟨L6, P6, rfl, hS12⟩) (fun rr13 G13 hr => ?_)
    obtain ⟨A13, W13, w13, ⟨L13, P13, rfl, hS13⟩, hy13, rfl, r13, rfl, h⟩ := hr
    refine ⟨r13, rfl, ?_⟩
    have hx13 := Xt.trans hx12 hy13
    have hg14 : PG L13 g := PG.up hy13 hg7
    have ee15 : A13 0 16 = A6 0 16 := hy13.2 _ _ hS12.1.1 (((n0_16 hS13)).trans ((n0_16 hS12)).symm)
    try rw [← ee15]
    have ee16 : A13 0 17 = A6 0 17 := hy13.2 _ _ hS12.1.1 (((n0_17 hS13)).trans ((n0_17 hS12)).symm)
    try rw [← ee16]
    have ee17 : A13 g 5 = A6 g 5 := hy13.2 _ _ hg7.1 (((nP_5 hS13 hg14)).trans ((nP_5 hS12 hg7)).symm)
    try rw [← ee17]
    refine ⟨hS13.o (s0_17 hS13), ?_⟩
    obtain ⟨hi18, h⟩ := h
    refine ⟨by first | (rw [(n0_17 hS13)]; exact hi18) | exact (congrArg (vp_in _) (n0_17 hS13)).mpr hi18 | exact hi18, ?_⟩
    refine ⟨hS13.o (s0_16 hS13), ?_⟩
    intro G19 eG19
    have hS19 : Sh E G19 A13 L13 P13 := Sh_sI eG19 hS13 (s0_16 hS13) (okT_0 rfl)
    have h := h (pl G19 A13 L13 P13) (pl_sI eG19 hS13 (s0_16 hS13))
    have hx19 : Xt (pl G A L P) A (pl G19 A13 L13 P13) A13 := Xt_sI eG19 hx13
    refine ⟨fun hc => ?_, fun hc => ?_⟩
    · have h := h.1 hc
      refine ⟨hS19.o (sP_5 hg14), ?_⟩
      refine wpM.mono (h G19 A13 ⟨L13, P13, rfl, hS19⟩) (fun rr20 G20 hr => ?_)
      obtain ⟨A20, W20, w20, ⟨L20, P20, rfl, hS20⟩, hy20, rfl, r20, rfl, h⟩ := hr
      refine ⟨r20, rfl, ?_⟩
      have hx20 := Xt.trans hx19 hy20
      have hg21 : PG L20 g := PG.up hy20 hg14
      have ee22 : A20 0 16 = A13 0 16 := hy20.2 _ _ hS19.1.1 (((n0_16 hS20)).trans ((n0_16 hS19)).symm)
      try rw [← ee22]
      have ee23 : A20 g 5 = A13 g 5 := hy20.2 _ _ hg14.1 (((nP_5 hS20 hg21)).trans ((nP_5 hS19 hg14)).symm)
      try rw [← ee23]
      try rw [show gI G19 (A20 0 16) = gI G19 (A13 0 16) from by rw [ee22]]
      refine ⟨hS20.o (sP_5 hg21), ?_⟩
      refine wpM.mono (h G20 A20 ⟨L20, P20, rfl, hS20⟩) (fun rr24 G24 hr => ?_)
      obtain ⟨A24, W24, w24, ⟨L24, P24, rfl, hS24⟩, hy24, rfl, r24, rfl, h⟩ := hr
      refine ⟨r24, rfl, ?_⟩
      have hx24 := Xt.trans hx20 hy24
      have hg25 : PG L24 g := PG.up hy24 hg21
      have ee26 : A24 0 16 = A20 0 16 := hy24.2 _ _ hS20.1.1 (((n0_16 hS24)).trans ((n0_16 hS20)).symm)
      try rw [← ee26]
      have ee27 : A24 g 5 = A20 g 5 := hy24.2 _ _ hg21.1 (((nP_5 hS24 hg25)).trans ((nP_5 hS20 hg21)).symm)
      try rw [← ee27]
      refine ⟨hS24.o (s0_16 hS24), ?_⟩
      refine ⟨hS24.o (sP_5 hg25), ?_⟩
      refine wpM.mono (h G24 A24 ⟨L24, P24, rfl, hS24⟩) (fun rr28 G28 hr => ?_)
      obtain ⟨A28, W28, w28, ⟨L28, P28, rfl, hS28⟩, hy28, rfl, r28, rfl, h⟩ := hr
      refine ⟨r28, rfl, ?_⟩
      have hx28 := Xt.trans hx24 hy28
      have hg29 : PG L28 g := PG.up hy28 hg25
      have ee30 : A28 0 16 = A24 0 16 := hy28.2 _ _ hS24.1.1 (((n0_16 hS28)).trans ((n0_16 hS24)).symm)
      try rw [← ee30]
      have ee31 : A28 g 5 = A24 g 5 := hy28.2 _ _ hg25.1 (((nP_5 hS28 hg29)).trans ((nP_5 hS24 hg25)).symm)
      try rw [← ee31]
      try rw [show gI G24 (A28 0 16) = gI G24 (A24 0 16) from by rw [ee30]]
      refine ⟨hS28.o (sP_5 hg29), ?_⟩
      refine wpM.mono (h G28 A28 ⟨L28, P28, rfl, hS28⟩) (fun rr32 G32 hr => ?_)
      obtain ⟨A32, W32, w32, ⟨L32, P32, rfl, hS32⟩, hy32, rfl, r32, rfl, h⟩ := hr
      refine ⟨r32, rfl, ?_⟩
      have hx32 := Xt.trans hx28 hy32
      have hg33 : PG L32 g := PG.up hy32 hg29
      have ee34 : A32 0 16 = A28 0 16 := hy32.2 _ _ hS28.1.1 (((n0_16 hS32)).trans ((n0_16 hS28)).symm)
      try rw [← ee34]
      have ee35 : A32 g 5 = A28 g 5 := hy32.2 _ _ hg29.1 (((nP_5 hS32 hg33)).trans ((nP_5 hS28 hg29)).symm)
      try rw [← ee35]
      refine ⟨fun hc => ?_, fun hc => ?_⟩
      · have h := h.1 hc
        exact qx_i hS32 hx32 h
      · have h := h.2 hc
        refine ⟨fun hc => ?_, fun hc => ?_⟩
        · have h := h.1 hc
          refine ⟨hS32.o (s0_16 hS32), ?_⟩
          refine ⟨hS32.o (sP_5 hg33), ?_⟩
          refine wpM.mono (h G32 A32 ⟨L32, P32, rfl, hS32⟩) (fun rr36 G36 hr => ?_)
          obtain ⟨A36, W36, w36, ⟨L36, P36, rfl, hS36⟩, hy36, rfl, r36, rfl, h⟩ := hr
          refine ⟨r36, rfl, ?_⟩
          have hx36 := Xt.trans hx32 hy36
          have hg37 : PG L36 g := PG.up hy36 hg33
          have ee38 : A36 0 16 = A32 0 16 := hy36.2 _ _ hS32.1.1 (((n0_16 hS36)).trans ((n0_16 hS32)).symm)
          try rw [← ee38]
          have ee39 : A36 g 5 = A32 g 5 := hy36.2 _ _ hg33.1 (((nP_5 hS36 hg37)).trans ((nP_5 hS32 hg33)).symm)
          try rw [← ee39]
          refine ⟨hS36.o (s0_16 hS36), ?_⟩
          refine ⟨hS36.o (sP_5 hg37), ?_⟩
          refine wpM.mono (h G36 A36 ⟨L36, P36, rfl, hS36⟩) (fun rr40 G40 hr => ?_)
          obtain ⟨A40, W40, w40, ⟨L40, P40, rfl, hS40⟩, hy40, rfl, r40, rfl, h⟩ := hr
          refine ⟨r40, rfl, ?_⟩
          have hx40 := Xt.trans hx36 hy40
          have hg41 : PG L40 g := PG.up hy40 hg37
          have ee42 : A40 0 16 = A36 0 16 := hy40.2 _ _ hS36.1.1 (((n0_16 hS40)).trans ((n0_16 hS36)).symm)
          try rw [← ee42]
          have ee43 : A40 g 5 = A36 g 5 := hy40.2 _ _ hg37.1 (((nP_5 hS40 hg41)).trans ((nP_5 hS36 hg37)).symm)
          try rw [← ee43]
          refine ⟨hS40.o (s0_16 hS40), ?_⟩
          intro G44 eG44
          have hS44 : Sh E G44 A40 L40 P40 := Sh_sI eG44 hS40 (s0_16 hS40) (okT_0 rfl)
          have h := h (pl G44 A40 L40 P40) (pl_sI eG44 hS40 (s0_16 hS40))
          have hx44 : Xt (pl G A L P) A (pl G44 A40 L40 P40) A40 := Xt_sI eG44 hx40
          exact qx_i hS44 hx44 h
        · have h := h.2 hc
          exact qx_i hS32 hx32 h
    · have h := h.2 hc
      exact qx_i hS19 hx19 h
  · have h := h.2 hc
    intro G45 eG45
    have hS45 : Sh E G45 A6 L6 P6 := Sh_sI eG45 hS12 (s0_16 hS12) (okT_0 rfl)
    have h := h (pl G45 A6 L6 P6) (pl_sI eG45 hS12 (s0_16 hS12))
    have hx45 : Xt (pl G A L P) A (pl G45 A6 L6 P6) A6 := Xt_sI eG45 hx12
    refine ⟨hS45.o (sP_5 hg7), ?_⟩
    rw [lP_5_2 hS45 hg7]
    refine ⟨hS45.o (sP_6 hg7), ?_⟩
    obtain ⟨hi46, h⟩ := h
    refine ⟨by first | (rw [(nP_6 hS45 hg7)]; exact hi46) | exact (congrArg (vp_in _) (nP_6 hS45 hg7)).mpr hi46 | exact hi46, ?_⟩
    refine wpM.mono (h G45 A6 ⟨L6, P6, rfl, hS45⟩) (fun rr47 G47 hr => ?_)
    obtain ⟨A47, W47, w47, ⟨L47, P47, rfl, hS47⟩, hy47, rfl, r47, rfl, h⟩ := hr
    refine ⟨r47, rfl, ?_⟩
    have hx47 := Xt.trans hx45 hy47
    have hg48 : PG L47 g := PG.up hy47 hg7
    have ee49 : A47 0 16 = A6 0 16 := hy47.2 _ _ hS45.1.1 (((n0_16 hS47)).trans ((n0_16 hS45)).symm)
    try rw [← ee49]
    have ee50 : A47 g 5 = A6 g 5 := hy47.2 _ _ hg7.1 (((nP_5 hS47 hg48)).trans ((nP_5 hS45 hg7)).symm)
    try rw [← ee50]
    refine ⟨hS47.o (s0_16 hS47), ?_⟩
    refine ⟨hS47.o (sP_5 hg48), ?_⟩
    refine wpM.mono (h G47 A47 ⟨L47, P47, rfl, hS47⟩) (fun rr51 G51 hr => ?_)
    obtain ⟨A51, W51, w51, ⟨L51, P51, rfl, hS51⟩, hy51, rfl, r51, rfl, h⟩ := hr
    refine ⟨r51, rfl, ?_⟩
    have hx51 := Xt.trans hx47 hy51
    have hg52 : PG L51 g := PG.up hy51 hg48
    have ee53 : A51 0 16 = A47 0 16 := hy51.2 _ _ hS47.1.1 (((n0_16 hS51)).trans ((n0_16 hS47)).symm)
    try rw [← ee53]
    have ee54 : A51 g 5 = A47 g 5 := hy51.2 _ _ hg48.1 (((nP_5 hS51 hg52)).trans ((nP_5 hS47 hg48)).symm)
    try rw [← ee54]
    try rw [show gI G47 (A51 0 16) = gI G47 (A47 0 16) from by rw [ee53]]
    refine ⟨fun hc => ?_, fun hc => ?_⟩
    · have h := h.1 hc
      exact wp.mono (h G51 A51 ⟨L51, P51, rfl, hS51⟩) (fun r G' q => qx_trans hx51 q)
    · have h := h.2 hc
      exact wp.mono (h G51 A51 ⟨L51, P51, rfl, hS51⟩) (fun r G' q => qx_trans hx51 q)
theorem w_X6_propose_91 {E : EE} {d : Nat} {V : VH} {K : Int32 → VH → Prop} {g : Nat} {x2 : Int32} {t2 : Int32} {t3 : Int32} {t4 : Int32} (hg : PG (vL V) g) (h0 : 0 < d) (h : vMI E (d - 1) M_X7_moved [sl g 5, wi t2, wi t3, wi t4] V (fun r1 V1 => ∀ V5 : VH, V5 = wrI V1 0 16 9 r1 → K 1 V5)) : vwp E d M_X6_propose 91 [some (sl 0 16), some (sl g 5), some (wi x2), none] [wi t4, wi t3, wi t2, sl g 5, sl 0 16] V (zi K) := by
  intro G A hR
  obtain ⟨L, P, rfl, hS⟩ := hR
  have hx := Xt.refl (V := pl G A L P) (A := A)
  show wp E d M_X6_propose 91 [some (vr (A 0 16)), some (vr (A g 5)), some (vi x2), none] [vi t4, vi t3, vi t2, vr (A g 5), vr (A 0 16)] G _
  refine v_X6_propose_91 h0 ?_
  refine ⟨hS.o (sP_5 hg), ?_⟩
  refine wpM.mono (h G A ⟨L, P, rfl, hS⟩) (fun rr1 G1 hr => ?_)
  obtain ⟨A1, W1, w1, ⟨L1, P1, rfl, hS1⟩, hy1, rfl, r1, rfl, h⟩ := hr
  refine ⟨r1, rfl, ?_⟩
  have hx1 := Xt.trans hx hy1
  have hg2 : PG L1 g := PG.up hy1 hg
  have ee3 : A1 0 16 = A 0 16 := hy1.2 _ _ hS.1.1 (((n0_16 hS1)).trans ((n0_16 hS)).symm)
  try rw [← ee3]
  have ee4 : A1 g 5 = A g 5 := hy1.2 _ _ hg.1 (((nP_5 hS1 hg2)).trans ((nP_5 hS hg)).symm)
  try rw [← ee4]
  refine ⟨hS1.o (s0_16 hS1), ?_⟩
  have hS5 : Sh E (sI G1 (A1 0 16) 9 r1) A1 L1 P1 := Sh_sI (rfl : sI G1 (A1 0 16) 9 r1 = sI G1 (A1 0 16) 9 r1) hS1 (s0_16 hS1) (okT_0 rfl)
  have h := h (pl (sI G1 (A1 0 16) 9 r1) A1 L1 P1) (pl_sI (rfl : sI G1 (A1 0 16) 9 r1 = sI G1 (A1 0 16) 9 r1) hS1 (s0_16 hS1))
  have hx5 : Xt (pl G A L P) A (pl (sI G1 (A1 0 16) 9 r1) A1 L1 P1) A1 := Xt_sI (rfl : sI G1 (A1 0 16) 9 r1 = sI G1 (A1 0 16) 9 r1) hx1
  exact qx_i hS5 hx5 h
theorem w_X6_draw_0 {E : EE} {d : Nat} {V : VH} {K : Int32 → VH → Prop} {x1 : Int32}  (h : ∀ V1 : VH, V1 = wrI V 0 16 2 (((vI V 0 16 2) * 1664525) + 1013904223) → (1 ≤ x1 → ¬ x1 = 0 ∧ (K ((iushr (vI V1 0 16 2) 8) - (iushr (vI V1 0 16 2) 8) / x1 * x1) V1)) ∧ (¬ (1 ≤ x1) → K 0 V1)) : vMI E d M_X6_draw [sl 0 16, wi x1] V K := by
  intro G A hR
  obtain ⟨L, P, rfl, hS⟩ := hR
  have hx := Xt.refl (V := pl G A L P) (A := A)
  show wpM E d M_X6_draw [vr (A 0 16), vi x1] G _
  refine wpM_of mk_X6_draw (Nat.le_of_ble_eq_true rfl) ?_
  refine v_X6_draw_0 ?_
  refine ⟨hS.o (s0_16 hS), ?_⟩
  have hS1 : Sh E (sI G (A 0 16) 2 (((gI G (A 0 16) 2) * 1664525) + 1013904223)) A L P := Sh_sI (rfl : sI G (A 0 16) 2 (((gI G (A 0 16) 2) * 1664525) + 1013904223) = sI G (A 0 16) 2 (((gI G (A 0 16) 2) * 1664525) + 1013904223)) hS (s0_16 hS) (okT_0 rfl)
  have h := h (pl (sI G (A 0 16) 2 (((gI G (A 0 16) 2) * 1664525) + 1013904223)) A L P) (pl_sI (rfl : sI G (A 0 16) 2 (((gI G (A 0 16) 2) * 1664525) + 1013904223) = sI G (A 0 16) 2 (((gI G (A 0 16) 2) * 1664525) + 1013904223)) hS (s0_16 hS))
  have hx1 : Xt (pl G A L P) A (pl (sI G (A 0 16) 2 (((gI G (A 0 16) 2) * 1664525) + 1013904223)) A L P) A := Xt_sI (rfl : sI G (A 0 16) 2 (((gI G (A 0 16) 2) * 1664525) + 1013904223) = sI G (A 0 16) 2 (((gI G (A 0 16) 2) * 1664525) + 1013904223)) hx
  refine ⟨fun hc => ?_, fun hc => ?_⟩
  · have h := h.1 hc
    obtain ⟨hz2, h⟩ := h
    refine ⟨hz2, ?_⟩
    exact qx_i hS1 hx1 h
  · have h := h.2 hc
    exact qx_i hS1 hx1 h
theorem w_X6_isTaken_0 {E : EE} {d : Nat} {V : VH} {K : Int32 → VH → Prop} {g : Nat} {x2 : Int32} {x3 : Int32} {x4 : Int32} {x5 : Int32} (hg : PG (vL V) g) (h : (¬ x2 = 3 → (¬ x2 = 2 → vwp E d M_X6_isTaken 93 [some (sl 0 16), some (sl g 19), some (wi x2), some (wi x3), some (wi x4), some (wi x5), none, none] [] V (zi K)) ∧ (x2 = 2 → vp_in (vI V 0 16 12) 12 ∧ ((x4 ≤ (vI V 0 19 (Int32.toNatClampNeg (vI V 0 16 12))) → vwp E d M_X6_isTaken 89 [some (sl 0 16), some (sl g 19), some (wi x2), some (wi x3), some (wi x4), some (wi x5), none, none] [] V (zi K)) ∧ (¬ (x4 ≤ (vI V 0 19 (Int32.toNatClampNeg (vI V 0 16 12)))) → vp_in (vI V 0 16 13) 12 ∧ (((vI V 0 19 (Int32.toNatClampNeg (vI V 0 16 13))) < x4 → vwp E d M_X6_isTaken 93 [some (sl 0 16), some (sl g 19), some (wi x2), some (wi x3), some (wi x4), some (wi x5), none, none] [] V (zi K)) ∧ (¬ ((vI V 0 19 (Int32.toNatClampNeg (vI V 0 16 13))) < x4) → vwp E d M_X6_isTaken 89 [some (sl 0 16), some (sl g 19), some (wi x2), some (wi x3), some (wi x4), some (wi x5), none, none] [] V (zi K))))))) ∧ (x2 = 3 → (1 ≤ x5 → ¬ x5 = 0 ∧ (vwp E d M_X6_isTaken 25 [some (sl 0 16), some (sl g 19), some (wi x2), some (wi x3), some (wi x4), some (wi x5), none, none] [wj (Int32.toInt64 (x3 - ((x3 * x4) / x5)))] V (zi K))) ∧ (¬ (1 ≤ x5) → vwp E d M_X6_isTaken 25 [some (sl 0 16), some (sl g 19), some (wi x2), some (wi x3), some (wi x4), some (wi x5), none, none] [wj 0] V (zi K)))) : vMI E d M_X6_isTaken [sl 0 16, sl g 19, wi x2, wi x3, wi x4, wi x5] V K := by
  intro G A hR
  obtain ⟨L, P, rfl, hS⟩ := hR
  have hx := Xt.refl (V := pl G A L P) (A := A)
  show wpM E d M_X6_isTaken [vr (A 0 16), vr (A g 19), vi x2, vi x3, vi x4, vi x5] G _
  refine wpM_of mk_X6_isTaken (Nat.le_of_ble_eq_true rfl) ?_
  refine v_X6_isTaken_0 ?_
  refine ⟨fun hc => ?_, fun hc => ?_⟩
  · have h := h.1 hc
    refine ⟨fun hc => ?_, fun hc => ?_⟩
    · have h := h.1 hc
      exact wp.mono (h G A ⟨L, P, rfl, hS⟩) (fun r G' q => qx_trans hx q)
    · have h := h.2 hc
      refine ⟨hS.o (s0_16 hS), ?_⟩
      rw [l0_16_7 hS]
      refine ⟨hS.o (s0_19 hS), ?_⟩
      obtain ⟨hi1, h⟩ := h
      refine ⟨by first | (rw [(n0_19 hS)]; exact hi1) | exact (congrArg (vp_in _) (n0_19 hS)).mpr hi1 | exact hi1, ?_⟩
      refine ⟨fun hc => ?_, fun hc => ?_⟩
      · have h := h.1 hc
        exact wp.mono (h G A ⟨L, P, rfl, hS⟩) (fun r G' q => qx_trans hx q)
      · have h := h.2 hc
        obtain ⟨hi2, h⟩ := h
        refine ⟨by first | (rw [(n0_19 hS)]; exact hi2) | exact (congrArg (vp_in _) (n0_19 hS)).mpr hi2 | exact hi2, ?_⟩
        refine ⟨fun hc => ?_, fun hc => ?_⟩
        · have h := h.1 hc
          exact wp.mono (h G A ⟨L, P, rfl, hS⟩) (fun r G' q => qx_trans hx q)
        · have h := h.2 hc
          exact wp.mono (h G A ⟨L, P, rfl, hS⟩) (fun r G' q => qx_trans hx q)
  · have h := h.2 hc
    refine ⟨fun hc => ?_, fun hc => ?_⟩
    · have h := h.1 hc
      obtain ⟨hz3, h⟩ := h
      refine ⟨hz3, ?_⟩
      exact wp.mono (h G A ⟨L, P, rfl, hS⟩) (fun r G' q => qx_trans hx q)
    · have h := h.2 hc
      exact wp.mono (h G A ⟨L, P, rfl, hS⟩) (fun r G' q => qx_trans hx q)
theorem w_X6_isTaken_25 {E : EE} {d : Nat} {V : VH} {K : Int32 → VH → Prop} {g : Nat} {x2 : Int32} {x3 : Int32} {x4 : Int32} {x5 : Int32} {t0 : Int64} (hg : PG (vL V) g) (h0 : 0 < d) (h : vMJ E (d - 1) M_X6_worth [sl g 19, wi (vI V 0 16 9)] V (fun r1 V1 => vMJ E (d - 1) M_X6_worth [sl g 19, wi (vI V1 0 16 8)] V1 (fun r5 V5 => (t0 < (r1 - r5) → K 0 V5) ∧ (¬ (t0 < (r1 - r5)) → K 1 V5)))) : vwp E d M_X6_isTaken 25 [some (sl 0 16), some (sl g 19), some (wi x2), some (wi x3), some (wi x4), some (wi x5), none, none] [wj t0] V (zi K) := by
  intro G A hR
  obtain ⟨L, P, rfl, hS⟩ := hR
  have hx := Xt.refl (V := pl G A L P) (A := A)
  show wp E d M_X6_isTaken 25 [some (vr (A 0 16)), some (vr (A g 19)), some (vi x2), some (vi x3), some (vi x4), some (vi x5), none, none] [vj t0] G _
  refine v_X6_isTaken_25 h0 ?_
  refine ⟨hS.o (s0_16 hS), ?_⟩
  refine wpM.mono (h G A ⟨L, P, rfl, hS⟩) (fun rr1 G1 hr => ?_)
  obtain ⟨A1, W1, w1, ⟨L1, P1, rfl, hS1⟩, hy1, rfl, r1, rfl, h⟩ := hr
  refine ⟨r1, rfl, ?_⟩
  have hx1 := Xt.trans hx hy1
  have hg2 : PG L1 g := PG.up hy1 hg
  have ee3 : A1 0 16 = A 0 16 := hy1.2 _ _ hS.1.1 (((n0_16 hS1)).trans ((n0_16 hS)).symm)
  try rw [← ee3]
  have ee4 : A1 g 19 = A g 19 := hy1.2 _ _ hg.1 (((nP_19 hS1 hg2)).trans ((nP_19 hS hg)).symm)
  try rw [← ee4]
  refine ⟨hS1.o (s0_16 hS1), ?_⟩
  refine wpM.mono (h G1 A1 ⟨L1, P1, rfl, hS1⟩) (fun rr5 G5 hr => ?_)
  obtain ⟨A5, W5, w5, ⟨L5, P5, rfl, hS5⟩, hy5, rfl, r5, rfl, h⟩ := hr
  refine ⟨r5, rfl, ?_⟩
  have hx5 := Xt.trans hx1 hy5
  have hg6 : PG L5 g := PG.up hy5 hg2
  have ee7 : A5 0 16 = A1 0 16 := hy5.2 _ _ hS1.1.1 (((n0_16 hS5)).trans ((n0_16 hS1)).symm)
  try rw [← ee7]
  have ee8 : A5 g 19 = A1 g 19 := hy5.2 _ _ hg2.1 (((nP_19 hS5 hg6)).trans ((nP_19 hS1 hg2)).symm)
  try rw [← ee8]
  refine ⟨fun hc => ?_, fun hc => ?_⟩
  · have h := h.1 hc
    exact qx_i hS5 hx5 h
  · have h := h.2 hc
    exact qx_i hS5 hx5 h
theorem w_X6_isTaken_89 {E : EE} {d : Nat} {V : VH} {K : Int32 → VH → Prop} {g : Nat} {x2 : Int32} {x3 : Int32} {x4 : Int32} {x5 : Int32} (hg : PG (vL V) g) (h : vwp E d M_X6_isTaken 94 [some (sl 0 16), some (sl g 19), some (wi x2), some (wi x3), some (wi x4), some (wi x5), none, none] [wi 1] V (zi K)) : vwp E d M_X6_isTaken 89 [some (sl 0 16), some (sl g 19), some (wi x2), some (wi x3), some (wi x4), some (wi x5), none, none] [] V (zi K) := by
  intro G A hR
  obtain ⟨L, P, rfl, hS⟩ := hR
  have hx := Xt.refl (V := pl G A L P) (A := A)
  show wp E d M_X6_isTaken 89 [some (vr (A 0 16)), some (vr (A g 19)), some (vi x2), some (vi x3), some (vi x4), some (vi x5), none, none] [] G _
  refine v_X6_isTaken_89 ?_
  exact wp.mono (h G A ⟨L, P, rfl, hS⟩) (fun r G' q => qx_trans hx q)
theorem w_X6_isTaken_93 {E : EE} {d : Nat} {V : VH} {K : Int32 → VH → Prop} {g : Nat} {x2 : Int32} {x3 : Int32} {x4 : Int32} {x5 : Int32} (hg : PG (vL V) g) (h : vwp E d M_X6_isTaken 94 [some (sl 0 16), some (sl g 19), some (wi x2), some (wi x3), some (wi x4), some (wi x5), none, none] [wi 0] V (zi K)) : vwp E d M_X6_isTaken 93 [some (sl 0 16), some (sl g 19), some (wi x2), some (wi x3), some (wi x4), some (wi x5), none, none] [] V (zi K) := by
  intro G A hR
  obtain ⟨L, P, rfl, hS⟩ := hR
  have hx := Xt.refl (V := pl G A L P) (A := A)
  show wp E d M_X6_isTaken 93 [some (vr (A 0 16)), some (vr (A g 19)), some (vi x2), some (vi x3), some (vi x4), some (vi x5), none, none] [] G _
  refine v_X6_isTaken_93 ?_
  exact wp.mono (h G A ⟨L, P, rfl, hS⟩) (fun r G' q => qx_trans hx q)
theorem w_X6_isTaken_94 {E : EE} {d : Nat} {V : VH} {K : Int32 → VH → Prop} {g : Nat} {x2 : Int32} {x3 : Int32} {x4 : Int32} {x5 : Int32} {t0 : Int32} (hg : PG (vL V) g) (h0 : 0 < d) (h : (t0 = 0 → vwp E d M_X6_isTaken 118 [some (sl 0 16), some (sl g 19), some (wi x2), some (wi x3), some (wi x4), some (wi x5), some (wi t0), none] [] V (zi K)) ∧ (¬ (t0 = 0) → vMI E (d - 1) M_X9_isBetter [sl g 19, wi (vI V 0 16 9), wi (vI V 0 16 10)] V (fun r1 V1 => (¬ r1 = 0 → vwp E d M_X6_isTaken 118 [some (sl 0 16), some (sl g 19), some (wi x2), some (wi x3), some (wi x4), some (wi x5), some (wi t0), none] [] V1 (zi K)) ∧ (r1 = 0 → K 0 V1)))) : vwp E d M_X6_isTaken 94 [some (sl 0 16), some (sl g 19), some (wi x2), some (wi x3), some (wi x4), some (wi x5), none, none] [wi t0] V (zi K) := by
  intro G A hR
  obtain ⟨L, P, rfl, hS⟩ := hR
  have hx := Xt.refl (V := pl G A L P) (A := A)
  show wp E d M_X6_isTaken 94 [some (vr (A 0 16)), some (vr (A g 19)), some (vi x2), some (vi x3), some (vi x4), some (vi x5), none, none] [vi t0] G _
  refine v_X6_isTaken_94 h0 ?_
  refine ⟨fun hc => ?_, fun hc => ?_⟩
  · have h := h.1 hc
    exact wp.mono (h G A ⟨L, P, rfl, hS⟩) (fun r G' q => qx_trans hx q)
  · have h := h.2 hc
    refine ⟨hS.o (s0_16 hS), ?_⟩
    refine ⟨hS.o (sP_19 hg), ?_⟩
    refine wpM.mono (h G A ⟨L, P, rfl, hS⟩) (fun rr1 G1 hr => ?_)
    obtain ⟨A1, W1, w1, ⟨L1, P1, rfl, hS1⟩, hy1, rfl, r1, rfl, h⟩ := hr
    refine ⟨r1, rfl, ?_⟩
    have hx1 := Xt.trans hx hy1
    have hg2 : PG L1 g := PG.up hy1 hg
    have ee3 : A1 0 16 = A 0 16 := hy1.2 _ _ hS.1.1 (((n0_16 hS1)).trans ((n0_16 hS)).symm)
    try rw [← ee3]
    have ee4 : A1 g 19 = A g 19 := hy1.2 _ _ hg.1 (((nP_19 hS1 hg2)).trans ((nP_19 hS hg)).symm)
    try rw [← ee4]
    refine ⟨fun hc => ?_, fun hc => ?_⟩
    · have h := h.1 hc
      exact wp.mono (h G1 A1 ⟨L1, P1, rfl, hS1⟩) (fun r G' q => qx_trans hx1 q)
    · have h := h.2 hc
      exact qx_i hS1 hx1 h
theorem w_X6_isTaken_118 {E : EE} {d : Nat} {V : VH} {K : Int32 → VH → Prop} {g : Nat} {x2 : Int32} {x3 : Int32} {x4 : Int32} {x5 : Int32} {x6 : Int32} (hg : PG (vL V) g) (h0 : 0 < d) (h : vMI E (d - 1) M_X9_isBetter [sl g 19, wi (vI V 0 16 8), wi (vI V 0 16 9)] V (fun r1 V1 => (¬ r1 = 0 → (¬ x2 = 1 → (¬ x2 = 2 → K 0 V1) ∧ (x2 = 2 → vMI E (d - 1) M_X6_draw [sl 0 16, wi 8] V1 (fun r5 V5 => (¬ r5 = 0 → K 0 V5) ∧ (r5 = 0 → K 1 V5)))) ∧ (x2 = 1 → (x3 ≤ 0 → K 0 V1) ∧ (¬ (x3 ≤ 0) → (20 < x3 → K 0 V1) ∧ (¬ (20 < x3) → ¬ x3 = 0 ∧ (vp_in (x4 - x4 / x3 * x3) 20 ∧ (vMI E (d - 1) M_X9_isBetter [sl g 19, wi (vI V1 0 18 (Int32.toNatClampNeg (x4 - x4 / x3 * x3))), wi (vI V1 0 16 9)] V1 (fun r11 V11 => (¬ r11 = 0 → K 0 V11) ∧ (r11 = 0 → K 1 V11)))))))) ∧ (r1 = 0 → K 1 V1))) : vwp E d M_X6_isTaken 118 [some (sl 0 16), some (sl g 19), some (wi x2), some (wi x3), some (wi x4), some (wi x5), some (wi x6), none] [] V (zi K) := by
  intro G A hR
  obtain ⟨L, P, rfl, hS⟩ := hR
  have hx := Xt.refl (V := pl G A L P) (A := A)
  show wp E d M_X6_isTaken 118 [some (vr (A 0 16)), some (vr (A g 19)), some (vi x2), some (vi x3), some (vi x4), some (vi x5), some (vi x6), none] [] G _
  refine v_X6_isTaken_118 h0 ?_
  refine ⟨hS.o (s0_16 hS), ?_⟩
  refine ⟨hS.o (sP_19 hg), ?_⟩
  refine wpM.mono (h G A ⟨L, P, rfl, hS⟩) (fun rr1 G1 hr => ?_)
  obtain ⟨A1, W1, w1, ⟨L1, P1, rfl, hS1⟩, hy1, rfl, r1, rfl, h⟩ := hr
  refine ⟨r1, rfl, ?_⟩
  have hx1 := Xt.trans hx hy1
  have hg2 : PG L1 g := PG.up hy1 hg
  have ee3 : A1 0 16 = A 0 16 := hy1.2 _ _ hS.1.1 (((n0_16 hS1)).trans ((n0_16 hS)).symm)
  try rw [← ee3]
  have ee4 : A1 g 19 = A g 19 := hy1.2 _ _ hg.1 (((nP_19 hS1 hg2)).trans ((nP_19 hS hg)).symm)
  try rw [← ee4]
  refine ⟨fun hc => ?_, fun hc => ?_⟩
  · have h := h.1 hc
    refine ⟨fun hc => ?_, fun hc => ?_⟩
    · have h := h.1 hc
      refine ⟨fun hc => ?_, fun hc => ?_⟩
      · have h := h.1 hc
        exact qx_i hS1 hx1 h
      · have h := h.2 hc
        refine ⟨hS1.o (s0_16 hS1), ?_⟩
        refine wpM.mono (h G1 A1 ⟨L1, P1, rfl, hS1⟩) (fun rr5 G5 hr => ?_)
        obtain ⟨A5, W5, w5, ⟨L5, P5, rfl, hS5⟩, hy5, rfl, r5, rfl, h⟩ := hr
        refine ⟨r5, rfl, ?_⟩
        have hx5 := Xt.trans hx1 hy5
        have hg6 : PG L5 g := PG.up hy5 hg2
        have ee7 : A5 0 16 = A1 0 16 := hy5.2 _ _ hS1.1.1 (((n0_16 hS5)).trans ((n0_16 hS1)).symm)
        try rw [← ee7]
        have ee8 : A5 g 19 = A1 g 19 := hy5.2 _ _ hg2.1 (((nP_19 hS5 hg6)).trans ((nP_19 hS1 hg2)).symm)
        try rw [← ee8]
        refine ⟨fun hc => ?_, fun hc => ?_⟩
        · have h := h.1 hc
          exact qx_i hS5 hx5 h
        · have h := h.2 hc
          exact qx_i hS5 hx5 h
    · have h := h.2 hc
      refine ⟨fun hc => ?_, fun hc => ?_⟩
      · have h := h.1 hc
        exact qx_i hS1 hx1 h
      · have h := h.2 hc
        refine ⟨fun hc => ?_, fun hc => ?_⟩
        · have h := h.1 hc
          exact qx_i hS1 hx1 h
        · have h := h.2 hc
          refine ⟨hS1.o (s0_16 hS1), ?_⟩
          rw [l0_16_6 hS1]
          obtain ⟨hz9, h⟩ := h
          refine ⟨hz9, ?_⟩
          refine ⟨hS1.o (s0_18 hS1), ?_⟩
          obtain ⟨hi10, h⟩ := h
          refine ⟨by first | (rw [(n0_18 hS1)]; exact hi10) | exact (congrArg (vp_in _) (n0_18 hS1)).mpr hi10 | exact hi10, ?_⟩
          refine ⟨hS1.o (sP_19 hg2), ?_⟩
          refine wpM.mono (h G1 A1 ⟨L1, P1, rfl, hS1⟩) (fun rr11 G11 hr => ?_)
          obtain ⟨A11, W11, w11, ⟨L11, P11, rfl, hS11⟩, hy11, rfl, r11, rfl, h⟩ := hr
          refine ⟨r11, rfl, ?_⟩
          have hx11 := Xt.trans hx1 hy11
          have hg12 : PG L11 g := PG.up hy11 hg2
          have ee13 : A11 0 16 = A1 0 16 := hy11.2 _ _ hS1.1.1 (((n0_16 hS11)).trans ((n0_16 hS1)).symm)
          try rw [← ee13]
          have ee14 : A11 g 19 = A1 g 19 := hy11.2 _ _ hg2.1 (((nP_19 hS11 hg12)).trans ((nP_19 hS1 hg2)).symm)
          try rw [← ee14]
          refine ⟨fun hc => ?_, fun hc => ?_⟩
          · have h := h.1 hc
            exact qx_i hS11 hx11 h
          · have h := h.2 hc
            exact qx_i hS11 hx11 h
  · have h := h.2 hc
    exact qx_i hS1 hx1 h
theorem w_X6_worth_0 {E : EE} {d : Nat} {V : VH} {K : Int64 → VH → Prop} {g : Nat} {x1 : Int32} (hg : PG (vL V) g) (h0 : 0 < d) (h : vMJ E (d - 1) M_X9_scoreOf [sl g 19, wi x1, wi 0] V (fun r1 V1 => vMJ E (d - 1) M_X9_scoreOf [sl g 19, wi x1, wi 1] V1 (fun r4 V4 => vMJ E (d - 1) M_X9_scoreOf [sl g 19, wi x1, wi 2] V4 (fun r7 V7 => K (((10000 * r1) + (100 * r4)) + r7) V7)))) : vMJ E d M_X6_worth [sl g 19, wi x1] V K := by
  intro G A hR
  obtain ⟨L, P, rfl, hS⟩ := hR
  have hx := Xt.refl (V := pl G A L P) (A := A)
  show wpM E d M_X6_worth [vr (A g 19), vi x1] G _
  refine wpM_of mk_X6_worth (Nat.le_of_ble_eq_true rfl) ?_
  refine v_X6_worth_0 h0 ?_
  refine ⟨hS.o (sP_19 hg), ?_⟩
  refine wpM.mono (h G A ⟨L, P, rfl, hS⟩) (fun rr1 G1 hr => ?_)
  obtain ⟨A1, W1, w1, ⟨L1, P1, rfl, hS1⟩, hy1, rfl, r1, rfl, h⟩ := hr
  refine ⟨r1, rfl, ?_⟩
  have hx1 := Xt.trans hx hy1
  have hg2 : PG L1 g := PG.up hy1 hg
  have ee3 : A1 g 19 = A g 19 := hy1.2 _ _ hg.1 (((nP_19 hS1 hg2)).trans ((nP_19 hS hg)).symm)
  try rw [← ee3]
  refine ⟨hS1.o (sP_19 hg2), ?_⟩
  refine wpM.mono (h G1 A1 ⟨L1, P1, rfl, hS1⟩) (fun rr4 G4 hr => ?_)
  obtain ⟨A4, W4, w4, ⟨L4, P4, rfl, hS4⟩, hy4, rfl, r4, rfl, h⟩ := hr
  refine ⟨r4, rfl, ?_⟩
  have hx4 := Xt.trans hx1 hy4
  have hg5 : PG L4 g := PG.up hy4 hg2
  have ee6 : A4 g 19 = A1 g 19 := hy4.2 _ _ hg2.1 (((nP_19 hS4 hg5)).trans ((nP_19 hS1 hg2)).symm)
  try rw [← ee6]
  refine ⟨hS4.o (sP_19 hg5), ?_⟩
  refine wpM.mono (h G4 A4 ⟨L4, P4, rfl, hS4⟩) (fun rr7 G7 hr => ?_)
  obtain ⟨A7, W7, w7, ⟨L7, P7, rfl, hS7⟩, hy7, rfl, r7, rfl, h⟩ := hr
  refine ⟨r7, rfl, ?_⟩
  have hx7 := Xt.trans hx4 hy7
  have hg8 : PG L7 g := PG.up hy7 hg5
  have ee9 : A7 g 19 = A4 g 19 := hy7.2 _ _ hg5.1 (((nP_19 hS7 hg8)).trans ((nP_19 hS4 hg5)).symm)
  try rw [← ee9]
  exact qx_j hS7 hx7 h
theorem w_X6_settle_0 {E : EE} {d : Nat} {V : VH} {K : VH → Prop} {g : Nat} {x2 : Int32} {x3 : Int32} (hg : PG (vL V) g) (h0 : 0 < d) (h : ∀ V1 : VH, V1 = wrI V 0 16 8 (vI V 0 16 9) → ∀ V2 : VH, V2 = wrI V1 0 16 1 ((31 * (vI V1 0 16 1)) + (vI V1 0 16 11)) → vp_in (vI V2 0 16 12) 12 ∧ (∀ V4 : VH, V4 = wrI V2 0 19 (Int32.toNatClampNeg (vI V2 0 16 12)) (x2 + x3) → vp_in (vI V4 0 16 13) 12 ∧ (∀ V6 : VH, V6 = wrI V4 0 19 (Int32.toNatClampNeg (vI V4 0 16 13)) (x2 + x3) → vMI E (d - 1) M_X9_isBetter [sl g 19, wi (vI V6 0 16 8), wi (vI V6 0 16 10)] V6 (fun r7 V7 => (¬ r7 = 0 → ∀ V11 : VH, V11 = wrI V7 0 16 10 (vI V7 0 16 8) → ∀ V12 : VH, V12 = wrI V11 0 16 3 x2 → K V12) ∧ (r7 = 0 → K V7))))) : vMV E d M_X6_settle [sl 0 16, sl g 19, wi x2, wi x3] V K := by
  intro G A hR
  obtain ⟨L, P, rfl, hS⟩ := hR
  have hx := Xt.refl (V := pl G A L P) (A := A)
  show wpM E d M_X6_settle [vr (A 0 16), vr (A g 19), vi x2, vi x3] G _
  refine wpM_of mk_X6_settle (Nat.le_of_ble_eq_true rfl) ?_
  refine v_X6_settle_0 h0 ?_
  refine ⟨hS.o (s0_16 hS), ?_⟩
  intro G1 eG1
  have hS1 : Sh E G1 A L P := Sh_sI eG1 hS (s0_16 hS) (okT_0 rfl)
  have h := h (pl G1 A L P) (pl_sI eG1 hS (s0_16 hS))
  have hx1 : Xt (pl G A L P) A (pl G1 A L P) A := Xt_sI eG1 hx
  intro G2 eG2
  have hS2 : Sh E G2 A L P := Sh_sI eG2 hS1 (s0_16 hS1) (okT_0 rfl)
  have h := h (pl G2 A L P) (pl_sI eG2 hS1 (s0_16 hS1))
  have hx2 : Xt (pl G A L P) A (pl G2 A L P) A := Xt_sI eG2 hx1
  rw [l0_16_7 hS2]
  refine ⟨hS2.o (s0_19 hS2), ?_⟩
  obtain ⟨hi3, h⟩ := h
  refine ⟨by first | (rw [(n0_19 hS2)]; exact hi3) | exact (congrArg (vp_in _) (n0_19 hS2)).mpr hi3 | exact hi3, ?_⟩
  intro G4 eG4
  have hS4 : Sh E G4 A L P := Sh_sI eG4 hS2 (s0_19 hS2) (okT_0 rfl)
  have h := h (pl G4 A L P) (pl_sI eG4 hS2 (s0_19 hS2))
  have hx4 : Xt (pl G A L P) A (pl G4 A L P) A := Xt_sI eG4 hx2
  rw [l0_16_7 hS4]
  refine ⟨hS4.o (s0_19 hS4), ?_⟩
  obtain ⟨hi5, h⟩ := h
  refine ⟨by first | (rw [(n0_19 hS4)]; exact hi5) | exact (congrArg (vp_in _) (n0_19 hS4)).mpr hi5 | exact hi5, ?_⟩
  intro G6 eG6
  have hS6 : Sh E G6 A L P := Sh_sI eG6 hS4 (s0_19 hS4) (okT_0 rfl)
  have h := h (pl G6 A L P) (pl_sI eG6 hS4 (s0_19 hS4))
  have hx6 : Xt (pl G A L P) A (pl G6 A L P) A := Xt_sI eG6 hx4
  refine ⟨hS6.o (sP_19 hg), ?_⟩
  refine wpM.mono (h G6 A ⟨L, P, rfl, hS6⟩) (fun rr7 G7 hr => ?_)
  obtain ⟨A7, W7, w7, ⟨L7, P7, rfl, hS7⟩, hy7, rfl, r7, rfl, h⟩ := hr
  refine ⟨r7, rfl, ?_⟩
  have hx7 := Xt.trans hx6 hy7
  have hg8 : PG L7 g := PG.up hy7 hg
  have ee9 : A7 0 16 = A 0 16 := hy7.2 _ _ hS6.1.1 (((n0_16 hS7)).trans ((n0_16 hS6)).symm)
  try rw [← ee9]
  have ee10 : A7 g 19 = A g 19 := hy7.2 _ _ hg.1 (((nP_19 hS7 hg8)).trans ((nP_19 hS6 hg)).symm)
  try rw [← ee10]
  refine ⟨fun hc => ?_, fun hc => ?_⟩
  · have h := h.1 hc
    refine ⟨hS7.o (s0_16 hS7), ?_⟩
    intro G11 eG11
    have hS11 : Sh E G11 A7 L7 P7 := Sh_sI eG11 hS7 (s0_16 hS7) (okT_0 rfl)
    have h := h (pl G11 A7 L7 P7) (pl_sI eG11 hS7 (s0_16 hS7))
    have hx11 : Xt (pl G A L P) A (pl G11 A7 L7 P7) A7 := Xt_sI eG11 hx7
    intro G12 eG12
    have hS12 : Sh E G12 A7 L7 P7 := Sh_sI eG12 hS11 (s0_16 hS11) (okT_0 rfl)
    have h := h (pl G12 A7 L7 P7) (pl_sI eG12 hS11 (s0_16 hS11))
    have hx12 : Xt (pl G A L P) A (pl G12 A7 L7 P7) A7 := Xt_sI eG12 hx11
    exact qx_v hS12 hx12 h
  · have h := h.2 hc
    exact qx_v hS7 hx7 h
theorem w_X4_fits_0 {E : EE} {d : Nat} {V : VH} {K : Int32 → VH → Prop} {g : Nat} (hg : PG (vL V) g) (h : vwp E d M_X4_fits 12 [some (sl 0 20), some (sl g 0), some (wi 1), some (wi ((vI V g 5 0) - 1)), none] [] V (zi K)) : vMI E d M_X4_fits [sl 0 20, sl g 0] V K := by
  intro G A hR
  obtain ⟨L, P, rfl, hS⟩ := hR
  have hx := Xt.refl (V := pl G A L P) (A := A)
  show wpM E d M_X4_fits [vr (A 0 20), vr (A g 0)] G _
  refine wpM_of mk_X4_fits (Nat.le_of_ble_eq_true rfl) ?_
  refine v_X4_fits_0 ?_
  refine ⟨hS.o (sP_0 hg), ?_⟩
  rw [lP_0_4 hS hg]
  refine ⟨hS.o (sP_5 hg), ?_⟩
  exact wp.mono (h G A ⟨L, P, rfl, hS⟩) (fun r G' q => qx_trans hx q)
theorem w_X4_fits_12 {E : EE} {d : Nat} {V : VH} {K : Int32 → VH → Prop} {g : Nat} {x2 : Int32} {x3 : Int32} (hg : PG (vL V) g) (h0 : 0 < d) (h : (x3 < 0 → K 1 V) ∧ (¬ (x3 < 0) → ((((vI V g 0 9) >>> (x3 &&& 31)) &&& 1) = 0 → vp_in x3 12 ∧ (vp_in (24 + x3) 96 ∧ (vMI E (d - 1) M_X3_letters [wj (vJ V g 3 (Int32.toNatClampNeg (24 + x3)))] V (fun r3 V3 => (((((r3 + 2) + ((vI V g 6 (Int32.toNatClampNeg x3)) * x2)) + (vI V g 6 (Int32.toNatClampNeg x3))) - 1) ≤ 20000 → vwp E d M_X4_fits 75 [some (sl 0 20), some (sl g 0), some (wi ((((r3 + 2) + ((vI V g 6 (Int32.toNatClampNeg x3)) * x2)) + (vI V g 6 (Int32.toNatClampNeg x3))) - 1)), some (wi x3), none] [] V3 (zi K)) ∧ (¬ (((((r3 + 2) + ((vI V g 6 (Int32.toNatClampNeg x3)) * x2)) + (vI V g 6 (Int32.toNatClampNeg x3))) - 1) ≤ 20000) → K 0 V3))))) ∧ (¬ ((((vI V g 0 9) >>> (x3 &&& 31)) &&& 1) = 0) → vwp E d M_X4_fits 75 [some (sl 0 20), some (sl g 0), some (wi x2), some (wi x3), none] [] V (zi K)))) : vwp E d M_X4_fits 12 [some (sl 0 20), some (sl g 0), some (wi x2), some (wi x3), none] [] V (zi K) := by
  intro G A hR
  obtain ⟨L, P, rfl, hS⟩ := hR
  have hx := Xt.refl (V := pl G A L P) (A := A)
  show wp E d M_X4_fits 12 [some (vr (A 0 20)), some (vr (A g 0)), some (vi x2), some (vi x3), none] [] G _
  refine v_X4_fits_12 h0 ?_
  refine ⟨fun hc => ?_, fun hc => ?_⟩
  · have h := h.1 hc
    exact qx_i hS hx h
  · have h := h.2 hc
    refine ⟨hS.o (sP_0 hg), ?_⟩
    refine ⟨fun hc => ?_, fun hc => ?_⟩
    · have h := h.1 hc
      rw [lP_0_4 hS hg]
      refine ⟨hS.o (sP_5 hg), ?_⟩
      rw [lP_5_2 hS hg]
      refine ⟨hS.o (sP_6 hg), ?_⟩
      obtain ⟨hi1, h⟩ := h
      refine ⟨by first | (rw [(nP_6 hS hg)]; exact hi1) | exact (congrArg (vp_in _) (nP_6 hS hg)).mpr hi1 | exact hi1, ?_⟩
      rw [lP_0_2 hS hg]
      refine ⟨hS.o (sP_3 hg), ?_⟩
      obtain ⟨hi2, h⟩ := h
      refine ⟨by first | (rw [(nP_3 hS hg)]; exact hi2) | exact (congrArg (vp_in _) (nP_3 hS hg)).mpr hi2 | exact hi2, ?_⟩
      refine wpM.mono (h G A ⟨L, P, rfl, hS⟩) (fun rr3 G3 hr => ?_)
      obtain ⟨A3, W3, w3, ⟨L3, P3, rfl, hS3⟩, hy3, rfl, r3, rfl, h⟩ := hr
      refine ⟨r3, rfl, ?_⟩
      have hx3 := Xt.trans hx hy3
      have hg4 : PG L3 g := PG.up hy3 hg
      have ee5 : A3 0 20 = A 0 20 := hy3.2 _ _ hS.1.1 (((n0_20 hS3)).trans ((n0_20 hS)).symm)
      try rw [← ee5]
      have ee6 : A3 g 0 = A g 0 := hy3.2 _ _ hg.1 (((nP_0 hS3 hg4)).trans ((nP_0 hS hg)).symm)
      try rw [← ee6]
      refine ⟨fun hc => ?_, fun hc => ?_⟩
      · have h := h.1 hc
        exact wp.mono (h G3 A3 ⟨L3, P3, rfl, hS3⟩) (fun r G' q => qx_trans hx3 q)
      · have h := h.2 hc
        exact qx_i hS3 hx3 h
    · have h := h.2 hc
      exact wp.mono (h G A ⟨L, P, rfl, hS⟩) (fun r G' q => qx_trans hx q)
theorem w_X4_fits_75 {E : EE} {d : Nat} {V : VH} {K : Int32 → VH → Prop} {g : Nat} {x2 : Int32} {x3 : Int32} (hg : PG (vL V) g) (h : vwp E d M_X4_fits 12 [some (sl 0 20), some (sl g 0), some (wi x2), some (wi (x3 + (-1))), none] [] V (zi K)) : vwp E d M_X4_fits 75 [some (sl 0 20), some (sl g 0), some (wi x2), some (wi x3), none] [] V (zi K) := by
  intro G A hR
  obtain ⟨L, P, rfl, hS⟩ := hR
  have hx := Xt.refl (V := pl G A L P) (A := A)
  show wp E d M_X4_fits 75 [some (vr (A 0 20)), some (vr (A g 0)), some (vi x2), some (vi x3), none] [] G _
  refine v_X4_fits_75 ?_
  exact wp.mono (h G A ⟨L, P, rfl, hS⟩) (fun r G' q => qx_trans hx q)
theorem w_X4_write_0 {E : EE} {d : Nat} {V : VH} {K : VH → Prop} {g : Nat} {b2 c2 : Nat} (hg : PG (vL V) g) (hB2 : BS (vL V) b2 c2) (h0 : 0 < d) (h : vMV E (d - 1) M_X0_keep [sl b2 c2, wi 0] V (fun V1 => vMV E (d - 1) M_X4_writeTree [sl g 0, sl b2 c2, wi 0] V1 (fun V7 => K V7))) : vMV E d M_X4_write [sl 0 20, sl g 0, sl b2 c2] V K := by
  intro G A hR
  obtain ⟨L, P, rfl, hS⟩ := hR
  have hx := Xt.refl (V := pl G A L P) (A := A)
  show wpM E d M_X4_write [vr (A 0 20), vr (A g 0), vr (A b2 c2)] G _
  refine wpM_of mk_X4_write (Nat.le_of_ble_eq_true rfl) ?_
  refine v_X4_write_0 h0 ?_
  refine ⟨hS.o (BS.o hB2), ?_⟩
  refine wpM.mono (h G A ⟨L, P, rfl, hS⟩) (fun rr1 G1 hr => ?_)
  obtain ⟨A1, W1, w1, ⟨L1, P1, rfl, hS1⟩, hy1, rfl, rfl, h⟩ := hr
  refine ⟨rfl, ?_⟩
  have hx1 := Xt.trans hx hy1
  have hg2 : PG L1 g := PG.up hy1 hg
  have hg3 : BS L1 b2 c2 := BS.up hy1 hB2
  have ee4 : A1 0 20 = A 0 20 := hy1.2 _ _ hS.1.1 (((n0_20 hS1)).trans ((n0_20 hS)).symm)
  try rw [← ee4]
  have ee5 : A1 b2 c2 = A b2 c2 := hy1.2 _ _ hB2.1 (((BS.n hg3 hS1)).trans ((BS.n hB2 hS)).symm)
  try rw [← ee5]
  have ee6 : A1 g 0 = A g 0 := hy1.2 _ _ hg.1 (((nP_0 hS1 hg2)).trans ((nP_0 hS hg)).symm)
  try rw [← ee6]
  refine wpM.mono (h G1 A1 ⟨L1, P1, rfl, hS1⟩) (fun rr7 G7 hr => ?_)
  obtain ⟨A7, W7, w7, ⟨L7, P7, rfl, hS7⟩, hy7, rfl, rfl, h⟩ := hr
  refine ⟨rfl, ?_⟩
  have hx7 := Xt.trans hx1 hy7
  have hg8 : PG L7 g := PG.up hy7 hg2
  have hg9 : BS L7 b2 c2 := BS.up hy7 hg3
  have ee10 : A7 0 20 = A1 0 20 := hy7.2 _ _ hS1.1.1 (((n0_20 hS7)).trans ((n0_20 hS1)).symm)
  try rw [← ee10]
  have ee11 : A7 b2 c2 = A1 b2 c2 := hy7.2 _ _ hg3.1 (((BS.n hg9 hS7)).trans ((BS.n hg3 hS1)).symm)
  try rw [← ee11]
  have ee12 : A7 g 0 = A1 g 0 := hy7.2 _ _ hg2.1 (((nP_0 hS7 hg8)).trans ((nP_0 hS1 hg2)).symm)
  try rw [← ee12]
  exact qx_v hS7 hx7 h
theorem w_X4_writeTree_0 {E : EE} {d : Nat} {V : VH} {K : VH → Prop} {g : Nat} {b1 c1 : Nat} {x2 : Int32} (hg : PG (vL V) g) (hB1 : BS (vL V) b1 c1) (h : vwp E d M_X4_writeTree 2 [some (sl g 0), some (sl b1 c1), some (wi x2), some (wi x2), none, none, none] [] V (zv K)) : vMV E d M_X4_writeTree [sl g 0, sl b1 c1, wi x2] V K := by
  intro G A hR
  obtain ⟨L, P, rfl, hS⟩ := hR
  have hx := Xt.refl (V := pl G A L P) (A := A)
  show wpM E d M_X4_writeTree [vr (A g 0), vr (A b1 c1), vi x2] G _
  refine wpM_of mk_X4_writeTree (Nat.le_of_ble_eq_true rfl) ?_
  refine v_X4_writeTree_0 ?_
  exact wp.mono (h G A ⟨L, P, rfl, hS⟩) (fun r G' q => qx_trans hx q)
theorem w_X4_writeTree_2 {E : EE} {d : Nat} {V : VH} {K : VH → Prop} {g : Nat} {b1 c1 : Nat} {x2 : Int32} {x3 : Int32} (hg : PG (vL V) g) (hB1 : BS (vL V) b1 c1) (h : ((vI V g 5 0) ≤ x3 → vwp E d M_X4_writeTree 30 [some (sl g 0), some (sl b1 c1), some (wi x2), some (wi x3), none, none, none] [] V (zv K)) ∧ (¬ ((vI V g 5 0) ≤ x3) → ((((vI V g 0 9) >>> (x3 &&& 31)) &&& 1) = 0 → vwp E d M_X4_writeTree 30 [some (sl g 0), some (sl b1 c1), some (wi x2), some (wi x3), none, none, none] [] V (zv K)) ∧ (¬ ((((vI V g 0 9) >>> (x3 &&& 31)) &&& 1) = 0) → vwp E d M_X4_writeTree 2 [some (sl g 0), some (sl b1 c1), some (wi x2), some (wi (x3 + 1)), none, none, none] [] V (zv K)))) : vwp E d M_X4_writeTree 2 [some (sl g 0), some (sl b1 c1), some (wi x2), some (wi x3), none, none, none] [] V (zv K) := by
  intro G A hR
  obtain ⟨L, P, rfl, hS⟩ := hR
  have hx := Xt.refl (V := pl G A L P) (A := A)
  show wp E d M_X4_writeTree 2 [some (vr (A g 0)), some (vr (A b1 c1)), some (vi x2), some (vi x3), none, none, none] [] G _
  refine v_X4_writeTree_2 ?_
  refine ⟨hS.o (sP_0 hg), ?_⟩
  rw [lP_0_4 hS hg]
  refine ⟨hS.o (sP_5 hg), ?_⟩
  refine ⟨fun hc => ?_, fun hc => ?_⟩
  · have h := h.1 hc
    exact wp.mono (h G A ⟨L, P, rfl, hS⟩) (fun r G' q => qx_trans hx q)
  · have h := h.2 hc
    refine ⟨fun hc => ?_, fun hc => ?_⟩
    · have h := h.1 hc
      exact wp.mono (h G A ⟨L, P, rfl, hS⟩) (fun r G' q => qx_trans hx q)
    · have h := h.2 hc
      exact wp.mono (h G A ⟨L, P, rfl, hS⟩) (fun r G' q => qx_trans hx q)
theorem w_X4_writeTree_30 {E : EE} {d : Nat} {V : VH} {K : VH → Prop} {g : Nat} {b1 c1 : Nat} {x2 : Int32} {x3 : Int32} (hg : PG (vL V) g) (hB1 : BS (vL V) b1 c1) (h0 : 0 < d) (h : ((vI V g 5 0) ≤ x3 → vwp E d M_X4_writeTree 47 [some (sl g 0), some (sl b1 c1), some (wi x2), some (wi x3), none, none, none] [] V (zv K)) ∧ (¬ ((vI V g 5 0) ≤ x3) → (x3 < 12 → vp_in (24 + x3) 96 ∧ (vMI E (d - 1) M_X3_letters [wj (vJ V g 3 (Int32.toNatClampNeg (24 + x3)))] V (fun r2 V2 => vMV E (d - 1) M_X0_addNumber [sl b1 c1, wj (vJ V g 3 (Int32.toNatClampNeg (24 + x3))), wi r2] V2 (fun V7 => vwp E d M_X4_writeTree 79 [some (sl g 0), some (sl b1 c1), some (wi x2), some (wi x3), some (wj (vJ V g 3 (Int32.toNatClampNeg (24 + x3)))), none, some (wi 0)] [] V7 (zv K))))) ∧ (¬ (x3 < 12) → vwp E d M_X4_writeTree 47 [some (sl g 0), some (sl b1 c1), some (wi x2), some (wi x3), none, none, none] [] V (zv K)))) : vwp E d M_X4_writeTree 30 [some (sl g 0), some (sl b1 c1), some (wi x2), some (wi x3), none, none, none] [] V (zv K) := by
  intro G A hR
  obtain ⟨L, P, rfl, hS⟩ := hR
  have hx := Xt.refl (V := pl G A L P) (A := A)
  show wp E d M_X4_writeTree 30 [some (vr (A g 0)), some (vr (A b1 c1)), some (vi x2), some (vi x3), none, none, none] [] G _
  refine v_X4_writeTree_30 h0 ?_
  refine ⟨hS.o (sP_0 hg), ?_⟩
  rw [lP_0_4 hS hg]
  refine ⟨hS.o (sP_5 hg), ?_⟩
  refine ⟨fun hc => ?_, fun hc => ?_⟩
  · have h := h.1 hc
    exact wp.mono (h G A ⟨L, P, rfl, hS⟩) (fun r G' q => qx_trans hx q)
  · have h := h.2 hc
    refine ⟨fun hc => ?_, fun hc => ?_⟩
    · have h := h.1 hc
      rw [lP_0_2 hS hg]
      refine ⟨hS.o (sP_3 hg), ?_⟩
      obtain ⟨hi1, h⟩ := h
      refine ⟨by first | (rw [(nP_3 hS hg)]; exact hi1) | exact (congrArg (vp_in _) (nP_3 hS hg)).mpr hi1 | exact hi1, ?_⟩
      refine wpM.mono (h G A ⟨L, P, rfl, hS⟩) (fun rr2 G2 hr => ?_)
      obtain ⟨A2, W2, w2, ⟨L2, P2, rfl, hS2⟩, hy2, rfl, r2, rfl, h⟩ := hr
      refine ⟨r2, rfl, ?_⟩
      have hx2 := Xt.trans hx hy2
      have hg3 : PG L2 g := PG.up hy2 hg
      have hg4 : BS L2 b1 c1 := BS.up hy2 hB1
      have ee5 : A2 b1 c1 = A b1 c1 := hy2.2 _ _ hB1.1 (((BS.n hg4 hS2)).trans ((BS.n hB1 hS)).symm)
      try rw [← ee5]
      have ee6 : A2 g 0 = A g 0 := hy2.2 _ _ hg.1 (((nP_0 hS2 hg3)).trans ((nP_0 hS hg)).symm)
      try rw [← ee6]
      refine ⟨hS2.o (BS.o hg4), ?_⟩
      refine wpM.mono (h G2 A2 ⟨L2, P2, rfl, hS2⟩) (fun rr7 G7 hr => ?_)
      obtain ⟨A7, W7, w7, ⟨L7, P7, rfl, hS7⟩, hy7, rfl, rfl, h⟩ := hr
      refine ⟨rfl, ?_⟩
      have hx7 := Xt.trans hx2 hy7
      have hg8 : PG L7 g := PG.up hy7 hg3
      have hg9 : BS L7 b1 c1 := BS.up hy7 hg4
      have ee10 : A7 b1 c1 = A2 b1 c1 := hy7.2 _ _ hg4.1 (((BS.n hg9 hS7)).trans ((BS.n hg4 hS2)).symm)
      try rw [← ee10]
      have ee11 : A7 g 0 = A2 g 0 := hy7.2 _ _ hg3.1 (((nP_0 hS7 hg8)).trans ((nP_0 hS2 hg3)).symm)
      try rw [← ee11]
      exact wp.mono (h G7 A7 ⟨L7, P7, rfl, hS7⟩) (fun r G' q => qx_trans hx7 q)
    · have h := h.2 hc
      exact wp.mono (h G A ⟨L, P, rfl, hS⟩) (fun r G' q => qx_trans hx q)
theorem w_X4_writeTree_47 {E : EE} {d : Nat} {V : VH} {K : VH → Prop} {g : Nat} {b1 c1 : Nat} {x2 : Int32} {x3 : Int32} (hg : PG (vL V) g) (hB1 : BS (vL V) b1 c1) (h0 : 0 < d) (h : vMV E (d - 1) M_X0_add [sl b1 c1, wi 46] V (fun V1 => K V1)) : vwp E d M_X4_writeTree 47 [some (sl g 0), some (sl b1 c1), some (wi x2), some (wi x3), none, none, none] [] V (zv K) := by
  intro G A hR
  obtain ⟨L, P, rfl, hS⟩ := hR
  have hx := Xt.refl (V := pl G A L P) (A := A)
  show wp E d M_X4_writeTree 47 [some (vr (A g 0)), some (vr (A b1 c1)), some (vi x2), some (vi x3), none, none, none] [] G _
  refine v_X4_writeTree_47 h0 ?_
  refine ⟨hS.o (BS.o hB1), ?_⟩
  refine wpM.mono (h G A ⟨L, P, rfl, hS⟩) (fun rr1 G1 hr => ?_)
  obtain ⟨A1, W1, w1, ⟨L1, P1, rfl, hS1⟩, hy1, rfl, rfl, h⟩ := hr
  refine ⟨rfl, ?_⟩
  have hx1 := Xt.trans hx hy1
  have hg2 : PG L1 g := PG.up hy1 hg
  have hg3 : BS L1 b1 c1 := BS.up hy1 hB1
  have ee4 : A1 b1 c1 = A b1 c1 := hy1.2 _ _ hB1.1 (((BS.n hg3 hS1)).trans ((BS.n hB1 hS)).symm)
  try rw [← ee4]
  have ee5 : A1 g 0 = A g 0 := hy1.2 _ _ hg.1 (((nP_0 hS1 hg2)).trans ((nP_0 hS hg)).symm)
  try rw [← ee5]
  exact qx_v hS1 hx1 h
theorem w_X4_writeTree_79 {E : EE} {d : Nat} {V : VH} {K : VH → Prop} {g : Nat} {b1 c1 : Nat} {x2 : Int32} {x3 : Int32} {x4 : Int64} {x6 : Int32} (hg : PG (vL V) g) (hB1 : BS (vL V) b1 c1) (h0 : 0 < d) (h : vp_in x3 12 ∧ (((vI V g 6 (Int32.toNatClampNeg x3)) ≤ x6 → vMV E (d - 1) M_X0_add [sl b1 c1, wi 41] V (fun V2 => K V2)) ∧ (¬ ((vI V g 6 (Int32.toNatClampNeg x3)) ≤ x6) → (¬ x6 = 0 → vwp E d M_X4_writeTree 106 [some (sl g 0), some (sl b1 c1), some (wi x2), some (wi x3), some (wj x4), none, some (wi x6)] [wi 44, sl b1 c1] V (zv K)) ∧ (x6 = 0 → vwp E d M_X4_writeTree 106 [some (sl g 0), some (sl b1 c1), some (wi x2), some (wi x3), some (wj x4), none, some (wi x6)] [wi 40, sl b1 c1] V (zv K))))) : vwp E d M_X4_writeTree 79 [some (sl g 0), some (sl b1 c1), some (wi x2), some (wi x3), some (wj x4), none, some (wi x6)] [] V (zv K) := by
  intro G A hR
  obtain ⟨L, P, rfl, hS⟩ := hR
  have hx := Xt.refl (V := pl G A L P) (A := A)
  show wp E d M_X4_writeTree 79 [some (vr (A g 0)), some (vr (A b1 c1)), some (vi x2), some (vi x3), some (vj x4), none, some (vi x6)] [] G _
  refine v_X4_writeTree_79 h0 ?_
  refine ⟨hS.o (sP_0 hg), ?_⟩
  rw [lP_0_4 hS hg]
  refine ⟨hS.o (sP_5 hg), ?_⟩
  rw [lP_5_2 hS hg]
  refine ⟨hS.o (sP_6 hg), ?_⟩
  obtain ⟨hi1, h⟩ := h
  refine ⟨by first | (rw [(nP_6 hS hg)]; exact hi1) | exact (congrArg (vp_in _) (nP_6 hS hg)).mpr hi1 | exact hi1, ?_⟩
  refine ⟨fun hc => ?_, fun hc => ?_⟩
  · have h := h.1 hc
    refine ⟨hS.o (BS.o hB1), ?_⟩
    refine wpM.mono (h G A ⟨L, P, rfl, hS⟩) (fun rr2 G2 hr => ?_)
    obtain ⟨A2, W2, w2, ⟨L2, P2, rfl, hS2⟩, hy2, rfl, rfl, h⟩ := hr
    refine ⟨rfl, ?_⟩
    have hx2 := Xt.trans hx hy2
    have hg3 : PG L2 g := PG.up hy2 hg
    have hg4 : BS L2 b1 c1 := BS.up hy2 hB1
    have ee5 : A2 b1 c1 = A b1 c1 := hy2.2 _ _ hB1.1 (((BS.n hg4 hS2)).trans ((BS.n hB1 hS)).symm)
    try rw [← ee5]
    have ee6 : A2 g 0 = A g 0 := hy2.2 _ _ hg.1 (((nP_0 hS2 hg3)).trans ((nP_0 hS hg)).symm)
    try rw [← ee6]
    exact qx_v hS2 hx2 h
  · have h := h.2 hc
    refine ⟨fun hc => ?_, fun hc => ?_⟩
    · have h := h.1 hc
      exact wp.mono (h G A ⟨L, P, rfl, hS⟩) (fun r G' q => qx_trans hx q)
    · have h := h.2 hc
      exact wp.mono (h G A ⟨L, P, rfl, hS⟩) (fun r G' q => qx_trans hx q)
theorem w_X4_writeTree_106 {E : EE} {d : Nat} {V : VH} {K : VH → Prop} {g : Nat} {b1 c1 : Nat} {x2 : Int32} {x3 : Int32} {x4 : Int64} {x6 : Int32} {b90 c90 : Nat} {t1 : Int32} (hg : PG (vL V) g) (hB1 : BS (vL V) b1 c1) (hB90 : BS (vL V) b90 c90) (h0 : 0 < d) (h : vMV E (d - 1) M_X0_add [sl b90 c90, wi t1] V (fun V1 => vMV E (d - 1) M_X4_writeTree [sl g 0, sl b1 c1, wi (x3 + 1)] V1 (fun V7 => vwp E d M_X4_writeTree 79 [some (sl g 0), some (sl b1 c1), some (wi x2), some (wi x3), some (wj x4), none, some (wi (x6 + 1))] [] V7 (zv K)))) : vwp E d M_X4_writeTree 106 [some (sl g 0), some (sl b1 c1), some (wi x2), some (wi x3), some (wj x4), none, some (wi x6)] [wi t1, sl b90 c90] V (zv K) := by
  intro G A hR
  obtain ⟨L, P, rfl, hS⟩ := hR
  have hx := Xt.refl (V := pl G A L P) (A := A)
  show wp E d M_X4_writeTree 106 [some (vr (A g 0)), some (vr (A b1 c1)), some (vi x2), some (vi x3), some (vj x4), none, some (vi x6)] [vi t1, vr (A b90 c90)] G _
  refine v_X4_writeTree_106 h0 ?_
  refine ⟨hS.o (BS.o hB90), ?_⟩
  refine wpM.mono (h G A ⟨L, P, rfl, hS⟩) (fun rr1 G1 hr => ?_)
  obtain ⟨A1, W1, w1, ⟨L1, P1, rfl, hS1⟩, hy1, rfl, rfl, h⟩ := hr
  refine ⟨rfl, ?_⟩
  have hx1 := Xt.trans hx hy1
  have hg2 : PG L1 g := PG.up hy1 hg
  have hg3 : BS L1 b1 c1 := BS.up hy1 hB1
  have hg4 : BS L1 b90 c90 := BS.up hy1 hB90
  have ee5 : A1 b1 c1 = A b1 c1 := hy1.2 _ _ hB1.1 (((BS.n hg3 hS1)).trans ((BS.n hB1 hS)).symm)
  try rw [← ee5]
  have ee6 : A1 g 0 = A g 0 := hy1.2 _ _ hg.1 (((nP_0 hS1 hg2)).trans ((nP_0 hS hg)).symm)
  try rw [← ee6]
  refine wpM.mono (h G1 A1 ⟨L1, P1, rfl, hS1⟩) (fun rr7 G7 hr => ?_)
  obtain ⟨A7, W7, w7, ⟨L7, P7, rfl, hS7⟩, hy7, rfl, rfl, h⟩ := hr
  refine ⟨rfl, ?_⟩
  have hx7 := Xt.trans hx1 hy7
  have hg8 : PG L7 g := PG.up hy7 hg2
  have hg9 : BS L7 b1 c1 := BS.up hy7 hg3
  have hg10 : BS L7 b90 c90 := BS.up hy7 hg4
  have ee11 : A7 b1 c1 = A1 b1 c1 := hy7.2 _ _ hg3.1 (((BS.n hg9 hS7)).trans ((BS.n hg3 hS1)).symm)
  try rw [← ee11]
  have ee12 : A7 g 0 = A1 g 0 := hy7.2 _ _ hg2.1 (((nP_0 hS7 hg8)).trans ((nP_0 hS1 hg2)).symm)
  try rw [← ee12]
  exact wp.mono (h G7 A7 ⟨L7, P7, rfl, hS7⟩) (fun r G' q => qx_trans hx7 q)
theorem w_X4_isRight_0 {E : EE} {d : Nat} {V : VH} {K : Int32 → VH → Prop} {g : Nat} {b2 c2 : Nat} (hg : PG (vL V) g) (hB2 : BS (vL V) b2 c2) (h0 : 0 < d) (h : vMV E (d - 1) M_X10_scan [sl 0 2, sl b2 c2] V (fun V1 => vMI E (d - 1) M_X4_tree [sl 0 20, sl g 0, wi (vI V1 g 0 9), wi (vI V1 g 0 8), wi 0] V1 (fun r7 V7 => (¬ r7 = 0 → ((vI V7 0 2 6) = 0 → vwp E d M_X4_isRight 47 [some (sl 0 20), some (sl g 0), some (sl b2 c2)] [] V7 (zi K)) ∧ (¬ ((vI V7 0 2 6) = 0) → vMI E (d - 1) M_X10_refuse [sl 0 2] V7 (fun r13 V13 => (r13 = 0 → K 0 V13) ∧ (¬ (r13 = 0) → vwp E d M_X4_isRight 47 [some (sl 0 20), some (sl g 0), some (sl b2 c2)] [] V13 (zi K))))) ∧ (r7 = 0 → K 0 V7)))) : vMI E d M_X4_isRight [sl 0 20, sl g 0, sl b2 c2] V K := by
  intro G A hR
  obtain ⟨L, P, rfl, hS⟩ := hR
  have hx := Xt.refl (V := pl G A L P) (A := A)
  show wpM E d M_X4_isRight [vr (A 0 20), vr (A g 0), vr (A b2 c2)] G _
  refine wpM_of mk_X4_isRight (Nat.le_of_ble_eq_true rfl) ?_
  refine v_X4_isRight_0 h0 ?_
  refine ⟨hS.o (s0_20 hS), ?_⟩
  rw [l0_20_0 hS]
  refine ⟨hS.o (s0_2 hS), ?_⟩
  refine wpM.mono (h G A ⟨L, P, rfl, hS⟩) (fun rr1 G1 hr => ?_)
  obtain ⟨A1, W1, w1, ⟨L1, P1, rfl, hS1⟩, hy1, rfl, rfl, h⟩ := hr
  refine ⟨rfl, ?_⟩
  have hx1 := Xt.trans hx hy1
  have hg2 : PG L1 g := PG.up hy1 hg
  have hg3 : BS L1 b2 c2 := BS.up hy1 hB2
  have ee4 : A1 0 20 = A 0 20 := hy1.2 _ _ hS.1.1 (((n0_20 hS1)).trans ((n0_20 hS)).symm)
  try rw [← ee4]
  have ee5 : A1 b2 c2 = A b2 c2 := hy1.2 _ _ hB2.1 (((BS.n hg3 hS1)).trans ((BS.n hB2 hS)).symm)
  try rw [← ee5]
  have ee6 : A1 g 0 = A g 0 := hy1.2 _ _ hg.1 (((nP_0 hS1 hg2)).trans ((nP_0 hS hg)).symm)
  try rw [← ee6]
  refine ⟨hS1.o (sP_0 hg2), ?_⟩
  refine ⟨hS1.o (s0_20 hS1), ?_⟩
  refine wpM.mono (h G1 A1 ⟨L1, P1, rfl, hS1⟩) (fun rr7 G7 hr => ?_)
  obtain ⟨A7, W7, w7, ⟨L7, P7, rfl, hS7⟩, hy7, rfl, r7, rfl, h⟩ := hr
  refine ⟨r7, rfl, ?_⟩
  have hx7 := Xt.trans hx1 hy7
  have hg8 : PG L7 g := PG.up hy7 hg2
  have hg9 : BS L7 b2 c2 := BS.up hy7 hg3
  have ee10 : A7 0 20 = A1 0 20 := hy7.2 _ _ hS1.1.1 (((n0_20 hS7)).trans ((n0_20 hS1)).symm)
  try rw [← ee10]
  have ee11 : A7 b2 c2 = A1 b2 c2 := hy7.2 _ _ hg3.1 (((BS.n hg9 hS7)).trans ((BS.n hg3 hS1)).symm)
  try rw [← ee11]
  have ee12 : A7 g 0 = A1 g 0 := hy7.2 _ _ hg2.1 (((nP_0 hS7 hg8)).trans ((nP_0 hS1 hg2)).symm)
  try rw [← ee12]
  refine ⟨fun hc => ?_, fun hc => ?_⟩
  · have h := h.1 hc
    refine ⟨hS7.o (s0_20 hS7), ?_⟩
    rw [l0_20_0 hS7]
    refine ⟨hS7.o (s0_2 hS7), ?_⟩
    refine ⟨fun hc => ?_, fun hc => ?_⟩
    · have h := h.1 hc
      exact wp.mono (h G7 A7 ⟨L7, P7, rfl, hS7⟩) (fun r G' q => qx_trans hx7 q)
    · have h := h.2 hc
      refine wpM.mono (h G7 A7 ⟨L7, P7, rfl, hS7⟩) (fun rr13 G13 hr => ?_)
      obtain ⟨A13, W13, w13, ⟨L13, P13, rfl, hS13⟩, hy13, rfl, r13, rfl, h⟩ := hr
      refine ⟨r13, rfl, ?_⟩
      have hx13 := Xt.trans hx7 hy13
      have hg14 : PG L13 g := PG.up hy13 hg8
      have hg15 : BS L13 b2 c2 := BS.up hy13 hg9
      have ee16 : A13 0 20 = A7 0 20 := hy13.2 _ _ hS7.1.1 (((n0_20 hS13)).trans ((n0_20 hS7)).symm)
      try rw [← ee16]
      have ee17 : A13 b2 c2 = A7 b2 c2 := hy13.2 _ _ hg9.1 (((BS.n hg15 hS13)).trans ((BS.n hg9 hS7)).symm)
      try rw [← ee17]
      have ee18 : A13 g 0 = A7 g 0 := hy13.2 _ _ hg8.1 (((nP_0 hS13 hg14)).trans ((nP_0 hS7 hg8)).symm)
      try rw [← ee18]
      refine ⟨fun hc => ?_, fun hc => ?_⟩
      · have h := h.1 hc
        exact qx_i hS13 hx13 h
      · have h := h.2 hc
        exact wp.mono (h G13 A13 ⟨L13, P13, rfl, hS13⟩) (fun r G' q => qx_trans hx13 q)
  · have h := h.2 hc
    exact qx_i hS7 hx7 h
theorem w_X4_isRight_47 {E : EE} {d : Nat} {V : VH} {K : Int32 → VH → Prop} {g : Nat} {b2 c2 : Nat} (hg : PG (vL V) g) (hB2 : BS (vL V) b2 c2) (h : K 1 V) : vwp E d M_X4_isRight 47 [some (sl 0 20), some (sl g 0), some (sl b2 c2)] [] V (zi K) := by
  intro G A hR
  obtain ⟨L, P, rfl, hS⟩ := hR
  have hx := Xt.refl (V := pl G A L P) (A := A)
  show wp E d M_X4_isRight 47 [some (vr (A 0 20)), some (vr (A g 0)), some (vr (A b2 c2))] [] G _
  refine v_X4_isRight_47 ?_
  exact qx_i hS hx h
theorem w_X4_tree_0 {E : EE} {d : Nat} {V : VH} {K : Int32 → VH → Prop} {g : Nat} {x2 : Int32} {x3 : Int32} {x4 : Int32} (hg : PG (vL V) g) (h0 : 0 < d) (h : (¬ (vI V 0 2 6) = 2 → vMI E (d - 1) M_X10_is [sl 0 2, wi 33] V (fun r1 V1 => (r1 = 0 → vMI E (d - 1) M_X10_is [sl 0 2, wi 46] V1 (fun r5 V5 => (¬ r5 = 0 → vwp E d M_X4_tree 73 [some (sl 0 20), some (sl g 0), some (wi x2), some (wi x3), some (wi x4), none] [] V5 (zi K)) ∧ (r5 = 0 → vMI E (d - 1) M_X10_is [sl 0 2, wi 60] V5 (fun r9 V9 => (¬ r9 = 0 → vwp E d M_X4_tree 73 [some (sl 0 20), some (sl g 0), some (wi x2), some (wi x3), some (wi x4), none] [] V9 (zi K)) ∧ (r9 = 0 → vMI E (d - 1) M_X10_refuse [sl 0 2] V9 (fun r13 V13 => bz r13 ∧ K r13 V13)))))) ∧ (¬ (r1 = 0) → vMI E (d - 1) M_X4_ruledOut [sl 0 20, sl g 0, wi x2, wi x3] V1 (fun r17 V17 => bz r17 ∧ K r17 V17)))) ∧ ((vI V 0 2 6) = 2 → vMI E (d - 1) M_X4_branches [sl 0 20, sl g 0, wi x2, wi x3, wi x4] V (fun r21 V21 => bz r21 ∧ K r21 V21))) : vMI E d M_X4_tree [sl 0 20, sl g 0, wi x2, wi x3, wi x4] V K := by
  intro G A hR
  obtain ⟨L, P, rfl, hS⟩ := hR
  have hx := Xt.refl (V := pl G A L P) (A := A)
  show wpM E d M_X4_tree [vr (A 0 20), vr (A g 0), vi x2, vi x3, vi x4] G _
  refine wpM_of mk_X4_tree (Nat.le_of_ble_eq_true rfl) ?_
  refine v_X4_tree_0 h0 ?_
  refine ⟨hS.o (s0_20 hS), ?_⟩
  rw [l0_20_0 hS]
  refine ⟨hS.o (s0_2 hS), ?_⟩
  refine ⟨fun hc => ?_, fun hc => ?_⟩
  · have h := h.1 hc
    refine wpM.mono (h G A ⟨L, P, rfl, hS⟩) (fun rr1 G1 hr => ?_)
    obtain ⟨A1, W1, w1, ⟨L1, P1, rfl, hS1⟩, hy1, rfl, r1, rfl, h⟩ := hr
    refine ⟨r1, rfl, ?_⟩
    have hx1 := Xt.trans hx hy1
    have hg2 : PG L1 g := PG.up hy1 hg
    have ee3 : A1 0 20 = A 0 20 := hy1.2 _ _ hS.1.1 (((n0_20 hS1)).trans ((n0_20 hS)).symm)
    try rw [← ee3]
    have ee4 : A1 g 0 = A g 0 := hy1.2 _ _ hg.1 (((nP_0 hS1 hg2)).trans ((nP_0 hS hg)).symm)
    try rw [← ee4]
    refine ⟨fun hc => ?_, fun hc => ?_⟩
    · have h := h.1 hc
      refine ⟨hS1.o (s0_20 hS1), ?_⟩
      rw [l0_20_0 hS1]
      refine ⟨hS1.o (s0_2 hS1), ?_⟩
      refine wpM.mono (h G1 A1 ⟨L1, P1, rfl, hS1⟩) (fun rr5 G5 hr => ?_)
      obtain ⟨A5, W5, w5, ⟨L5, P5, rfl, hS5⟩, hy5, rfl, r5, rfl, h⟩ := hr
      refine ⟨r5, rfl, ?_⟩
      have hx5 := Xt.trans hx1 hy5
      have hg6 : PG L5 g := PG.up hy5 hg2
      have ee7 : A5 0 20 = A1 0 20 := hy5.2 _ _ hS1.1.1 (((n0_20 hS5)).trans ((n0_20 hS1)).symm)
      try rw [← ee7]
      have ee8 : A5 g 0 = A1 g 0 := hy5.2 _ _ hg2.1 (((nP_0 hS5 hg6)).trans ((nP_0 hS1 hg2)).symm)
      try rw [← ee8]
      refine ⟨fun hc => ?_, fun hc => ?_⟩
      · have h := h.1 hc
        exact wp.mono (h G5 A5 ⟨L5, P5, rfl, hS5⟩) (fun r G' q => qx_trans hx5 q)
      · have h := h.2 hc
        refine ⟨hS5.o (s0_20 hS5), ?_⟩
        rw [l0_20_0 hS5]
        refine ⟨hS5.o (s0_2 hS5), ?_⟩
        refine wpM.mono (h G5 A5 ⟨L5, P5, rfl, hS5⟩) (fun rr9 G9 hr => ?_)
        obtain ⟨A9, W9, w9, ⟨L9, P9, rfl, hS9⟩, hy9, rfl, r9, rfl, h⟩ := hr
        refine ⟨r9, rfl, ?_⟩
        have hx9 := Xt.trans hx5 hy9
        have hg10 : PG L9 g := PG.up hy9 hg6
        have ee11 : A9 0 20 = A5 0 20 := hy9.2 _ _ hS5.1.1 (((n0_20 hS9)).trans ((n0_20 hS5)).symm)
        try rw [← ee11]
        have ee12 : A9 g 0 = A5 g 0 := hy9.2 _ _ hg6.1 (((nP_0 hS9 hg10)).trans ((nP_0 hS5 hg6)).symm)
        try rw [← ee12]
        refine ⟨fun hc => ?_, fun hc => ?_⟩
        · have h := h.1 hc
          exact wp.mono (h G9 A9 ⟨L9, P9, rfl, hS9⟩) (fun r G' q => qx_trans hx9 q)
        · have h := h.2 hc
          refine ⟨hS9.o (s0_20 hS9), ?_⟩
          rw [l0_20_0 hS9]
          refine ⟨hS9.o (s0_2 hS9), ?_⟩
          refine wpM.mono (h G9 A9 ⟨L9, P9, rfl, hS9⟩) (fun rr13 G13 hr => ?_)
          obtain ⟨A13, W13, w13, ⟨L13, P13, rfl, hS13⟩, hy13, rfl, r13, rfl, h⟩ := hr
          refine ⟨r13, rfl, ?_⟩
          have hx13 := Xt.trans hx9 hy13
          have hg14 : PG L13 g := PG.up hy13 hg10
          have ee15 : A13 0 20 = A9 0 20 := hy13.2 _ _ hS9.1.1 (((n0_20 hS13)).trans ((n0_20 hS9)).symm)
          try rw [← ee15]
          have ee16 : A13 g 0 = A9 g 0 := hy13.2 _ _ hg10.1 (((nP_0 hS13 hg14)).trans ((nP_0 hS9 hg10)).symm)
          try rw [← ee16]
          exact ⟨bz_ok h.1, qx_i hS13 hx13 h.2⟩
    · have h := h.2 hc
      refine ⟨hS1.o (s0_20 hS1), ?_⟩
      refine wpM.mono (h G1 A1 ⟨L1, P1, rfl, hS1⟩) (fun rr17 G17 hr => ?_)
      obtain ⟨A17, W17, w17, ⟨L17, P17, rfl, hS17⟩, hy17, rfl, r17, rfl, h⟩ := hr
      refine ⟨r17, rfl, ?_⟩
      have hx17 := Xt.trans hx1 hy17
      have hg18 : PG L17 g := PG.up hy17 hg2
      have ee19 : A17 0 20 = A1 0 20 := hy17.2 _ _ hS1.1.1 (((n0_20 hS17)).trans ((n0_20 hS1)).symm)
      try rw [← ee19]
      have ee20 : A17 g 0 = A1 g 0 := hy17.2 _ _ hg2.1 (((nP_0 hS17 hg18)).trans ((nP_0 hS1 hg2)).symm)
      try rw [← ee20]
      exact ⟨bz_ok h.1, qx_i hS17 hx17 h.2⟩
  · have h := h.2 hc
    refine wpM.mono (h G A ⟨L, P, rfl, hS⟩) (fun rr21 G21 hr => ?_)
    obtain ⟨A21, W21, w21, ⟨L21, P21, rfl, hS21⟩, hy21, rfl, r21, rfl, h⟩ := hr
    refine ⟨r21, rfl, ?_⟩
    have hx21 := Xt.trans hx hy21
    have hg22 : PG L21 g := PG.up hy21 hg
    have ee23 : A21 0 20 = A 0 20 := hy21.2 _ _ hS.1.1 (((n0_20 hS21)).trans ((n0_20 hS)).symm)
    try rw [← ee23]
    have ee24 : A21 g 0 = A g 0 := hy21.2 _ _ hg.1 (((nP_0 hS21 hg22)).trans ((nP_0 hS hg)).symm)
    try rw [← ee24]
    exact ⟨bz_ok h.1, qx_i hS21 hx21 h.2⟩
theorem w_X4_tree_73 {E : EE} {d : Nat} {V : VH} {K : Int32 → VH → Prop} {g : Nat} {x2 : Int32} {x3 : Int32} {x4 : Int32} (hg : PG (vL V) g) (h0 : 0 < d) (h : vMI E (d - 1) M_X10_is [sl 0 2, wi 46] V (fun r1 V1 => (r1 = 0 → vMI E (d - 1) M_X4_isBounded [sl 0 20, sl g 0, wi x2, wi x3] V1 (fun r5 V5 => vwp E d M_X4_tree 101 [some (sl 0 20), some (sl g 0), some (wi x2), some (wi x3), some (wi x4), none] [wi r5] V5 (zi K))) ∧ (¬ (r1 = 0) → vMI E (d - 1) M_X4_isNoGain [sl g 0, wi x2, wi x3] V1 (fun r9 V9 => vwp E d M_X4_tree 101 [some (sl 0 20), some (sl g 0), some (wi x2), some (wi x3), some (wi x4), none] [wi r9] V9 (zi K))))) : vwp E d M_X4_tree 73 [some (sl 0 20), some (sl g 0), some (wi x2), some (wi x3), some (wi x4), none] [] V (zi K) := by
  intro G A hR
  obtain ⟨L, P, rfl, hS⟩ := hR
  have hx := Xt.refl (V := pl G A L P) (A := A)
  show wp E d M_X4_tree 73 [some (vr (A 0 20)), some (vr (A g 0)), some (vi x2), some (vi x3), some (vi x4), none] [] G _
  refine v_X4_tree_73 h0 ?_
  refine ⟨hS.o (s0_20 hS), ?_⟩
  rw [l0_20_0 hS]
  refine ⟨hS.o (s0_2 hS), ?_⟩
  refine wpM.mono (h G A ⟨L, P, rfl, hS⟩) (fun rr1 G1 hr => ?_)
  obtain ⟨A1, W1, w1, ⟨L1, P1, rfl, hS1⟩, hy1, rfl, r1, rfl, h⟩ := hr
  refine ⟨r1, rfl, ?_⟩
  have hx1 := Xt.trans hx hy1
  have hg2 : PG L1 g := PG.up hy1 hg
  have ee3 : A1 0 20 = A 0 20 := hy1.2 _ _ hS.1.1 (((n0_20 hS1)).trans ((n0_20 hS)).symm)
  try rw [← ee3]
  have ee4 : A1 g 0 = A g 0 := hy1.2 _ _ hg.1 (((nP_0 hS1 hg2)).trans ((nP_0 hS hg)).symm)
  try rw [← ee4]
  refine ⟨fun hc => ?_, fun hc => ?_⟩
  · have h := h.1 hc
    refine ⟨hS1.o (s0_20 hS1), ?_⟩
    refine wpM.mono (h G1 A1 ⟨L1, P1, rfl, hS1⟩) (fun rr5 G5 hr => ?_)
    obtain ⟨A5, W5, w5, ⟨L5, P5, rfl, hS5⟩, hy5, rfl, r5, rfl, h⟩ := hr
    refine ⟨r5, rfl, ?_⟩
    have hx5 := Xt.trans hx1 hy5
    have hg6 : PG L5 g := PG.up hy5 hg2
    have ee7 : A5 0 20 = A1 0 20 := hy5.2 _ _ hS1.1.1 (((n0_20 hS5)).trans ((n0_20 hS1)).symm)
    try rw [← ee7]
    have ee8 : A5 g 0 = A1 g 0 := hy5.2 _ _ hg2.1 (((nP_0 hS5 hg6)).trans ((nP_0 hS1 hg2)).symm)
    try rw [← ee8]
    exact wp.mono (h G5 A5 ⟨L5, P5, rfl, hS5⟩) (fun r G' q => qx_trans hx5 q)
  · have h := h.2 hc
    refine wpM.mono (h G1 A1 ⟨L1, P1, rfl, hS1⟩) (fun rr9 G9 hr => ?_)
    obtain ⟨A9, W9, w9, ⟨L9, P9, rfl, hS9⟩, hy9, rfl, r9, rfl, h⟩ := hr
    refine ⟨r9, rfl, ?_⟩
    have hx9 := Xt.trans hx1 hy9
    have hg10 : PG L9 g := PG.up hy9 hg2
    have ee11 : A9 0 20 = A1 0 20 := hy9.2 _ _ hS1.1.1 (((n0_20 hS9)).trans ((n0_20 hS1)).symm)
    try rw [← ee11]
    have ee12 : A9 g 0 = A1 g 0 := hy9.2 _ _ hg2.1 (((nP_0 hS9 hg10)).trans ((nP_0 hS1 hg2)).symm)
    try rw [← ee12]
    exact wp.mono (h G9 A9 ⟨L9, P9, rfl, hS9⟩) (fun r G' q => qx_trans hx9 q)
theorem w_X4_tree_101 {E : EE} {d : Nat} {V : VH} {K : Int32 → VH → Prop} {g : Nat} {x2 : Int32} {x3 : Int32} {x4 : Int32} {t0 : Int32} (hg : PG (vL V) g) (h0 : 0 < d) (h : (¬ t0 = 0 → vMV E (d - 1) M_X10_step [sl 0 2] V (fun V1 => K 1 V1)) ∧ (t0 = 0 → vMI E (d - 1) M_X10_fail [sl 0 2, wi 8, wi (vI V 0 2 8)] V (fun r5 V5 => bz r5 ∧ K r5 V5))) : vwp E d M_X4_tree 101 [some (sl 0 20), some (sl g 0), some (wi x2), some (wi x3), some (wi x4), none] [wi t0] V (zi K) := by
  intro G A hR
  obtain ⟨L, P, rfl, hS⟩ := hR
  have hx := Xt.refl (V := pl G A L P) (A := A)
  show wp E d M_X4_tree 101 [some (vr (A 0 20)), some (vr (A g 0)), some (vi x2), some (vi x3), some (vi x4), none] [vi t0] G _
  refine v_X4_tree_101 h0 ?_
  refine ⟨fun hc => ?_, fun hc => ?_⟩
  · have h := h.1 hc
    refine ⟨hS.o (s0_20 hS), ?_⟩
    rw [l0_20_0 hS]
    refine ⟨hS.o (s0_2 hS), ?_⟩
    refine wpM.mono (h G A ⟨L, P, rfl, hS⟩) (fun rr1 G1 hr => ?_)
    obtain ⟨A1, W1, w1, ⟨L1, P1, rfl, hS1⟩, hy1, rfl, rfl, h⟩ := hr
    refine ⟨rfl, ?_⟩
    have hx1 := Xt.trans hx hy1
    have hg2 : PG L1 g := PG.up hy1 hg
    have ee3 : A1 0 20 = A 0 20 := hy1.2 _ _ hS.1.1 (((n0_20 hS1)).trans ((n0_20 hS)).symm)
    try rw [← ee3]
    have ee4 : A1 g 0 = A g 0 := hy1.2 _ _ hg.1 (((nP_0 hS1 hg2)).trans ((nP_0 hS hg)).symm)
    try rw [← ee4]
    exact qx_i hS1 hx1 h
  · have h := h.2 hc
    refine ⟨hS.o (s0_20 hS), ?_⟩
    rw [l0_20_0 hS]
    refine ⟨hS.o (s0_2 hS), ?_⟩
    refine wpM.mono (h G A ⟨L, P, rfl, hS⟩) (fun rr5 G5 hr => ?_)
    obtain ⟨A5, W5, w5, ⟨L5, P5, rfl, hS5⟩, hy5, rfl, r5, rfl, h⟩ := hr
    refine ⟨r5, rfl, ?_⟩
    have hx5 := Xt.trans hx hy5
    have hg6 : PG L5 g := PG.up hy5 hg
    have ee7 : A5 0 20 = A 0 20 := hy5.2 _ _ hS.1.1 (((n0_20 hS5)).trans ((n0_20 hS)).symm)
    try rw [← ee7]
    have ee8 : A5 g 0 = A g 0 := hy5.2 _ _ hg.1 (((nP_0 hS5 hg6)).trans ((nP_0 hS hg)).symm)
    try rw [← ee8]
    exact ⟨bz_ok h.1, qx_i hS5 hx5 h.2⟩
theorem w_X4_branches_0 {E : EE} {d : Nat} {V : VH} {K : Int32 → VH → Prop} {g : Nat} {x2 : Int32} {x3 : Int32} {x4 : Int32} (hg : PG (vL V) g) (h0 : 0 < d) (h : vMI E (d - 1) M_X3_lookUp [sl g 0, wj (vJ V 0 2 7)] V (fun r1 V1 => (r1 < 0 → vwp E d M_X4_branches 34 [some (sl 0 20), some (sl g 0), some (wi x2), some (wi x3), some (wi x4), some (wi r1), some (wi (r1 - r1 / 24 * 24)), none] [] V1 (zi K)) ∧ (¬ (r1 < 0) → ((r1 / 24) = 1 → (¬ ((x2 >>> ((r1 - r1 / 24 * 24) &&& 31)) &&& 1) = 0 → vwp E d M_X4_branches 66 [some (sl 0 20), some (sl g 0), some (wi x2), some (wi x3), some (wi x4), some (wi r1), some (wi (r1 - r1 / 24 * 24)), none] [] V1 (zi K)) ∧ (((x2 >>> ((r1 - r1 / 24 * 24) &&& 31)) &&& 1) = 0 → (x4 < 12 → vMV E (d - 1) M_X10_step [sl 0 2] V1 (fun V5 => vwp E d M_X4_branches 92 [some (sl 0 20), some (sl g 0), some (wi x2), some (wi x3), some (wi x4), some (wi r1), some (wi (r1 - r1 / 24 * 24)), some (wi 0)] [] V5 (zi K))) ∧ (¬ (x4 < 12) → vwp E d M_X4_branches 66 [some (sl 0 20), some (sl g 0), some (wi x2), some (wi x3), some (wi x4), some (wi r1), some (wi (r1 - r1 / 24 * 24)), none] [] V1 (zi K)))) ∧ (¬ ((r1 / 24) = 1) → vwp E d M_X4_branches 34 [some (sl 0 20), some (sl g 0), some (wi x2), some (wi x3), some (wi x4), some (wi r1), some (wi (r1 - r1 / 24 * 24)), none] [] V1 (zi K))))) : vMI E d M_X4_branches [sl 0 20, sl g 0, wi x2, wi x3, wi x4] V K := by
  intro G A hR
  obtain ⟨L, P, rfl, hS⟩ := hR
  have hx := Xt.refl (V := pl G A L P) (A := A)
  show wpM E d M_X4_branches [vr (A 0 20), vr (A g 0), vi x2, vi x3, vi x4] G _
  refine wpM_of mk_X4_branches (Nat.le_of_ble_eq_true rfl) ?_
  refine v_X4_branches_0 h0 ?_
  refine ⟨hS.o (s0_20 hS), ?_⟩
  rw [l0_20_0 hS]
  refine ⟨hS.o (s0_2 hS), ?_⟩
  refine ⟨hS.o (sP_0 hg), ?_⟩
  refine wpM.mono (h G A ⟨L, P, rfl, hS⟩) (fun rr1 G1 hr => ?_)
  obtain ⟨A1, W1, w1, ⟨L1, P1, rfl, hS1⟩, hy1, rfl, r1, rfl, h⟩ := hr
  refine ⟨r1, rfl, ?_⟩
  have hx1 := Xt.trans hx hy1
  have hg2 : PG L1 g := PG.up hy1 hg
  have ee3 : A1 0 20 = A 0 20 := hy1.2 _ _ hS.1.1 (((n0_20 hS1)).trans ((n0_20 hS)).symm)
  try rw [← ee3]
  have ee4 : A1 g 0 = A g 0 := hy1.2 _ _ hg.1 (((nP_0 hS1 hg2)).trans ((nP_0 hS hg)).symm)
  try rw [← ee4]
  refine ⟨fun hc => ?_, fun hc => ?_⟩
  · have h := h.1 hc
    exact wp.mono (h G1 A1 ⟨L1, P1, rfl, hS1⟩) (fun r G' q => qx_trans hx1 q)
  · have h := h.2 hc
    refine ⟨fun hc => ?_, fun hc => ?_⟩
    · have h := h.1 hc
      refine ⟨fun hc => ?_, fun hc => ?_⟩
      · have h := h.1 hc
        exact wp.mono (h G1 A1 ⟨L1, P1, rfl, hS1⟩) (fun r G' q => qx_trans hx1 q)
      · have h := h.2 hc
        refine ⟨fun hc => ?_, fun hc => ?_⟩
        · have h := h.1 hc
          refine ⟨hS1.o (s0_20 hS1), ?_⟩
          rw [l0_20_0 hS1]
          refine ⟨hS1.o (s0_2 hS1), ?_⟩
          refine wpM.mono (h G1 A1 ⟨L1, P1, rfl, hS1⟩) (fun rr5 G5 hr => ?_)
          obtain ⟨A5, W5, w5, ⟨L5, P5, rfl, hS5⟩, hy5, rfl, rfl, h⟩ := hr
          refine ⟨rfl, ?_⟩
          have hx5 := Xt.trans hx1 hy5
          have hg6 : PG L5 g := PG.up hy5 hg2
          have ee7 : A5 0 20 = A1 0 20 := hy5.2 _ _ hS1.1.1 (((n0_20 hS5)).trans ((n0_20 hS1)).symm)
          try rw [← ee7]
          have ee8 : A5 g 0 = A1 g 0 := hy5.2 _ _ hg2.1 (((nP_0 hS5 hg6)).trans ((nP_0 hS1 hg2)).symm)
          try rw [← ee8]
          exact wp.mono (h G5 A5 ⟨L5, P5, rfl, hS5⟩) (fun r G' q => qx_trans hx5 q)
        · have h := h.2 hc
          exact wp.mono (h G1 A1 ⟨L1, P1, rfl, hS1⟩) (fun r G' q => qx_trans hx1 q)
    · have h := h.2 hc
      exact wp.mono (h G1 A1 ⟨L1, P1, rfl, hS1⟩) (fun r G' q => qx_trans hx1 q)
theorem w_X4_branches_34 {E : EE} {d : Nat} {V : VH} {K : Int32 → VH → Prop} {g : Nat} {x2 : Int32} {x3 : Int32} {x4 : Int32} {x5 : Int32} {x6 : Int32} (hg : PG (vL V) g) (h0 : 0 < d) (h : vMI E (d - 1) M_X10_fail [sl 0 2, wi 4, wi (vI V 0 2 8)] V (fun r1 V1 => bz r1 ∧ K r1 V1)) : vwp E d M_X4_branches 34 [some (sl 0 20), some (sl g 0), some (wi x2), some (wi x3), some (wi x4), some (wi x5), some (wi x6), none] [] V (zi K) := by
  intro G A hR
  obtain ⟨L, P, rfl, hS⟩ := hR
  have hx := Xt.refl (V := pl G A L P) (A := A)
  show wp E d M_X4_branches 34 [some (vr (A 0 20)), some (vr (A g 0)), some (vi x2), some (vi x3), some (vi x4), some (vi x5), some (vi x6), none] [] G _
  refine v_X4_branches_34 h0 ?_
  refine ⟨hS.o (s0_20 hS), ?_⟩
  rw [l0_20_0 hS]
  refine ⟨hS.o (s0_2 hS), ?_⟩
  refine wpM.mono (h G A ⟨L, P, rfl, hS⟩) (fun rr1 G1 hr => ?_)
  obtain ⟨A1, W1, w1, ⟨L1, P1, rfl, hS1⟩, hy1, rfl, r1, rfl, h⟩ := hr
  refine ⟨r1, rfl, ?_⟩
  have hx1 := Xt.trans hx hy1
  have hg2 : PG L1 g := PG.up hy1 hg
  have ee3 : A1 0 20 = A 0 20 := hy1.2 _ _ hS.1.1 (((n0_20 hS1)).trans ((n0_20 hS)).symm)
  try rw [← ee3]
  have ee4 : A1 g 0 = A g 0 := hy1.2 _ _ hg.1 (((nP_0 hS1 hg2)).trans ((nP_0 hS hg)).symm)
  try rw [← ee4]
  exact ⟨bz_ok h.1, qx_i hS1 hx1 h.2⟩
theorem w_X4_branches_66 {E : EE} {d : Nat} {V : VH} {K : Int32 → VH → Prop} {g : Nat} {x2 : Int32} {x3 : Int32} {x4 : Int32} {x5 : Int32} {x6 : Int32} (hg : PG (vL V) g) (h0 : 0 < d) (h : vMI E (d - 1) M_X10_fail [sl 0 2, wi 4, wi (vI V 0 2 8)] V (fun r1 V1 => bz r1 ∧ K r1 V1)) : vwp E d M_X4_branches 66 [some (sl 0 20), some (sl g 0), some (wi x2), some (wi x3), some (wi x4), some (wi x5), some (wi x6), none] [] V (zi K) := by
  intro G A hR
  obtain ⟨L, P, rfl, hS⟩ := hR
  have hx := Xt.refl (V := pl G A L P) (A := A)
  show wp E d M_X4_branches 66 [some (vr (A 0 20)), some (vr (A g 0)), some (vi x2), some (vi x3), some (vi x4), some (vi x5), some (vi x6), none] [] G _
  refine v_X4_branches_66 h0 ?_
  refine ⟨hS.o (s0_20 hS), ?_⟩
  rw [l0_20_0 hS]
  refine ⟨hS.o (s0_2 hS), ?_⟩
  refine wpM.mono (h G A ⟨L, P, rfl, hS⟩) (fun rr1 G1 hr => ?_)
  obtain ⟨A1, W1, w1, ⟨L1, P1, rfl, hS1⟩, hy1, rfl, r1, rfl, h⟩ := hr
  refine ⟨r1, rfl, ?_⟩
  have hx1 := Xt.trans hx hy1
  have hg2 : PG L1 g := PG.up hy1 hg
  have ee3 : A1 0 20 = A 0 20 := hy1.2 _ _ hS.1.1 (((n0_20 hS1)).trans ((n0_20 hS)).symm)
  try rw [← ee3]
  have ee4 : A1 g 0 = A g 0 := hy1.2 _ _ hg.1 (((nP_0 hS1 hg2)).trans ((nP_0 hS hg)).symm)
  try rw [← ee4]
  exact ⟨bz_ok h.1, qx_i hS1 hx1 h.2⟩
theorem w_X4_branches_92 {E : EE} {d : Nat} {V : VH} {K : Int32 → VH → Prop} {g : Nat} {x2 : Int32} {x3 : Int32} {x4 : Int32} {x5 : Int32} {x6 : Int32} {x7 : Int32} (hg : PG (vL V) g) (h0 : 0 < d) (h : vp_in x6 12 ∧ (((vI V g 6 (Int32.toNatClampNeg x6)) ≤ x7 → vMI E (d - 1) M_X10_accept [sl 0 2, wi 41] V (fun r2 V2 => bz r2 ∧ K r2 V2)) ∧ (¬ ((vI V g 6 (Int32.toNatClampNeg x6)) ≤ x7) → (¬ x7 = 0 → vwp E d M_X4_branches 123 [some (sl 0 20), some (sl g 0), some (wi x2), some (wi x3), some (wi x4), some (wi x5), some (wi x6), some (wi x7)] [wi 44, sl 0 2] V (zi K)) ∧ (x7 = 0 → vwp E d M_X4_branches 123 [some (sl 0 20), some (sl g 0), some (wi x2), some (wi x3), some (wi x4), some (wi x5), some (wi x6), some (wi x7)] [wi 40, sl 0 2] V (zi K))))) : vwp E d M_X4_branches 92 [some (sl 0 20), some (sl g 0), some (wi x2), some (wi x3), some (wi x4), some (wi x5), some (wi x6), some (wi x7)] [] V (zi K) := by
  intro G A hR
  obtain ⟨L, P, rfl, hS⟩ := hR
  have hx := Xt.refl (V := pl G A L P) (A := A)
  show wp E d M_X4_branches 92 [some (vr (A 0 20)), some (vr (A g 0)), some (vi x2), some (vi x3), some (vi x4), some (vi x5), some (vi x6), some (vi x7)] [] G _
  refine v_X4_branches_92 h0 ?_
  refine ⟨hS.o (sP_0 hg), ?_⟩
  rw [lP_0_4 hS hg]
  refine ⟨hS.o (sP_5 hg), ?_⟩
  rw [lP_5_2 hS hg]
  refine ⟨hS.o (sP_6 hg), ?_⟩
  obtain ⟨hi1, h⟩ := h
  refine ⟨by first | (rw [(nP_6 hS hg)]; exact hi1) | exact (congrArg (vp_in _) (nP_6 hS hg)).mpr hi1 | exact hi1, ?_⟩
  refine ⟨fun hc => ?_, fun hc => ?_⟩
  · have h := h.1 hc
    refine ⟨hS.o (s0_20 hS), ?_⟩
    rw [l0_20_0 hS]
    refine ⟨hS.o (s0_2 hS), ?_⟩
    refine wpM.mono (h G A ⟨L, P, rfl, hS⟩) (fun rr2 G2 hr => ?_)
    obtain ⟨A2, W2, w2, ⟨L2, P2, rfl, hS2⟩, hy2, rfl, r2, rfl, h⟩ := hr
    refine ⟨r2, rfl, ?_⟩
    have hx2 := Xt.trans hx hy2
    have hg3 : PG L2 g := PG.up hy2 hg
    have ee4 : A2 0 20 = A 0 20 := hy2.2 _ _ hS.1.1 (((n0_20 hS2)).trans ((n0_20 hS)).symm)
    try rw [← ee4]
    have ee5 : A2 g 0 = A g 0 := hy2.2 _ _ hg.1 (((nP_0 hS2 hg3)).trans ((nP_0 hS hg)).symm)
    try rw [← ee5]
    exact ⟨bz_ok h.1, qx_i hS2 hx2 h.2⟩
  · have h := h.2 hc
    refine ⟨hS.o (s0_20 hS), ?_⟩
    rw [l0_20_0 hS]
    refine ⟨fun hc => ?_, fun hc => ?_⟩
    · have h := h.1 hc
      exact wp.mono (h G A ⟨L, P, rfl, hS⟩) (fun r G' q => qx_trans hx q)
    · have h := h.2 hc
      exact wp.mono (h G A ⟨L, P, rfl, hS⟩) (fun r G' q => qx_trans hx q)
theorem w_X4_branches_123 {E : EE} {d : Nat} {V : VH} {K : Int32 → VH → Prop} {g : Nat} {x2 : Int32} {x3 : Int32} {x4 : Int32} {x5 : Int32} {x6 : Int32} {x7 : Int32} {t1 : Int32} (hg : PG (vL V) g) (h0 : 0 < d) (h : vMI E (d - 1) M_X10_accept [sl 0 2, wi t1] V (fun r1 V1 => (¬ r1 = 0 → vMI E (d - 1) M_X7_moved [sl g 5, wi x3, wi x6, wi x7] V1 (fun r5 V5 => vMI E (d - 1) M_X4_tree [sl 0 20, sl g 0, wi (x2 ||| (1 <<< (x6 &&& 31))), wi r5, wi (x4 + 1)] V5 (fun r9 V9 => (¬ r9 = 0 → vwp E d M_X4_branches 92 [some (sl 0 20), some (sl g 0), some (wi x2), some (wi x3), some (wi x4), some (wi x5), some (wi x6), some (wi (x7 + 1))] [] V9 (zi K)) ∧ (r9 = 0 → K 0 V9)))) ∧ (r1 = 0 → K 0 V1))) : vwp E d M_X4_branches 123 [some (sl 0 20), some (sl g 0), some (wi x2), some (wi x3), some (wi x4), some (wi x5), some (wi x6), some (wi x7)] [wi t1, sl 0 2] V (zi K) := by
  intro G A hR
  obtain ⟨L, P, rfl, hS⟩ := hR
  have hx := Xt.refl (V := pl G A L P) (A := A)
  show wp E d M_X4_branches 123 [some (vr (A 0 20)), some (vr (A g 0)), some (vi x2), some (vi x3), some (vi x4), some (vi x5), some (vi x6), some (vi x7)] [vi t1, vr (A 0 2)] G _
  refine v_X4_branches_123 h0 ?_
  refine ⟨hS.o (s0_2 hS), ?_⟩
  refine wpM.mono (h G A ⟨L, P, rfl, hS⟩) (fun rr1 G1 hr => ?_)
  obtain ⟨A1, W1, w1, ⟨L1, P1, rfl, hS1⟩, hy1, rfl, r1, rfl, h⟩ := hr
  refine ⟨r1, rfl, ?_⟩
  have hx1 := Xt.trans hx hy1
  have hg2 : PG L1 g := PG.up hy1 hg
  have ee3 : A1 0 20 = A 0 20 := hy1.2 _ _ hS.1.1 (((n0_20 hS1)).trans ((n0_20 hS)).symm)
  try rw [← ee3]
  have ee4 : A1 g 0 = A g 0 := hy1.2 _ _ hg.1 (((nP_0 hS1 hg2)).trans ((nP_0 hS hg)).symm)
  try rw [← ee4]
  refine ⟨fun hc => ?_, fun hc => ?_⟩
  · have h := h.1 hc
    refine ⟨hS1.o (sP_0 hg2), ?_⟩
    rw [lP_0_4 hS1 hg2]
    refine ⟨hS1.o (sP_5 hg2), ?_⟩
    refine wpM.mono (h G1 A1 ⟨L1, P1, rfl, hS1⟩) (fun rr5 G5 hr => ?_)
    obtain ⟨A5, W5, w5, ⟨L5, P5, rfl, hS5⟩, hy5, rfl, r5, rfl, h⟩ := hr
    refine ⟨r5, rfl, ?_⟩
    have hx5 := Xt.trans hx1 hy5
    have hg6 : PG L5 g := PG.up hy5 hg2
    have ee7 : A5 0 20 = A1 0 20 := hy5.2 _ _ hS1.1.1 (((n0_20 hS5)).trans ((n0_20 hS1)).symm)
    try rw [← ee7]
    have ee8 : A5 g 0 = A1 g 0 := hy5.2 _ _ hg2.1 (((nP_0 hS5 hg6)).trans ((nP_0 hS1 hg2)).symm)
    try rw [← ee8]
    refine ⟨hS5.o (s0_20 hS5), ?_⟩
    refine wpM.mono (h G5 A5 ⟨L5, P5, rfl, hS5⟩) (fun rr9 G9 hr => ?_)
    obtain ⟨A9, W9, w9, ⟨L9, P9, rfl, hS9⟩, hy9, rfl, r9, rfl, h⟩ := hr
    refine ⟨r9, rfl, ?_⟩
    have hx9 := Xt.trans hx5 hy9
    have hg10 : PG L9 g := PG.up hy9 hg6
    have ee11 : A9 0 20 = A5 0 20 := hy9.2 _ _ hS5.1.1 (((n0_20 hS9)).trans ((n0_20 hS5)).symm)
    try rw [← ee11]
    have ee12 : A9 g 0 = A5 g 0 := hy9.2 _ _ hg6.1 (((nP_0 hS9 hg10)).trans ((nP_0 hS5 hg6)).symm)
    try rw [← ee12]
    refine ⟨fun hc => ?_, fun hc => ?_⟩
    · have h := h.1 hc
      exact wp.mono (h G9 A9 ⟨L9, P9, rfl, hS9⟩) (fun r G' q => qx_trans hx9 q)
    · have h := h.2 hc
      exact qx_i hS9 hx9 h
  · have h := h.2 hc
    exact qx_i hS1 hx1 h
theorem w_X4_ruledOut_0 {E : EE} {d : Nat} {V : VH} {K : Int32 → VH → Prop} {g : Nat} {x2 : Int32} {x3 : Int32} (hg : PG (vL V) g) (h0 : 0 < d) (h : vMV E (d - 1) M_X10_step [sl 0 2] V (fun V1 => ((vI V1 0 2 6) = 2 → vMI E (d - 1) M_X3_lookUp [sl g 0, wj (vJ V1 0 2 7)] V1 (fun r5 V5 => (r5 < 0 → vwp E d M_X4_ruledOut 69 [some (sl 0 20), some (sl g 0), some (wi x2), some (wi x3), some (wi (vI V 0 2 8)), some (wi r5), some (wi (r5 - r5 / 24 * 24)), none, none] [] V5 (zi K)) ∧ (¬ (r5 < 0) → ((r5 / 24) = 2 → (¬ (((vI V5 g 9 0) >>> ((r5 - r5 / 24 * 24) &&& 31)) &&& 1) = 0 → vMI E (d - 1) M_X7_lowest [sl g 5, wi x3, wi x2] V5 (fun r9 V9 => vwp E d M_X4_ruledOut 130 [some (sl 0 20), some (sl g 0), some (wi x2), some (wi x3), some (wi (vI V 0 2 8)), some (wi r5), some (wi (r5 - r5 / 24 * 24)), some (wi r9), some (wi 0)] [] V9 (zi K))) ∧ ((((vI V5 g 9 0) >>> ((r5 - r5 / 24 * 24) &&& 31)) &&& 1) = 0 → vMI E (d - 1) M_X10_fail [sl 0 2, wi 4, wi (vI V5 0 2 8)] V5 (fun r13 V13 => bz r13 ∧ K r13 V13))) ∧ (¬ ((r5 / 24) = 2) → vwp E d M_X4_ruledOut 69 [some (sl 0 20), some (sl g 0), some (wi x2), some (wi x3), some (wi (vI V 0 2 8)), some (wi r5), some (wi (r5 - r5 / 24 * 24)), none, none] [] V5 (zi K))))) ∧ (¬ ((vI V1 0 2 6) = 2) → vMI E (d - 1) M_X10_refuse [sl 0 2] V1 (fun r17 V17 => bz r17 ∧ K r17 V17)))) : vMI E d M_X4_ruledOut [sl 0 20, sl g 0, wi x2, wi x3] V K := by
  intro G A hR
  obtain ⟨L, P, rfl, hS⟩ := hR
  have hx := Xt.refl (V := pl G A L P) (A := A)
  show wpM E d M_X4_ruledOut [vr (A 0 20), vr (A g 0), vi x2, vi x3] G _
  refine wpM_of mk_X4_ruledOut (Nat.le_of_ble_eq_true rfl) ?_
  refine v_X4_ruledOut_0 h0 ?_
  refine ⟨hS.o (s0_20 hS), ?_⟩
  rw [l0_20_0 hS]
  refine ⟨hS.o (s0_2 hS), ?_⟩
  refine wpM.mono (h G A ⟨L, P, rfl, hS⟩) (fun rr1 G1 hr => ?_)
  obtain ⟨A1, W1, w1, ⟨L1, P1, rfl, hS1⟩, hy1, rfl, rfl, h⟩ := hr
  refine ⟨rfl, ?_⟩
  have hx1 := Xt.trans hx hy1
  have hg2 : PG L1 g := PG.up hy1 hg
  have ee3 : A1 0 20 = A 0 20 := hy1.2 _ _ hS.1.1 (((n0_20 hS1)).trans ((n0_20 hS)).symm)
  try rw [← ee3]
  have ee4 : A1 g 0 = A g 0 := hy1.2 _ _ hg.1 (((nP_0 hS1 hg2)).trans ((nP_0 hS hg)).symm)
  try rw [← ee4]
  refine ⟨hS1.o (s0_20 hS1), ?_⟩
  rw [l0_20_0 hS1]
  refine ⟨hS1.o (s0_2 hS1), ?_⟩
  refine ⟨fun hc => ?_, fun hc => ?_⟩
  · have h := h.1 hc
    refine ⟨hS1.o (sP_0 hg2), ?_⟩
    refine wpM.mono (h G1 A1 ⟨L1, P1, rfl, hS1⟩) (fun rr5 G5 hr => ?_)
    obtain ⟨A5, W5, w5, ⟨L5, P5, rfl, hS5⟩, hy5, rfl, r5, rfl, h⟩ := hr
    refine ⟨r5, rfl, ?_⟩
    have hx5 := Xt.trans hx1 hy5
    have hg6 : PG L5 g := PG.up hy5 hg2
    have ee7 : A5 0 20 = A1 0 20 := hy5.2 _ _ hS1.1.1 (((n0_20 hS5)).trans ((n0_20 hS1)).symm)
    try rw [← ee7]
    have ee8 : A5 g 0 = A1 g 0 := hy5.2 _ _ hg2.1 (((nP_0 hS5 hg6)).trans ((nP_0 hS1 hg2)).symm)
    try rw [← ee8]
    refine ⟨fun hc => ?_, fun hc => ?_⟩
    · have h := h.1 hc
      exact wp.mono (h G5 A5 ⟨L5, P5, rfl, hS5⟩) (fun r G' q => qx_trans hx5 q)
    · have h := h.2 hc
      refine ⟨fun hc => ?_, fun hc => ?_⟩
      · have h := h.1 hc
        refine ⟨hS5.o (sP_0 hg6), ?_⟩
        rw [lP_0_5 hS5 hg6]
        refine ⟨hS5.o (sP_9 hg6), ?_⟩
        refine ⟨fun hc => ?_, fun hc => ?_⟩
        · have h := h.1 hc
          rw [lP_0_4 hS5 hg6]
          refine ⟨hS5.o (sP_5 hg6), ?_⟩
          refine wpM.mono (h G5 A5 ⟨L5, P5, rfl, hS5⟩) (fun rr9 G9 hr => ?_)
          obtain ⟨A9, W9, w9, ⟨L9, P9, rfl, hS9⟩, hy9, rfl, r9, rfl, h⟩ := hr
          refine ⟨r9, rfl, ?_⟩
          have hx9 := Xt.trans hx5 hy9
          have hg10 : PG L9 g := PG.up hy9 hg6
          have ee11 : A9 0 20 = A5 0 20 := hy9.2 _ _ hS5.1.1 (((n0_20 hS9)).trans ((n0_20 hS5)).symm)
          try rw [← ee11]
          have ee12 : A9 g 0 = A5 g 0 := hy9.2 _ _ hg6.1 (((nP_0 hS9 hg10)).trans ((nP_0 hS5 hg6)).symm)
          try rw [← ee12]
          exact wp.mono (h G9 A9 ⟨L9, P9, rfl, hS9⟩) (fun r G' q => qx_trans hx9 q)
        · have h := h.2 hc
          refine ⟨hS5.o (s0_20 hS5), ?_⟩
          rw [l0_20_0 hS5]
          refine ⟨hS5.o (s0_2 hS5), ?_⟩
          refine wpM.mono (h G5 A5 ⟨L5, P5, rfl, hS5⟩) (fun rr13 G13 hr => ?_)
          obtain ⟨A13, W13, w13, ⟨L13, P13, rfl, hS13⟩, hy13, rfl, r13, rfl, h⟩ := hr
          refine ⟨r13, rfl, ?_⟩
          have hx13 := Xt.trans hx5 hy13
          have hg14 : PG L13 g := PG.up hy13 hg6
          have ee15 : A13 0 20 = A5 0 20 := hy13.2 _ _ hS5.1.1 (((n0_20 hS13)).trans ((n0_20 hS5)).symm)
          try rw [← ee15]
          have ee16 : A13 g 0 = A5 g 0 := hy13.2 _ _ hg6.1 (((nP_0 hS13 hg14)).trans ((nP_0 hS5 hg6)).symm)
          try rw [← ee16]
          exact ⟨bz_ok h.1, qx_i hS13 hx13 h.2⟩
      · have h := h.2 hc
        exact wp.mono (h G5 A5 ⟨L5, P5, rfl, hS5⟩) (fun r G' q => qx_trans hx5 q)
  · have h := h.2 hc
    refine wpM.mono (h G1 A1 ⟨L1, P1, rfl, hS1⟩) (fun rr17 G17 hr => ?_)
    obtain ⟨A17, W17, w17, ⟨L17, P17, rfl, hS17⟩, hy17, rfl, r17, rfl, h⟩ := hr
    refine ⟨r17, rfl, ?_⟩
    have hx17 := Xt.trans hx1 hy17
    have hg18 : PG L17 g := PG.up hy17 hg2
    have ee19 : A17 0 20 = A1 0 20 := hy17.2 _ _ hS1.1.1 (((n0_20 hS17)).trans ((n0_20 hS1)).symm)
    try rw [← ee19]
    have ee20 : A17 g 0 = A1 g 0 := hy17.2 _ _ hg2.1 (((nP_0 hS17 hg18)).trans ((nP_0 hS1 hg2)).symm)
    try rw [← ee20]
    exact ⟨bz_ok h.1, qx_i hS17 hx17 h.2⟩
theorem w_X4_ruledOut_69 {E : EE} {d : Nat} {V : VH} {K : Int32 → VH → Prop} {g : Nat} {x2 : Int32} {x3 : Int32} {x4 : Int32} {x5 : Int32} {x6 : Int32} (hg : PG (vL V) g) (h0 : 0 < d) (h : vMI E (d - 1) M_X10_fail [sl 0 2, wi 4, wi (vI V 0 2 8)] V (fun r1 V1 => bz r1 ∧ K r1 V1)) : vwp E d M_X4_ruledOut 69 [some (sl 0 20), some (sl g 0), some (wi x2), some (wi x3), some (wi x4), some (wi x5), some (wi x6), none, none] [] V (zi K) := by
  intro G A hR
  obtain ⟨L, P, rfl, hS⟩ := hR
  have hx := Xt.refl (V := pl G A L P) (A := A)
  show wp E d M_X4_ruledOut 69 [some (vr (A 0 20)), some (vr (A g 0)), some (vi x2), some (vi x3), some (vi x4), some (vi x5), some (vi x6), none, none] [] G _
  refine v_X4_ruledOut_69 h0 ?_
  refine ⟨hS.o (s0_20 hS), ?_⟩
  rw [l0_20_0 hS]
  refine ⟨hS.o (s0_2 hS), ?_⟩
  refine wpM.mono (h G A ⟨L, P, rfl, hS⟩) (fun rr1 G1 hr => ?_)
  obtain ⟨A1, W1, w1, ⟨L1, P1, rfl, hS1⟩, hy1, rfl, r1, rfl, h⟩ := hr
  refine ⟨r1, rfl, ?_⟩
  have hx1 := Xt.trans hx hy1
  have hg2 : PG L1 g := PG.up hy1 hg
  have ee3 : A1 0 20 = A 0 20 := hy1.2 _ _ hS.1.1 (((n0_20 hS1)).trans ((n0_20 hS)).symm)
  try rw [← ee3]
  have ee4 : A1 g 0 = A g 0 := hy1.2 _ _ hg.1 (((nP_0 hS1 hg2)).trans ((nP_0 hS hg)).symm)
  try rw [← ee4]
  exact ⟨bz_ok h.1, qx_i hS1 hx1 h.2⟩
theorem w_X4_ruledOut_130 {E : EE} {d : Nat} {V : VH} {K : Int32 → VH → Prop} {g : Nat} {x2 : Int32} {x3 : Int32} {x4 : Int32} {x5 : Int32} {x6 : Int32} {x7 : Int32} {x8 : Int32} (hg : PG (vL V) g) (h0 : 0 < d) (h : ((vI V g 5 1) ≤ x8 → vwp E d M_X4_ruledOut 194 [some (sl 0 20), some (sl g 0), some (wi x2), some (wi x3), some (wi x4), some (wi x5), some (wi x6), some (wi x7), some (wi x8)] [] V (zi K)) ∧ (¬ ((vI V g 5 1) ≤ x8) → (x7 < 0 → vwp E d M_X4_ruledOut 194 [some (sl 0 20), some (sl g 0), some (wi x2), some (wi x3), some (wi x4), some (wi x5), some (wi x6), some (wi x7), some (wi x8)] [] V (zi K)) ∧ (¬ (x7 < 0) → vMI E (d - 1) M_X9_setOf [sl g 19, wi x7] V (fun r1 V1 => (¬ ((r1 >>> (x6 &&& 31)) &&& 1) = 0 → vMI E (d - 1) M_X7_following [sl g 5, wi x7, wi x2] V1 (fun r5 V5 => vwp E d M_X4_ruledOut 130 [some (sl 0 20), some (sl g 0), some (wi x2), some (wi x3), some (wi x4), some (wi x5), some (wi x6), some (wi r5), some (wi (x8 + 1))] [] V5 (zi K))) ∧ (((r1 >>> (x6 &&& 31)) &&& 1) = 0 → vMI E (d - 1) M_X10_fail [sl 0 2, wi 8, wi x4] V1 (fun r9 V9 => bz r9 ∧ K r9 V9)))))) : vwp E d M_X4_ruledOut 130 [some (sl 0 20), some (sl g 0), some (wi x2), some (wi x3), some (wi x4), some (wi x5), some (wi x6), some (wi x7), some (wi x8)] [] V (zi K) := by
  intro G A hR
  obtain ⟨L, P, rfl, hS⟩ := hR
  have hx := Xt.refl (V := pl G A L P) (A := A)
  show wp E d M_X4_ruledOut 130 [some (vr (A 0 20)), some (vr (A g 0)), some (vi x2), some (vi x3), some (vi x4), some (vi x5), some (vi x6), some (vi x7), some (vi x8)] [] G _
  refine v_X4_ruledOut_130 h0 ?_
  refine ⟨hS.o (sP_0 hg), ?_⟩
  rw [lP_0_4 hS hg]
  refine ⟨hS.o (sP_5 hg), ?_⟩
  refine ⟨fun hc => ?_, fun hc => ?_⟩
  · have h := h.1 hc
    exact wp.mono (h G A ⟨L, P, rfl, hS⟩) (fun r G' q => qx_trans hx q)
  · have h := h.2 hc
    refine ⟨fun hc => ?_, fun hc => ?_⟩
    · have h := h.1 hc
      exact wp.mono (h G A ⟨L, P, rfl, hS⟩) (fun r G' q => qx_trans hx q)
    · have h := h.2 hc
      rw [lP_0_6 hS hg]
      refine ⟨hS.o (sP_19 hg), ?_⟩
      refine wpM.mono (h G A ⟨L, P, rfl, hS⟩) (fun rr1 G1 hr => ?_)
      obtain ⟨A1, W1, w1, ⟨L1, P1, rfl, hS1⟩, hy1, rfl, r1, rfl, h⟩ := hr
      refine ⟨r1, rfl, ?_⟩
      have hx1 := Xt.trans hx hy1
      have hg2 : PG L1 g := PG.up hy1 hg
      have ee3 : A1 0 20 = A 0 20 := hy1.2 _ _ hS.1.1 (((n0_20 hS1)).trans ((n0_20 hS)).symm)
      try rw [← ee3]
      have ee4 : A1 g 0 = A g 0 := hy1.2 _ _ hg.1 (((nP_0 hS1 hg2)).trans ((nP_0 hS hg)).symm)
      try rw [← ee4]
      refine ⟨fun hc => ?_, fun hc => ?_⟩
      · have h := h.1 hc
        refine ⟨hS1.o (sP_0 hg2), ?_⟩
        rw [lP_0_4 hS1 hg2]
        refine ⟨hS1.o (sP_5 hg2), ?_⟩
        refine wpM.mono (h G1 A1 ⟨L1, P1, rfl, hS1⟩) (fun rr5 G5 hr => ?_)
        obtain ⟨A5, W5, w5, ⟨L5, P5, rfl, hS5⟩, hy5, rfl, r5, rfl, h⟩ := hr
        refine ⟨r5, rfl, ?_⟩
        have hx5 := Xt.trans hx1 hy5
        have hg6 : PG L5 g := PG.up hy5 hg2
        have ee7 : A5 0 20 = A1 0 20 := hy5.2 _ _ hS1.1.1 (((n0_20 hS5)).trans ((n0_20 hS1)).symm)
        try rw [← ee7]
        have ee8 : A5 g 0 = A1 g 0 := hy5.2 _ _ hg2.1 (((nP_0 hS5 hg6)).trans ((nP_0 hS1 hg2)).symm)
        try rw [← ee8]
        exact wp.mono (h G5 A5 ⟨L5, P5, rfl, hS5⟩) (fun r G' q => qx_trans hx5 q)
      · have h := h.2 hc
        refine ⟨hS1.o (s0_20 hS1), ?_⟩
        rw [l0_20_0 hS1]
        refine ⟨hS1.o (s0_2 hS1), ?_⟩
        refine wpM.mono (h G1 A1 ⟨L1, P1, rfl, hS1⟩) (fun rr9 G9 hr => ?_)
        obtain ⟨A9, W9, w9, ⟨L9, P9, rfl, hS9⟩, hy9, rfl, r9, rfl, h⟩ := hr
        refine ⟨r9, rfl, ?_⟩
        have hx9 := Xt.trans hx1 hy9
        have hg10 : PG L9 g := PG.up hy9 hg2
        have ee11 : A9 0 20 = A1 0 20 := hy9.2 _ _ hS1.1.1 (((n0_20 hS9)).trans ((n0_20 hS1)).symm)
        try rw [← ee11]
        have ee12 : A9 g 0 = A1 g 0 := hy9.2 _ _ hg2.1 (((nP_0 hS9 hg10)).trans ((nP_0 hS1 hg2)).symm)
        try rw [← ee12]
        exact ⟨bz_ok h.1, qx_i hS9 hx9 h.2⟩
theorem w_X4_ruledOut_194 {E : EE} {d : Nat} {V : VH} {K : Int32 → VH → Prop} {g : Nat} {x2 : Int32} {x3 : Int32} {x4 : Int32} {x5 : Int32} {x6 : Int32} {x7 : Int32} {x8 : Int32} (hg : PG (vL V) g) (h0 : 0 < d) (h : vMV E (d - 1) M_X10_step [sl 0 2] V (fun V1 => K 1 V1)) : vwp E d M_X4_ruledOut 194 [some (sl 0 20), some (sl g 0), some (wi x2), some (wi x3), some (wi x4), some (wi x5), some (wi x6), some (wi x7), some (wi x8)] [] V (zi K) := by
  intro G A hR
  obtain ⟨L, P, rfl, hS⟩ := hR
  have hx := Xt.refl (V := pl G A L P) (A := A)
  show wp E d M_X4_ruledOut 194 [some (vr (A 0 20)), some (vr (A g 0)), some (vi x2), some (vi x3), some (vi x4), some (vi x5), some (vi x6), some (vi x7), some (vi x8)] [] G _
  refine v_X4_ruledOut_194 h0 ?_
  refine ⟨hS.o (s0_20 hS), ?_⟩
  rw [l0_20_0 hS]
  refine ⟨hS.o (s0_2 hS), ?_⟩
  refine wpM.mono (h G A ⟨L, P, rfl, hS⟩) (fun rr1 G1 hr => ?_)
  obtain ⟨A1, W1, w1, ⟨L1, P1, rfl, hS1⟩, hy1, rfl, rfl, h⟩ := hr
  refine ⟨rfl, ?_⟩
  have hx1 := Xt.trans hx hy1
  have hg2 : PG L1 g := PG.up hy1 hg
  have ee3 : A1 0 20 = A 0 20 := hy1.2 _ _ hS.1.1 (((n0_20 hS1)).trans ((n0_20 hS)).symm)
  try rw [← ee3]
  have ee4 : A1 g 0 = A g 0 := hy1.2 _ _ hg.1 (((nP_0 hS1 hg2)).trans ((nP_0 hS hg)).symm)
  try rw [← ee4]
  exact qx_i hS1 hx1 h
theorem w_X4_isNoGain_0 {E : EE} {d : Nat} {V : VH} {K : Int32 → VH → Prop} {g : Nat} {x1 : Int32} {x2 : Int32} (hg : PG (vL V) g) (h0 : 0 < d) (h : (x1 = ((1 <<< ((vI V g 5 0) &&& 31)) - 1) → vMI E (d - 1) M_X9_setOf [sl g 19, wi x2] V (fun r1 V1 => (¬ (r1 &&& (vI V1 g 9 0)) = 0 → vwp E d M_X4_isNoGain 51 [some (sl g 0), some (wi x1), some (wi x2)] [] V1 (zi K)) ∧ ((r1 &&& (vI V1 g 9 0)) = 0 → vMI E (d - 1) M_X9_isBetter [sl g 19, wi x2, wi (vI V1 g 0 8)] V1 (fun r4 V4 => (¬ r4 = 0 → K 0 V4) ∧ (r4 = 0 → vwp E d M_X4_isNoGain 51 [some (sl g 0), some (wi x1), some (wi x2)] [] V4 (zi K)))))) ∧ (¬ (x1 = ((1 <<< ((vI V g 5 0) &&& 31)) - 1)) → K 0 V)) : vMI E d M_X4_isNoGain [sl g 0, wi x1, wi x2] V K := by
  intro G A hR
  obtain ⟨L, P, rfl, hS⟩ := hR
  have hx := Xt.refl (V := pl G A L P) (A := A)
  show wpM E d M_X4_isNoGain [vr (A g 0), vi x1, vi x2] G _
  refine wpM_of mk_X4_isNoGain (Nat.le_of_ble_eq_true rfl) ?_
  refine v_X4_isNoGain_0 h0 ?_
  refine ⟨hS.o (sP_0 hg), ?_⟩
  rw [lP_0_4 hS hg]
  refine ⟨hS.o (sP_5 hg), ?_⟩
  refine ⟨fun hc => ?_, fun hc => ?_⟩
  · have h := h.1 hc
    rw [lP_0_6 hS hg]
    refine ⟨hS.o (sP_19 hg), ?_⟩
    refine wpM.mono (h G A ⟨L, P, rfl, hS⟩) (fun rr1 G1 hr => ?_)
    obtain ⟨A1, W1, w1, ⟨L1, P1, rfl, hS1⟩, hy1, rfl, r1, rfl, h⟩ := hr
    refine ⟨r1, rfl, ?_⟩
    have hx1 := Xt.trans hx hy1
    have hg2 : PG L1 g := PG.up hy1 hg
    have ee3 : A1 g 0 = A g 0 := hy1.2 _ _ hg.1 (((nP_0 hS1 hg2)).trans ((nP_0 hS hg)).symm)
    try rw [← ee3]
    refine ⟨hS1.o (sP_0 hg2), ?_⟩
    rw [lP_0_5 hS1 hg2]
    refine ⟨hS1.o (sP_9 hg2), ?_⟩
    refine ⟨fun hc => ?_, fun hc => ?_⟩
    · have h := h.1 hc
      exact wp.mono (h G1 A1 ⟨L1, P1, rfl, hS1⟩) (fun r G' q => qx_trans hx1 q)
    · have h := h.2 hc
      rw [lP_0_6 hS1 hg2]
      refine ⟨hS1.o (sP_19 hg2), ?_⟩
      refine wpM.mono (h G1 A1 ⟨L1, P1, rfl, hS1⟩) (fun rr4 G4 hr => ?_)
      obtain ⟨A4, W4, w4, ⟨L4, P4, rfl, hS4⟩, hy4, rfl, r4, rfl, h⟩ := hr
      refine ⟨r4, rfl, ?_⟩
      have hx4 := Xt.trans hx1 hy4
      have hg5 : PG L4 g := PG.up hy4 hg2
      have ee6 : A4 g 0 = A1 g 0 := hy4.2 _ _ hg2.1 (((nP_0 hS4 hg5)).trans ((nP_0 hS1 hg2)).symm)
      try rw [← ee6]
      refine ⟨fun hc => ?_, fun hc => ?_⟩
      · have h := h.1 hc
        exact qx_i hS4 hx4 h
      · have h := h.2 hc
        exact wp.mono (h G4 A4 ⟨L4, P4, rfl, hS4⟩) (fun r G' q => qx_trans hx4 q)
  · have h := h.2 hc
    exact qx_i hS hx h
theorem w_X4_isNoGain_51 {E : EE} {d : Nat} {V : VH} {K : Int32 → VH → Prop} {g : Nat} {x1 : Int32} {x2 : Int32} (hg : PG (vL V) g) (h : K 1 V) : vwp E d M_X4_isNoGain 51 [some (sl g 0), some (wi x1), some (wi x2)] [] V (zi K) := by
  intro G A hR
  obtain ⟨L, P, rfl, hS⟩ := hR
  have hx := Xt.refl (V := pl G A L P) (A := A)
  show wp E d M_X4_isNoGain 51 [some (vr (A g 0)), some (vi x1), some (vi x2)] [] G _
  refine v_X4_isNoGain_51 ?_
  exact qx_i hS hx h
theorem w_X4_isBounded_0 {E : EE} {d : Nat} {V : VH} {K : Int32 → VH → Prop} {g : Nat} {x2 : Int32} {x3 : Int32} (hg : PG (vL V) g) (h0 : 0 < d) (h : vMV E (d - 1) M_J7_fill_53178 [sl 0 21, wi 2147483647] V (fun V1 => vMI E (d - 1) M_X7_lowest [sl g 5, wi x3, wi x2] V1 (fun r5 V5 => vwp E d M_X4_isBounded 23 [some (sl 0 20), some (sl g 0), some (wi x2), some (wi x3), some (wi r5), some (wi 0), none, none] [] V5 (zi K)))) : vMI E d M_X4_isBounded [sl 0 20, sl g 0, wi x2, wi x3] V K := by
  intro G A hR
  obtain ⟨L, P, rfl, hS⟩ := hR
  have hx := Xt.refl (V := pl G A L P) (A := A)
  show wpM E d M_X4_isBounded [vr (A 0 20), vr (A g 0), vi x2, vi x3] G _
  refine wpM_of mk_X4_isBounded (Nat.le_of_ble_eq_true rfl) ?_
  refine v_X4_isBounded_0 h0 ?_
  refine ⟨hS.o (s0_20 hS), ?_⟩
  rw [l0_20_1 hS]
  refine wpM.mono (h G A ⟨L, P, rfl, hS⟩) (fun rr1 G1 hr => ?_)
  obtain ⟨A1, W1, w1, ⟨L1, P1, rfl, hS1⟩, hy1, rfl, rfl, h⟩ := hr
  refine ⟨rfl, ?_⟩
  have hx1 := Xt.trans hx hy1
  have hg2 : PG L1 g := PG.up hy1 hg
  have ee3 : A1 0 20 = A 0 20 := hy1.2 _ _ hS.1.1 (((n0_20 hS1)).trans ((n0_20 hS)).symm)
  try rw [← ee3]
  have ee4 : A1 g 0 = A g 0 := hy1.2 _ _ hg.1 (((nP_0 hS1 hg2)).trans ((nP_0 hS hg)).symm)
  try rw [← ee4]
  refine ⟨hS1.o (sP_0 hg2), ?_⟩
  rw [lP_0_4 hS1 hg2]
  refine ⟨hS1.o (sP_5 hg2), ?_⟩
  refine wpM.mono (h G1 A1 ⟨L1, P1, rfl, hS1⟩) (fun rr5 G5 hr => ?_)
  obtain ⟨A5, W5, w5, ⟨L5, P5, rfl, hS5⟩, hy5, rfl, r5, rfl, h⟩ := hr
  refine ⟨r5, rfl, ?_⟩
  have hx5 := Xt.trans hx1 hy5
  have hg6 : PG L5 g := PG.up hy5 hg2
  have ee7 : A5 0 20 = A1 0 20 := hy5.2 _ _ hS1.1.1 (((n0_20 hS5)).trans ((n0_20 hS1)).symm)
  try rw [← ee7]
  have ee8 : A5 g 0 = A1 g 0 := hy5.2 _ _ hg2.1 (((nP_0 hS5 hg6)).trans ((nP_0 hS1 hg2)).symm)
  try rw [← ee8]
  exact wp.mono (h G5 A5 ⟨L5, P5, rfl, hS5⟩) (fun r G' q => qx_trans hx5 q)
theorem w_X4_isBounded_23 {E : EE} {d : Nat} {V : VH} {K : Int32 → VH → Prop} {g : Nat} {x2 : Int32} {x3 : Int32} {x4 : Int32} {x5 : Int32} (hg : PG (vL V) g) (h0 : 0 < d) (h : ((vI V g 5 1) ≤ x5 → vwp E d M_X4_isBounded 132 [some (sl 0 20), some (sl g 0), some (wi x2), some (wi x3), some (wi x4), some (wi x5), none, none] [] V (zi K)) ∧ (¬ ((vI V g 5 1) ≤ x5) → (x4 < 0 → vwp E d M_X4_isBounded 132 [some (sl 0 20), some (sl g 0), some (wi x2), some (wi x3), some (wi x4), some (wi x5), none, none] [] V (zi K)) ∧ (¬ (x4 < 0) → vMV E (d - 1) M_X2_look [sl g 9, sl g 5, wi x4] V (fun V1 => vwp E d M_X4_isBounded 56 [some (sl 0 20), some (sl g 0), some (wi x2), some (wi x3), some (wi x4), some (wi x5), some (wi 0), none] [] V1 (zi K))))) : vwp E d M_X4_isBounded 23 [some (sl 0 20), some (sl g 0), some (wi x2), some (wi x3), some (wi x4), some (wi x5), none, none] [] V (zi K) := by
  intro G A hR
  obtain ⟨L, P, rfl, hS⟩ := hR
  have hx := Xt.refl (V := pl G A L P) (A := A)
  show wp E d M_X4_isBounded 23 [some (vr (A 0 20)), some (vr (A g 0)), some (vi x2), some (vi x3), some (vi x4), some (vi x5), none, none] [] G _
  refine v_X4_isBounded_23 h0 ?_
  refine ⟨hS.o (sP_0 hg), ?_⟩
  rw [lP_0_4 hS hg]
  refine ⟨hS.o (sP_5 hg), ?_⟩
  refine ⟨fun hc => ?_, fun hc => ?_⟩
  · have h := h.1 hc
    exact wp.mono (h G A ⟨L, P, rfl, hS⟩) (fun r G' q => qx_trans hx q)
  · have h := h.2 hc
    refine ⟨fun hc => ?_, fun hc => ?_⟩
    · have h := h.1 hc
      exact wp.mono (h G A ⟨L, P, rfl, hS⟩) (fun r G' q => qx_trans hx q)
    · have h := h.2 hc
      rw [lP_0_5 hS hg]
      refine ⟨hS.o (sP_9 hg), ?_⟩
      refine wpM.mono (h G A ⟨L, P, rfl, hS⟩) (fun rr1 G1 hr => ?_)
      obtain ⟨A1, W1, w1, ⟨L1, P1, rfl, hS1⟩, hy1, rfl, rfl, h⟩ := hr
      refine ⟨rfl, ?_⟩
      have hx1 := Xt.trans hx hy1
      have hg2 : PG L1 g := PG.up hy1 hg
      have ee3 : A1 0 20 = A 0 20 := hy1.2 _ _ hS.1.1 (((n0_20 hS1)).trans ((n0_20 hS)).symm)
      try rw [← ee3]
      have ee4 : A1 g 0 = A g 0 := hy1.2 _ _ hg.1 (((nP_0 hS1 hg2)).trans ((nP_0 hS hg)).symm)
      try rw [← ee4]
      exact wp.mono (h G1 A1 ⟨L1, P1, rfl, hS1⟩) (fun r G' q => qx_trans hx1 q)
theorem w_X4_isBounded_56 {E : EE} {d : Nat} {V : VH} {K : Int32 → VH → Prop} {g : Nat} {x2 : Int32} {x3 : Int32} {x4 : Int32} {x5 : Int32} {x6 : Int32} (hg : PG (vL V) g) (h0 : 0 < d) (h : ((nI 30) ≤ x6 → vMI E (d - 1) M_X7_following [sl g 5, wi x4, wi x2] V (fun r1 V1 => vwp E d M_X4_isBounded 23 [some (sl 0 20), some (sl g 0), some (wi x2), some (wi x3), some (wi r1), some (wi (x5 + 1)), none, none] [] V1 (zi K))) ∧ (¬ ((nI 30) ≤ x6) → vMI E (d - 1) M_X2_isPart [sl g 9, wi x6] V (fun r5 V5 => (r5 = 0 → vwp E d M_X4_isBounded 108 [some (sl 0 20), some (sl g 0), some (wi x2), some (wi x3), some (wi x4), some (wi x5), some (wi x6), none] [] V5 (zi K)) ∧ (¬ (r5 = 0) → vp_in x6 30 ∧ (vMI E (d - 1) M_X2_run [sl g 9, wi x6, sl g 23] V5 (fun r10 V10 => vp_in x6 30 ∧ (∀ V16 : VH, V16 = wrI V10 0 21 (Int32.toNatClampNeg x6) (imin (vI V5 0 21 (Int32.toNatClampNeg x6)) r10) → vwp E d M_X4_isBounded 108 [some (sl 0 20), some (sl g 0), some (wi x2), some (wi x3), some (wi x4), some (wi x5), some (wi x6), none] [] V16 (zi K)))))))) : vwp E d M_X4_isBounded 56 [some (sl 0 20), some (sl g 0), some (wi x2), some (wi x3), some (wi x4), some (wi x5), some (wi x6), none] [] V (zi K) := by
  intro G A hR
  obtain ⟨L, P, rfl, hS⟩ := hR
  have hx := Xt.refl (V := pl G A L P) (A := A)
  show wp E d M_X4_isBounded 56 [some (vr (A 0 20)), some (vr (A g 0)), some (vi x2), some (vi x3), some (vi x4), some (vi x5), some (vi x6), none] [] G _
  refine v_X4_isBounded_56 h0 ?_
  refine ⟨hS.o (s0_20 hS), ?_⟩
  rw [l0_20_1 hS]
  refine ⟨hS.o (s0_21 hS), ?_⟩
  rw [(n0_21 hS)]
  refine ⟨fun hc => ?_, fun hc => ?_⟩
  · have h := h.1 hc
    refine ⟨hS.o (sP_0 hg), ?_⟩
    rw [lP_0_4 hS hg]
    refine ⟨hS.o (sP_5 hg), ?_⟩
    refine wpM.mono (h G A ⟨L, P, rfl, hS⟩) (fun rr1 G1 hr => ?_)
    obtain ⟨A1, W1, w1, ⟨L1, P1, rfl, hS1⟩, hy1, rfl, r1, rfl, h⟩ := hr
    refine ⟨r1, rfl, ?_⟩
    have hx1 := Xt.trans hx hy1
    have hg2 : PG L1 g := PG.up hy1 hg
    have ee3 : A1 0 20 = A 0 20 := hy1.2 _ _ hS.1.1 (((n0_20 hS1)).trans ((n0_20 hS)).symm)
    try rw [← ee3]
    have ee4 : A1 g 0 = A g 0 := hy1.2 _ _ hg.1 (((nP_0 hS1 hg2)).trans ((nP_0 hS hg)).symm)
    try rw [← ee4]
    exact wp.mono (h G1 A1 ⟨L1, P1, rfl, hS1⟩) (fun r G' q => qx_trans hx1 q)
  · have h := h.2 hc
    refine ⟨hS.o (sP_0 hg), ?_⟩
    rw [lP_0_5 hS hg]
    refine ⟨hS.o (sP_9 hg), ?_⟩
    refine wpM.mono (h G A ⟨L, P, rfl, hS⟩) (fun rr5 G5 hr => ?_)
    obtain ⟨A5, W5, w5, ⟨L5, P5, rfl, hS5⟩, hy5, rfl, r5, rfl, h⟩ := hr
    refine ⟨r5, rfl, ?_⟩
    have hx5 := Xt.trans hx hy5
    have hg6 : PG L5 g := PG.up hy5 hg
    have ee7 : A5 0 20 = A 0 20 := hy5.2 _ _ hS.1.1 (((n0_20 hS5)).trans ((n0_20 hS)).symm)
    try rw [← ee7]
    have ee8 : A5 g 0 = A g 0 := hy5.2 _ _ hg.1 (((nP_0 hS5 hg6)).trans ((nP_0 hS hg)).symm)
    try rw [← ee8]
    refine ⟨fun hc => ?_, fun hc => ?_⟩
    · have h := h.1 hc
      exact wp.mono (h G5 A5 ⟨L5, P5, rfl, hS5⟩) (fun r G' q => qx_trans hx5 q)
    · have h := h.2 hc
      refine ⟨hS5.o (s0_20 hS5), ?_⟩
      rw [l0_20_1 hS5]
      refine ⟨hS5.o (s0_21 hS5), ?_⟩
      obtain ⟨hi9, h⟩ := h
      refine ⟨by first | (rw [(n0_21 hS5)]; exact hi9) | exact (congrArg (vp_in _) (n0_21 hS5)).mpr hi9 | exact hi9, ?_⟩
      refine ⟨hS5.o (sP_0 hg6), ?_⟩
      rw [lP_0_5 hS5 hg6]
      rw [lP_0_7 hS5 hg6]
      refine ⟨hS5.o (sP_9 hg6), ?_⟩
      refine wpM.mono (h G5 A5 ⟨L5, P5, rfl, hS5⟩) (fun rr10 G10 hr => ?_)
      obtain ⟨A10, W10, w10, ⟨L10, P10, rfl, hS10⟩, hy10, rfl, r10, rfl, h⟩ := hr
      refine ⟨r10, rfl, ?_⟩
      have hx10 := Xt.trans hx5 hy10
      have hg11 : PG L10 g := PG.up hy10 hg6
      have ee12 : A10 0 20 = A5 0 20 := hy10.2 _ _ hS5.1.1 (((n0_20 hS10)).trans ((n0_20 hS5)).symm)
      try rw [← ee12]
      have ee13 : A10 0 21 = A5 0 21 := hy10.2 _ _ hS5.1.1 (((n0_21 hS10)).trans ((n0_21 hS5)).symm)
      try rw [← ee13]
      have ee14 : A10 g 0 = A5 g 0 := hy10.2 _ _ hg6.1 (((nP_0 hS10 hg11)).trans ((nP_0 hS5 hg6)).symm)
      try rw [← ee14]
      try rw [show gI G5 (A10 0 21) = gI G5 (A5 0 21) from by rw [ee13]]
      refine ⟨hS10.o (s0_21 hS10), ?_⟩
      obtain ⟨hi15, h⟩ := h
      refine ⟨by first | (rw [(n0_21 hS10)]; exact hi15) | exact (congrArg (vp_in _) (n0_21 hS10)).mpr hi15 | exact hi15, ?_⟩
      have hS16 : Sh E (sI G10 (A10 0 21) (Int32.toNatClampNeg x6) (imin (gI G5 (A5 0 21) (Int32.toNatClampNeg x6)) r10)) A10 L10 P10 := Sh_sI (rfl : sI G10 (A10 0 21) (Int32.toNatClampNeg x6) (imin (gI G5 (A5 0 21) (Int32.toNatClampNeg x6)) r10) = sI G10 (A10 0 21) (Int32.toNatClampNeg x6) (imin (gI G5 (A5 0 21) (Int32.toNatClampNeg x6)) r10)) hS10 (s0_21 hS10) (okT_0 rfl)
      have h := h (pl (sI G10 (A10 0 21) (Int32.toNatClampNeg x6) (imin (gI G5 (A5 0 21) (Int32.toNatClampNeg x6)) r10)) A10 L10 P10) (pl_sI (rfl : sI G10 (A10 0 21) (Int32.toNatClampNeg x6) (imin (gI G5 (A5 0 21) (Int32.toNatClampNeg x6)) r10) = sI G10 (A10 0 21) (Int32.toNatClampNeg x6) (imin (gI G5 (A5 0 21) (Int32.toNatClampNeg x6)) r10)) hS10 (s0_21 hS10))
      have hx16 : Xt (pl G A L P) A (pl (sI G10 (A10 0 21) (Int32.toNatClampNeg x6) (imin (gI G5 (A5 0 21) (Int32.toNatClampNeg x6)) r10)) A10 L10 P10) A10 := Xt_sI (rfl : sI G10 (A10 0 21) (Int32.toNatClampNeg x6) (imin (gI G5 (A5 0 21) (Int32.toNatClampNeg x6)) r10) = sI G10 (A10 0 21) (Int32.toNatClampNeg x6) (imin (gI G5 (A5 0 21) (Int32.toNatClampNeg x6)) r10)) hx10
      exact wp.mono (h (sI G10 (A10 0 21) (Int32.toNatClampNeg x6) (imin (gI G5 (A5 0 21) (Int32.toNatClampNeg x6)) r10)) A10 ⟨L10, P10, rfl, hS16⟩) (fun r G' q => qx_trans hx16 q)
theorem w_X4_isBounded_108 {E : EE} {d : Nat} {V : VH} {K : Int32 → VH → Prop} {g : Nat} {x2 : Int32} {x3 : Int32} {x4 : Int32} {x5 : Int32} {x6 : Int32} (hg : PG (vL V) g) (h : vwp E d M_X4_isBounded 56 [some (sl 0 20), some (sl g 0), some (wi x2), some (wi x3), some (wi x4), some (wi x5), some (wi (x6 + 1)), none] [] V (zi K)) : vwp E d M_X4_isBounded 108 [some (sl 0 20), some (sl g 0), some (wi x2), some (wi x3), some (wi x4), some (wi x5), some (wi x6), none] [] V (zi K) := by
  intro G A hR
  obtain ⟨L, P, rfl, hS⟩ := hR
  have hx := Xt.refl (V := pl G A L P) (A := A)
  show wp E d M_X4_isBounded 108 [some (vr (A 0 20)), some (vr (A g 0)), some (vi x2), some (vi x3), some (vi x4), some (vi x5), some (vi x6), none] [] G _
  refine v_X4_isBounded_108 ?_
  exact wp.mono (h G A ⟨L, P, rfl, hS⟩) (fun r G' q => qx_trans hx q)
theorem w_X4_isBounded_132 {E : EE} {d : Nat} {V : VH} {K : Int32 → VH → Prop} {g : Nat} {x2 : Int32} {x3 : Int32} {x4 : Int32} {x5 : Int32} (hg : PG (vL V) g) (h0 : 0 < d) (h : vMV E (d - 1) M_J7_fill_d0a16 [sl 0 22, wj 0] V (fun V1 => vwp E d M_X4_isBounded 143 [some (sl 0 20), some (sl g 0), some (wi x2), some (wi x3), some (wi x4), some (wi 0), none, none] [] V1 (zi K))) : vwp E d M_X4_isBounded 132 [some (sl 0 20), some (sl g 0), some (wi x2), some (wi x3), some (wi x4), some (wi x5), none, none] [] V (zi K) := by
  intro G A hR
  obtain ⟨L, P, rfl, hS⟩ := hR
  have hx := Xt.refl (V := pl G A L P) (A := A)
  show wp E d M_X4_isBounded 132 [some (vr (A 0 20)), some (vr (A g 0)), some (vi x2), some (vi x3), some (vi x4), some (vi x5), none, none] [] G _
  refine v_X4_isBounded_132 h0 ?_
  refine ⟨hS.o (s0_20 hS), ?_⟩
  rw [l0_20_2 hS]
  refine wpM.mono (h G A ⟨L, P, rfl, hS⟩) (fun rr1 G1 hr => ?_)
  obtain ⟨A1, W1, w1, ⟨L1, P1, rfl, hS1⟩, hy1, rfl, rfl, h⟩ := hr
  refine ⟨rfl, ?_⟩
  have hx1 := Xt.trans hx hy1
  have hg2 : PG L1 g := PG.up hy1 hg
  have ee3 : A1 0 20 = A 0 20 := hy1.2 _ _ hS.1.1 (((n0_20 hS1)).trans ((n0_20 hS)).symm)
  try rw [← ee3]
  have ee4 : A1 g 0 = A g 0 := hy1.2 _ _ hg.1 (((nP_0 hS1 hg2)).trans ((nP_0 hS hg)).symm)
  try rw [← ee4]
  exact wp.mono (h G1 A1 ⟨L1, P1, rfl, hS1⟩) (fun r G' q => qx_trans hx1 q)
theorem w_X4_isBounded_143 {E : EE} {d : Nat} {V : VH} {K : Int32 → VH → Prop} {g : Nat} {x2 : Int32} {x3 : Int32} {x4 : Int32} {x5 : Int32} (hg : PG (vL V) g) (h0 : 0 < d) (h : ((nI 30) ≤ x5 → vwp E d M_X4_isBounded 223 [some (sl 0 20), some (sl g 0), some (wi x2), some (wi x3), some (wi x4), some (wi 0), none, none] [] V (zi K)) ∧ (¬ ((nI 30) ≤ x5) → vMI E (d - 1) M_X2_isPart [sl g 9, wi x5] V (fun r1 V1 => (r1 = 0 → vwp E d M_X4_isBounded 214 [some (sl 0 20), some (sl g 0), some (wi x2), some (wi x3), some (wi x4), some (wi x5), none, none] [] V1 (zi K)) ∧ (¬ (r1 = 0) → vp_in x5 30 ∧ (vp_in (vI V1 g 10 (Int32.toNatClampNeg x5)) 3 ∧ (vp_in x5 30 ∧ ((24 ≤ x5 → vwp E d M_X4_isBounded 210 [some (sl 0 20), some (sl g 0), some (wi x2), some (wi x3), some (wi x4), some (wi x5), none, none] [wi 1, wj (Int32.toInt64 (vI V1 0 21 (Int32.toNatClampNeg x5))), wj (vJ V1 0 22 (Int32.toNatClampNeg (vI V1 g 10 (Int32.toNatClampNeg x5)))), wi (vI V1 g 10 (Int32.toNatClampNeg x5)), sl 0 22] V1 (zi K)) ∧ (¬ (24 ≤ x5) → vp_in x5 24 ∧ (vwp E d M_X4_isBounded 210 [some (sl 0 20), some (sl g 0), some (wi x2), some (wi x3), some (wi x4), some (wi x5), none, none] [wi (vI V1 g 11 (Int32.toNatClampNeg x5)), wj (Int32.toInt64 (vI V1 0 21 (Int32.toNatClampNeg x5))), wj (vJ V1 0 22 (Int32.toNatClampNeg (vI V1 g 10 (Int32.toNatClampNeg x5)))), wi (vI V1 g 10 (Int32.toNatClampNeg x5)), sl 0 22] V1 (zi K)))))))))) : vwp E d M_X4_isBounded 143 [some (sl 0 20), some (sl g 0), some (wi x2), some (wi x3), some (wi x4), some (wi x5), none, none] [] V (zi K) := by
  intro G A hR
  obtain ⟨L, P, rfl, hS⟩ := hR
  have hx := Xt.refl (V := pl G A L P) (A := A)
  show wp E d M_X4_isBounded 143 [some (vr (A 0 20)), some (vr (A g 0)), some (vi x2), some (vi x3), some (vi x4), some (vi x5), none, none] [] G _
  refine v_X4_isBounded_143 h0 ?_
  refine ⟨hS.o (s0_20 hS), ?_⟩
  rw [l0_20_1 hS]
  refine ⟨hS.o (s0_21 hS), ?_⟩
  rw [(n0_21 hS)]
  refine ⟨fun hc => ?_, fun hc => ?_⟩
  · have h := h.1 hc
    exact wp.mono (h G A ⟨L, P, rfl, hS⟩) (fun r G' q => qx_trans hx q)
  · have h := h.2 hc
    refine ⟨hS.o (sP_0 hg), ?_⟩
    rw [lP_0_5 hS hg]
    refine ⟨hS.o (sP_9 hg), ?_⟩
    refine wpM.mono (h G A ⟨L, P, rfl, hS⟩) (fun rr1 G1 hr => ?_)
    obtain ⟨A1, W1, w1, ⟨L1, P1, rfl, hS1⟩, hy1, rfl, r1, rfl, h⟩ := hr
    refine ⟨r1, rfl, ?_⟩
    have hx1 := Xt.trans hx hy1
    have hg2 : PG L1 g := PG.up hy1 hg
    have ee3 : A1 0 20 = A 0 20 := hy1.2 _ _ hS.1.1 (((n0_20 hS1)).trans ((n0_20 hS)).symm)
    try rw [← ee3]
    have ee4 : A1 g 0 = A g 0 := hy1.2 _ _ hg.1 (((nP_0 hS1 hg2)).trans ((nP_0 hS hg)).symm)
    try rw [← ee4]
    refine ⟨fun hc => ?_, fun hc => ?_⟩
    · have h := h.1 hc
      exact wp.mono (h G1 A1 ⟨L1, P1, rfl, hS1⟩) (fun r G' q => qx_trans hx1 q)
    · have h := h.2 hc
      refine ⟨hS1.o (s0_20 hS1), ?_⟩
      rw [l0_20_2 hS1]
      refine ⟨hS1.o (sP_0 hg2), ?_⟩
      rw [lP_0_5 hS1 hg2]
      refine ⟨hS1.o (sP_9 hg2), ?_⟩
      rw [lP_9_4 hS1 hg2]
      refine ⟨hS1.o (sP_10 hg2), ?_⟩
      obtain ⟨hi5, h⟩ := h
      refine ⟨by first | (rw [(nP_10 hS1 hg2)]; exact hi5) | exact (congrArg (vp_in _) (nP_10 hS1 hg2)).mpr hi5 | exact hi5, ?_⟩
      refine ⟨hS1.o (s0_22 hS1), ?_⟩
      obtain ⟨hi6, h⟩ := h
      refine ⟨by first | (rw [(n0_22 hS1)]; exact hi6) | exact (congrArg (vp_in _) (n0_22 hS1)).mpr hi6 | exact hi6, ?_⟩
      rw [l0_20_1 hS1]
      refine ⟨hS1.o (s0_21 hS1), ?_⟩
      obtain ⟨hi7, h⟩ := h
      refine ⟨by first | (rw [(n0_21 hS1)]; exact hi7) | exact (congrArg (vp_in _) (n0_21 hS1)).mpr hi7 | exact hi7, ?_⟩
      refine ⟨fun hc => ?_, fun hc => ?_⟩
      · have h := h.1 hc
        exact wp.mono (h G1 A1 ⟨L1, P1, rfl, hS1⟩) (fun r G' q => qx_trans hx1 q)
      · have h := h.2 hc
        rw [lP_9_5 hS1 hg2]
        refine ⟨hS1.o (sP_11 hg2), ?_⟩
        obtain ⟨hi8, h⟩ := h
        refine ⟨by first | (rw [(nP_11 hS1 hg2)]; exact hi8) | exact (congrArg (vp_in _) (nP_11 hS1 hg2)).mpr hi8 | exact hi8, ?_⟩
        exact wp.mono (h G1 A1 ⟨L1, P1, rfl, hS1⟩) (fun r G' q => qx_trans hx1 q)
theorem w_X4_isBounded_210 {E : EE} {d : Nat} {V : VH} {K : Int32 → VH → Prop} {g : Nat} {x2 : Int32} {x3 : Int32} {x4 : Int32} {x5 : Int32} {a90 f90 : Nat} {t1 : Int32} {t2 : Int64} {t3 : Int64} {t4 : Int32} (hg : PG (vL V) g) (hA90 : SL (vL V) a90 f90 15) (h : vp_in t1 (vN V a90 f90) ∧ (∀ V2 : VH, V2 = wrJ V a90 f90 (Int32.toNatClampNeg t1) (t2 + (t3 * (Int32.toInt64 t4))) → vwp E d M_X4_isBounded 214 [some (sl 0 20), some (sl g 0), some (wi x2), some (wi x3), some (wi x4), some (wi x5), none, none] [] V2 (zi K))) : vwp E d M_X4_isBounded 210 [some (sl 0 20), some (sl g 0), some (wi x2), some (wi x3), some (wi x4), some (wi x5), none, none] [wi t4, wj t3, wj t2, wi t1, sl a90 f90] V (zi K) := by
  intro G A hR
  obtain ⟨L, P, rfl, hS⟩ := hR
  have hx := Xt.refl (V := pl G A L P) (A := A)
  show wp E d M_X4_isBounded 210 [some (vr (A 0 20)), some (vr (A g 0)), some (vi x2), some (vi x3), some (vi x4), some (vi x5), none, none] [vi t4, vj t3, vj t2, vi t1, vr (A a90 f90)] G _
  refine v_X4_isBounded_210 ?_
  refine ⟨hS.o hA90, ?_⟩
  obtain ⟨hi1, h⟩ := h
  refine ⟨hi1, ?_⟩
  have hS2 : Sh E (sJ G (A a90 f90) (Int32.toNatClampNeg t1) (t2 + (t3 * (Int32.toInt64 t4)))) A L P := Sh_sJ (rfl : sJ G (A a90 f90) (Int32.toNatClampNeg t1) (t2 + (t3 * (Int32.toInt64 t4))) = sJ G (A a90 f90) (Int32.toNatClampNeg t1) (t2 + (t3 * (Int32.toInt64 t4)))) hS
  have h := h (pl (sJ G (A a90 f90) (Int32.toNatClampNeg t1) (t2 + (t3 * (Int32.toInt64 t4)))) A L P) (pl_sJ (rfl : sJ G (A a90 f90) (Int32.toNatClampNeg t1) (t2 + (t3 * (Int32.toInt64 t4))) = sJ G (A a90 f90) (Int32.toNatClampNeg t1) (t2 + (t3 * (Int32.toInt64 t4)))) hS hA90)
  have hx2 : Xt (pl G A L P) A (pl (sJ G (A a90 f90) (Int32.toNatClampNeg t1) (t2 + (t3 * (Int32.toInt64 t4)))) A L P) A := Xt_sJ (rfl : sJ G (A a90 f90) (Int32.toNatClampNeg t1) (t2 + (t3 * (Int32.toInt64 t4))) = sJ G (A a90 f90) (Int32.toNatClampNeg t1) (t2 + (t3 * (Int32.toInt64 t4)))) hx
  exact wp.mono (h (sJ G (A a90 f90) (Int32.toNatClampNeg t1) (t2 + (t3 * (Int32.toInt64 t4)))) A ⟨L, P, rfl, hS2⟩) (fun r G' q => qx_trans hx2 q)
theorem w_X4_isBounded_214 {E : EE} {d : Nat} {V : VH} {K : Int32 → VH → Prop} {g : Nat} {x2 : Int32} {x3 : Int32} {x4 : Int32} {x5 : Int32} (hg : PG (vL V) g) (h : vwp E d M_X4_isBounded 143 [some (sl 0 20), some (sl g 0), some (wi x2), some (wi x3), some (wi x4), some (wi (x5 + 1)), none, none] [] V (zi K)) : vwp E d M_X4_isBounded 214 [some (sl 0 20), some (sl g 0), some (wi x2), some (wi x3), some (wi x4), some (wi x5), none, none] [] V (zi K) := by
  intro G A hR
  obtain ⟨L, P, rfl, hS⟩ := hR
  have hx := Xt.refl (V := pl G A L P) (A := A)
  show wp E d M_X4_isBounded 214 [some (vr (A 0 20)), some (vr (A g 0)), some (vi x2), some (vi x3), some (vi x4), some (vi x5), none, none] [] G _
  refine v_X4_isBounded_214 ?_
  exact wp.mono (h G A ⟨L, P, rfl, hS⟩) (fun r G' q => qx_trans hx q)
theorem w_X4_isBounded_223 {E : EE} {d : Nat} {V : VH} {K : Int32 → VH → Prop} {g : Nat} {x2 : Int32} {x3 : Int32} {x4 : Int32} {x5 : Int32} (hg : PG (vL V) g) (h0 : 0 < d) (h : (3 ≤ x5 → K 1 V) ∧ (¬ (3 ≤ x5) → vMJ E (d - 1) M_X9_scoreOf [sl g 19, wi (vI V g 0 8), wi x5] V (fun r1 V1 => vp_in x5 3 ∧ ((r1 = (vJ V1 0 22 (Int32.toNatClampNeg x5)) → vwp E d M_X4_isBounded 223 [some (sl 0 20), some (sl g 0), some (wi x2), some (wi x3), some (wi x4), some (wi (x5 + 1)), none, none] [] V1 (zi K)) ∧ (¬ (r1 = (vJ V1 0 22 (Int32.toNatClampNeg x5))) → vp_in x5 3 ∧ (((vJ V1 0 22 (Int32.toNatClampNeg x5)) ≤ r1 → K 0 V1) ∧ (¬ ((vJ V1 0 22 (Int32.toNatClampNeg x5)) ≤ r1) → K 1 V1))))))) : vwp E d M_X4_isBounded 223 [some (sl 0 20), some (sl g 0), some (wi x2), some (wi x3), some (wi x4), some (wi x5), none, none] [] V (zi K) := by
  intro G A hR
  obtain ⟨L, P, rfl, hS⟩ := hR
  have hx := Xt.refl (V := pl G A L P) (A := A)
  show wp E d M_X4_isBounded 223 [some (vr (A 0 20)), some (vr (A g 0)), some (vi x2), some (vi x3), some (vi x4), some (vi x5), none, none] [] G _
  refine v_X4_isBounded_223 h0 ?_
  refine ⟨fun hc => ?_, fun hc => ?_⟩
  · have h := h.1 hc
    exact qx_i hS hx h
  · have h := h.2 hc
    refine ⟨hS.o (sP_0 hg), ?_⟩
    rw [lP_0_6 hS hg]
    refine ⟨hS.o (sP_19 hg), ?_⟩
    refine wpM.mono (h G A ⟨L, P, rfl, hS⟩) (fun rr1 G1 hr => ?_)
    obtain ⟨A1, W1, w1, ⟨L1, P1, rfl, hS1⟩, hy1, rfl, r1, rfl, h⟩ := hr
    refine ⟨r1, rfl, ?_⟩
    have hx1 := Xt.trans hx hy1
    have hg2 : PG L1 g := PG.up hy1 hg
    have ee3 : A1 0 20 = A 0 20 := hy1.2 _ _ hS.1.1 (((n0_20 hS1)).trans ((n0_20 hS)).symm)
    try rw [← ee3]
    have ee4 : A1 g 0 = A g 0 := hy1.2 _ _ hg.1 (((nP_0 hS1 hg2)).trans ((nP_0 hS hg)).symm)
    try rw [← ee4]
    refine ⟨hS1.o (s0_20 hS1), ?_⟩
    rw [l0_20_2 hS1]
    refine ⟨hS1.o (s0_22 hS1), ?_⟩
    obtain ⟨hi5, h⟩ := h
    refine ⟨by first | (rw [(n0_22 hS1)]; exact hi5) | exact (congrArg (vp_in _) (n0_22 hS1)).mpr hi5 | exact hi5, ?_⟩
    refine ⟨fun hc => ?_, fun hc => ?_⟩
    · have h := h.1 hc
      exact wp.mono (h G1 A1 ⟨L1, P1, rfl, hS1⟩) (fun r G' q => qx_trans hx1 q)
    · have h := h.2 hc
      obtain ⟨hi6, h⟩ := h
      refine ⟨by first | (rw [(n0_22 hS1)]; exact hi6) | exact (congrArg (vp_in _) (n0_22 hS1)).mpr hi6 | exact hi6, ?_⟩
      refine ⟨fun hc => ?_, fun hc => ?_⟩
      · have h := h.1 hc
        exact qx_i hS1 hx1 h
      · have h := h.2 hc
        exact qx_i hS1 hx1 h
theorem w_X8_announced_0 {E : EE} {d : Nat} {V : VH} {K : Int32 → VH → Prop} {b1 c1 : Nat} (hB1 : BS (vL V) b1 c1) (h0 : 0 < d) (h : (((vI V b1 c1 1) - 8) < 2 → K (-1) V) ∧ (¬ (((vI V b1 c1 1) - 8) < 2) → vMJ E (d - 1) M_X0_sum [sl b1 c1, wi 0, wi ((vI V b1 c1 1) - 8)] V (fun r1 V1 => vMJ E (d - 1) M_X0_number [sl b1 c1, wi ((vI V b1 c1 1) - 8), wi 8] V1 (fun r5 V5 => (r1 = r5 → vMJ E (d - 1) M_X0_number [sl b1 c1, wi 0, wi 2] V5 (fun r9 V9 => K (Int64.toInt32 r9) V9)) ∧ (¬ (r1 = r5) → K (-1) V5))))) : vMI E d M_X8_announced [sl 0 23, sl b1 c1] V K := by
  intro G A hR
  obtain ⟨L, P, rfl, hS⟩ := hR
  have hx := Xt.refl (V := pl G A L P) (A := A)
  show wpM E d M_X8_announced [vr (A 0 23), vr (A b1 c1)] G _
  refine wpM_of mk_X8_announced (Nat.le_of_ble_eq_true rfl) ?_
  refine v_X8_announced_0 h0 ?_
  refine ⟨hS.o (BS.o hB1), ?_⟩
  refine ⟨fun hc => ?_, fun hc => ?_⟩
  · have h := h.1 hc
    exact qx_i hS hx h
  · have h := h.2 hc
    refine wpM.mono (h G A ⟨L, P, rfl, hS⟩) (fun rr1 G1 hr => ?_)
    obtain ⟨A1, W1, w1, ⟨L1, P1, rfl, hS1⟩, hy1, rfl, r1, rfl, h⟩ := hr
    refine ⟨r1, rfl, ?_⟩
    have hx1 := Xt.trans hx hy1
    have hg2 : BS L1 b1 c1 := BS.up hy1 hB1
    have ee3 : A1 0 23 = A 0 23 := hy1.2 _ _ hS.1.1 (((n0_23 hS1)).trans ((n0_23 hS)).symm)
    try rw [← ee3]
    have ee4 : A1 b1 c1 = A b1 c1 := hy1.2 _ _ hB1.1 (((BS.n hg2 hS1)).trans ((BS.n hB1 hS)).symm)
    try rw [← ee4]
    try rw [show gI G (A1 b1 c1) = gI G (A b1 c1) from by rw [ee4]]
    refine ⟨hS1.o (BS.o hg2), ?_⟩
    refine wpM.mono (h G1 A1 ⟨L1, P1, rfl, hS1⟩) (fun rr5 G5 hr => ?_)
    obtain ⟨A5, W5, w5, ⟨L5, P5, rfl, hS5⟩, hy5, rfl, r5, rfl, h⟩ := hr
    refine ⟨r5, rfl, ?_⟩
    have hx5 := Xt.trans hx1 hy5
    have hg6 : BS L5 b1 c1 := BS.up hy5 hg2
    have ee7 : A5 0 23 = A1 0 23 := hy5.2 _ _ hS1.1.1 (((n0_23 hS5)).trans ((n0_23 hS1)).symm)
    try rw [← ee7]
    have ee8 : A5 b1 c1 = A1 b1 c1 := hy5.2 _ _ hg2.1 (((BS.n hg6 hS5)).trans ((BS.n hg2 hS1)).symm)
    try rw [← ee8]
    refine ⟨fun hc => ?_, fun hc => ?_⟩
    · have h := h.1 hc
      refine ⟨hS5.o (BS.o hg6), ?_⟩
      refine wpM.mono (h G5 A5 ⟨L5, P5, rfl, hS5⟩) (fun rr9 G9 hr => ?_)
      obtain ⟨A9, W9, w9, ⟨L9, P9, rfl, hS9⟩, hy9, rfl, r9, rfl, h⟩ := hr
      refine ⟨r9, rfl, ?_⟩
      have hx9 := Xt.trans hx5 hy9
      have hg10 : BS L9 b1 c1 := BS.up hy9 hg6
      have ee11 : A9 0 23 = A5 0 23 := hy9.2 _ _ hS5.1.1 (((n0_23 hS9)).trans ((n0_23 hS5)).symm)
      try rw [← ee11]
      have ee12 : A9 b1 c1 = A5 b1 c1 := hy9.2 _ _ hg6.1 (((BS.n hg10 hS9)).trans ((BS.n hg6 hS5)).symm)
      try rw [← ee12]
      exact qx_i hS9 hx9 h
    · have h := h.2 hc
      exact qx_i hS5 hx5 h
theorem w_X8_textLength_0 {E : EE} {d : Nat} {V : VH} {K : Int32 → VH → Prop} {b1 c1 : Nat} {x2 : Int32} (hB1 : BS (vL V) b1 c1) (h0 : 0 < d) (h : vMI E (d - 1) M_X0_at [sl b1 c1, wi x2] V (fun r1 V1 => (¬ r1 = 211 → K (-1) V1) ∧ (r1 = 211 → ((x2 + 3) ≤ (vI V1 b1 c1 1) → vMJ E (d - 1) M_X0_number [sl b1 c1, wi (x2 + 1), wi 2] V1 (fun r5 V5 => (((x2 + 3) + (Int64.toInt32 r5)) ≤ (vI V5 b1 c1 1) → K (Int64.toInt32 r5) V5) ∧ (¬ (((x2 + 3) + (Int64.toInt32 r5)) ≤ (vI V5 b1 c1 1)) → K (-1) V5))) ∧ (¬ ((x2 + 3) ≤ (vI V1 b1 c1 1)) → K (-1) V1)))) : vMI E d M_X8_textLength [sl 0 23, sl b1 c1, wi x2] V K := by
  intro G A hR
  obtain ⟨L, P, rfl, hS⟩ := hR
  have hx := Xt.refl (V := pl G A L P) (A := A)
  show wpM E d M_X8_textLength [vr (A 0 23), vr (A b1 c1), vi x2] G _
  refine wpM_of mk_X8_textLength (Nat.le_of_ble_eq_true rfl) ?_
  refine v_X8_textLength_0 h0 ?_
  refine ⟨hS.o (BS.o hB1), ?_⟩
  refine wpM.mono (h G A ⟨L, P, rfl, hS⟩) (fun rr1 G1 hr => ?_)
  obtain ⟨A1, W1, w1, ⟨L1, P1, rfl, hS1⟩, hy1, rfl, r1, rfl, h⟩ := hr
  refine ⟨r1, rfl, ?_⟩
  have hx1 := Xt.trans hx hy1
  have hg2 : BS L1 b1 c1 := BS.up hy1 hB1
  have ee3 : A1 0 23 = A 0 23 := hy1.2 _ _ hS.1.1 (((n0_23 hS1)).trans ((n0_23 hS)).symm)
  try rw [← ee3]
  have ee4 : A1 b1 c1 = A b1 c1 := hy1.2 _ _ hB1.1 (((BS.n hg2 hS1)).trans ((BS.n hB1 hS)).symm)
  try rw [← ee4]
  refine ⟨fun hc => ?_, fun hc => ?_⟩
  · have h := h.1 hc
    exact qx_i hS1 hx1 h
  · have h := h.2 hc
    refine ⟨hS1.o (BS.o hg2), ?_⟩
    refine ⟨fun hc => ?_, fun hc => ?_⟩
    · have h := h.1 hc
      refine wpM.mono (h G1 A1 ⟨L1, P1, rfl, hS1⟩) (fun rr5 G5 hr => ?_)
      obtain ⟨A5, W5, w5, ⟨L5, P5, rfl, hS5⟩, hy5, rfl, r5, rfl, h⟩ := hr
      refine ⟨r5, rfl, ?_⟩
      have hx5 := Xt.trans hx1 hy5
      have hg6 : BS L5 b1 c1 := BS.up hy5 hg2
      have ee7 : A5 0 23 = A1 0 23 := hy5.2 _ _ hS1.1.1 (((n0_23 hS5)).trans ((n0_23 hS1)).symm)
      try rw [← ee7]
      have ee8 : A5 b1 c1 = A1 b1 c1 := hy5.2 _ _ hg2.1 (((BS.n hg6 hS5)).trans ((BS.n hg2 hS1)).symm)
      try rw [← ee8]
      refine ⟨hS5.o (BS.o hg6), ?_⟩
      refine ⟨fun hc => ?_, fun hc => ?_⟩
      · have h := h.1 hc
        exact qx_i hS5 hx5 h
      · have h := h.2 hc
        exact qx_i hS5 hx5 h
    · have h := h.2 hc
      exact qx_i hS1 hx1 h
theorem w_X8_rowEnd_0 {E : EE} {d : Nat} {V : VH} {K : Int32 → VH → Prop} {b1 c1 : Nat} {x2 : Int32} {g : Nat} (hB1 : BS (vL V) b1 c1) (hg : PG (vL V) g) (h0 : 0 < d) (h : vMI E (d - 1) M_X8_stateLength [sl g 0] V (fun r1 V1 => (((((x2 + 3) + (vI V g 1 1)) + r1) + 8) ≤ ((vI V1 b1 c1 1) - 8) → vMJ E (d - 1) M_X0_sum [sl b1 c1, wi x2, wi (((x2 + 3) + (vI V g 1 1)) + r1)] V1 (fun r7 V7 => vMJ E (d - 1) M_X0_number [sl b1 c1, wi (((x2 + 3) + (vI V g 1 1)) + r1), wi 8] V7 (fun r13 V13 => (¬ r7 = r13 → K (-1) V13) ∧ (r7 = r13 → vMI E (d - 1) M_X8_restore [sl 0 23, sl b1 c1, wi ((x2 + 3) + (vI V g 1 1)), sl g 0] V13 (fun r19 V19 => (¬ r19 = 0 → K ((((x2 + 3) + (vI V g 1 1)) + r1) + 8) V19) ∧ (r19 = 0 → K (-1) V19)))))) ∧ (¬ (((((x2 + 3) + (vI V g 1 1)) + r1) + 8) ≤ ((vI V1 b1 c1 1) - 8)) → K (-1) V1))) : vMI E d M_X8_rowEnd [sl 0 23, sl b1 c1, wi x2, sl g 0] V K := by
  intro G A hR
  obtain ⟨L, P, rfl, hS⟩ := hR
  have hx := Xt.refl (V := pl G A L P) (A := A)
  show wpM E d M_X8_rowEnd [vr (A 0 23), vr (A b1 c1), vi x2, vr (A g 0)] G _
  refine wpM_of mk_X8_rowEnd (Nat.le_of_ble_eq_true rfl) ?_
  refine v_X8_rowEnd_0 h0 ?_
  refine ⟨hS.o (sP_0 hg), ?_⟩
  rw [lP_0_1 hS hg]
  refine ⟨hS.o (sP_1 hg), ?_⟩
  refine wpM.mono (h G A ⟨L, P, rfl, hS⟩) (fun rr1 G1 hr => ?_)
  obtain ⟨A1, W1, w1, ⟨L1, P1, rfl, hS1⟩, hy1, rfl, r1, rfl, h⟩ := hr
  refine ⟨r1, rfl, ?_⟩
  have hx1 := Xt.trans hx hy1
  have hg2 : BS L1 b1 c1 := BS.up hy1 hB1
  have hg3 : PG L1 g := PG.up hy1 hg
  have ee4 : A1 0 23 = A 0 23 := hy1.2 _ _ hS.1.1 (((n0_23 hS1)).trans ((n0_23 hS)).symm)
  try rw [← ee4]
  have ee5 : A1 b1 c1 = A b1 c1 := hy1.2 _ _ hB1.1 (((BS.n hg2 hS1)).trans ((BS.n hB1 hS)).symm)
  try rw [← ee5]
  have ee6 : A1 g 0 = A g 0 := hy1.2 _ _ hg.1 (((nP_0 hS1 hg3)).trans ((nP_0 hS hg)).symm)
  try rw [← ee6]
  refine ⟨hS1.o (BS.o hg2), ?_⟩
  refine ⟨fun hc => ?_, fun hc => ?_⟩
  · have h := h.1 hc
    refine wpM.mono (h G1 A1 ⟨L1, P1, rfl, hS1⟩) (fun rr7 G7 hr => ?_)
    obtain ⟨A7, W7, w7, ⟨L7, P7, rfl, hS7⟩, hy7, rfl, r7, rfl, h⟩ := hr
    refine ⟨r7, rfl, ?_⟩
    have hx7 := Xt.trans hx1 hy7
    have hg8 : BS L7 b1 c1 := BS.up hy7 hg2
    have hg9 : PG L7 g := PG.up hy7 hg3
    have ee10 : A7 0 23 = A1 0 23 := hy7.2 _ _ hS1.1.1 (((n0_23 hS7)).trans ((n0_23 hS1)).symm)
    try rw [← ee10]
    have ee11 : A7 b1 c1 = A1 b1 c1 := hy7.2 _ _ hg2.1 (((BS.n hg8 hS7)).trans ((BS.n hg2 hS1)).symm)
    try rw [← ee11]
    have ee12 : A7 g 0 = A1 g 0 := hy7.2 _ _ hg3.1 (((nP_0 hS7 hg9)).trans ((nP_0 hS1 hg3)).symm)
    try rw [← ee12]
    refine ⟨hS7.o (BS.o hg8), ?_⟩
    refine wpM.mono (h G7 A7 ⟨L7, P7, rfl, hS7⟩) (fun rr13 G13 hr => ?_)
    obtain ⟨A13, W13, w13, ⟨L13, P13, rfl, hS13⟩, hy13, rfl, r13, rfl, h⟩ := hr
    refine ⟨r13, rfl, ?_⟩
    have hx13 := Xt.trans hx7 hy13
    have hg14 : BS L13 b1 c1 := BS.up hy13 hg8
    have hg15 : PG L13 g := PG.up hy13 hg9
    have ee16 : A13 0 23 = A7 0 23 := hy13.2 _ _ hS7.1.1 (((n0_23 hS13)).trans ((n0_23 hS7)).symm)
    try rw [← ee16]
    have ee17 : A13 b1 c1 = A7 b1 c1 := hy13.2 _ _ hg8.1 (((BS.n hg14 hS13)).trans ((BS.n hg8 hS7)).symm)
    try rw [← ee17]
    have ee18 : A13 g 0 = A7 g 0 := hy13.2 _ _ hg9.1 (((nP_0 hS13 hg15)).trans ((nP_0 hS7 hg9)).symm)
    try rw [← ee18]
    refine ⟨fun hc => ?_, fun hc => ?_⟩
    · have h := h.1 hc
      exact qx_i hS13 hx13 h
    · have h := h.2 hc
      refine ⟨hS13.o (s0_23 hS13), ?_⟩
      refine wpM.mono (h G13 A13 ⟨L13, P13, rfl, hS13⟩) (fun rr19 G19 hr => ?_)
      obtain ⟨A19, W19, w19, ⟨L19, P19, rfl, hS19⟩, hy19, rfl, r19, rfl, h⟩ := hr
      refine ⟨r19, rfl, ?_⟩
      have hx19 := Xt.trans hx13 hy19
      have hg20 : BS L19 b1 c1 := BS.up hy19 hg14
      have hg21 : PG L19 g := PG.up hy19 hg15
      have ee22 : A19 0 23 = A13 0 23 := hy19.2 _ _ hS13.1.1 (((n0_23 hS19)).trans ((n0_23 hS13)).symm)
      try rw [← ee22]
      have ee23 : A19 b1 c1 = A13 b1 c1 := hy19.2 _ _ hg14.1 (((BS.n hg20 hS19)).trans ((BS.n hg14 hS13)).symm)
      try rw [← ee23]
      have ee24 : A19 g 0 = A13 g 0 := hy19.2 _ _ hg15.1 (((nP_0 hS19 hg21)).trans ((nP_0 hS13 hg15)).symm)
      try rw [← ee24]
      refine ⟨fun hc => ?_, fun hc => ?_⟩
      · have h := h.1 hc
        exact qx_i hS19 hx19 h
      · have h := h.2 hc
        exact qx_i hS19 hx19 h
  · have h := h.2 hc
    exact qx_i hS1 hx1 h
theorem w_X8_stateLength_0 {E : EE} {d : Nat} {V : VH} {K : Int32 → VH → Prop} {g : Nat} (hg : PG (vL V) g) (h : K (((4 * (vI V g 4 (Int32.toNatClampNeg 0))) + (3 * (vI V g 5 0))) + 2) V) : vMI E d M_X8_stateLength [sl g 0] V K := by
  intro G A hR
  obtain ⟨L, P, rfl, hS⟩ := hR
  have hx := Xt.refl (V := pl G A L P) (A := A)
  show wpM E d M_X8_stateLength [vr (A g 0)] G _
  refine wpM_of mk_X8_stateLength (Nat.le_of_ble_eq_true rfl) ?_
  refine v_X8_stateLength_0 ?_
  refine ⟨hS.o (sP_0 hg), ?_⟩
  rw [lP_0_3 hS hg]
  refine ⟨hS.o (sP_4 hg), ?_⟩
  refine ⟨by first | (rw [(nP_4 hS hg)]; unfold vp_in; decide) | exact (congrArg (vp_in _) (nP_4 hS hg)).mpr (by unfold vp_in; decide) | (unfold vp_in; decide), ?_⟩
  rw [lP_0_4 hS hg]
  refine ⟨hS.o (sP_5 hg), ?_⟩
  exact qx_i hS hx h
theorem w_X8_restore_0 {E : EE} {d : Nat} {V : VH} {K : Int32 → VH → Prop} {b1 c1 : Nat} {x2 : Int32} {g : Nat} (hB1 : BS (vL V) b1 c1) (hg : PG (vL V) g) (h : vwp E d M_X8_restore 6 [some (sl 0 23), some (sl b1 c1), some (wi x2), some (sl g 0), some (wi x2), some (wi 0), none, none] [] V (zi K)) : vMI E d M_X8_restore [sl 0 23, sl b1 c1, wi x2, sl g 0] V K := by
  intro G A hR
  obtain ⟨L, P, rfl, hS⟩ := hR
  have hx := Xt.refl (V := pl G A L P) (A := A)
  show wpM E d M_X8_restore [vr (A 0 23), vr (A b1 c1), vi x2, vr (A g 0)] G _
  refine wpM_of mk_X8_restore (Nat.le_of_ble_eq_true rfl) ?_
  refine v_X8_restore_0 ?_
  exact wp.mono (h G A ⟨L, P, rfl, hS⟩) (fun r G' q => qx_trans hx q)
theorem w_X8_restore_6 {E : EE} {d : Nat} {V : VH} {K : Int32 → VH → Prop} {b1 c1 : Nat} {x2 : Int32} {g : Nat} {x4 : Int32} {x5 : Int32} (hB1 : BS (vL V) b1 c1) (hg : PG (vL V) g) (h0 : 0 < d) (h : ((vI V g 4 (Int32.toNatClampNeg 0)) ≤ x5 → vwp E d M_X8_restore 72 [some (sl 0 23), some (sl b1 c1), some (wi x2), some (sl g 0), some (wi x4), some (wi 0), none, none] [] V (zi K)) ∧ (¬ ((vI V g 4 (Int32.toNatClampNeg 0)) ≤ x5) → vMJ E (d - 1) M_X0_number [sl b1 c1, wi x4, wi 4] V (fun r2 V2 => vp_in x5 16 ∧ (∀ V10 : VH, V10 = wrI V2 g 23 (Int32.toNatClampNeg x5) (Int64.toInt32 r2) → vp_in x5 16 ∧ (((vI V10 g 23 (Int32.toNatClampNeg x5)) < (-9999) → K 0 V10) ∧ (¬ ((vI V10 g 23 (Int32.toNatClampNeg x5)) < (-9999)) → vp_in x5 16 ∧ (((vI V10 g 23 (Int32.toNatClampNeg x5)) ≤ 9999 → vwp E d M_X8_restore 6 [some (sl 0 23), some (sl b1 c1), some (wi x2), some (sl g 0), some (wi (x4 + 4)), some (wi (x5 + 1)), none, none] [] V10 (zi K)) ∧ (¬ ((vI V10 g 23 (Int32.toNatClampNeg x5)) ≤ 9999) → K 0 V10)))))))) : vwp E d M_X8_restore 6 [some (sl 0 23), some (sl b1 c1), some (wi x2), some (sl g 0), some (wi x4), some (wi x5), none, none] [] V (zi K) := by
  intro G A hR
  obtain ⟨L, P, rfl, hS⟩ := hR
  have hx := Xt.refl (V := pl G A L P) (A := A)
  show wp E d M_X8_restore 6 [some (vr (A 0 23)), some (vr (A b1 c1)), some (vi x2), some (vr (A g 0)), some (vi x4), some (vi x5), none, none] [] G _
  refine v_X8_restore_6 h0 ?_
  refine ⟨hS.o (sP_0 hg), ?_⟩
  rw [lP_0_3 hS hg]
  refine ⟨hS.o (sP_4 hg), ?_⟩
  refine ⟨by first | (rw [(nP_4 hS hg)]; unfold vp_in; decide) | exact (congrArg (vp_in _) (nP_4 hS hg)).mpr (by unfold vp_in; decide) | (unfold vp_in; decide), ?_⟩
  refine ⟨fun hc => ?_, fun hc => ?_⟩
  · have h := h.1 hc
    exact wp.mono (h G A ⟨L, P, rfl, hS⟩) (fun r G' q => qx_trans hx q)
  · have h := h.2 hc
    rw [lP_0_7 hS hg]
    refine ⟨hS.o (BS.o hB1), ?_⟩
    refine wpM.mono (h G A ⟨L, P, rfl, hS⟩) (fun rr2 G2 hr => ?_)
    obtain ⟨A2, W2, w2, ⟨L2, P2, rfl, hS2⟩, hy2, rfl, r2, rfl, h⟩ := hr
    refine ⟨r2, rfl, ?_⟩
    have hx2 := Xt.trans hx hy2
    have hg3 : BS L2 b1 c1 := BS.up hy2 hB1
    have hg4 : PG L2 g := PG.up hy2 hg
    have ee5 : A2 0 23 = A 0 23 := hy2.2 _ _ hS.1.1 (((n0_23 hS2)).trans ((n0_23 hS)).symm)
    try rw [← ee5]
    have ee6 : A2 b1 c1 = A b1 c1 := hy2.2 _ _ hB1.1 (((BS.n hg3 hS2)).trans ((BS.n hB1 hS)).symm)
    try rw [← ee6]
    have ee7 : A2 g 0 = A g 0 := hy2.2 _ _ hg.1 (((nP_0 hS2 hg4)).trans ((nP_0 hS hg)).symm)
    try rw [← ee7]
    have ee8 : A2 g 23 = A g 23 := hy2.2 _ _ hg.1 (((nP_23 hS2 hg4)).trans ((nP_23 hS hg)).symm)
    try rw [← ee8]
    refine ⟨hS2.o (sP_23 hg4), ?_⟩
    obtain ⟨hi9, h⟩ := h
    refine ⟨by first | (rw [(nP_23 hS2 hg4)]; exact hi9) | exact (congrArg (vp_in _) (nP_23 hS2 hg4)).mpr hi9 | exact hi9, ?_⟩
    have hS10 : Sh E (sI G2 (A2 g 23) (Int32.toNatClampNeg x5) (Int64.toInt32 r2)) A2 L2 P2 := Sh_sI (rfl : sI G2 (A2 g 23) (Int32.toNatClampNeg x5) (Int64.toInt32 r2) = sI G2 (A2 g 23) (Int32.toNatClampNeg x5) (Int64.toInt32 r2)) hS2 (sP_23 hg4) (okT_0 rfl)
    have h := h (pl (sI G2 (A2 g 23) (Int32.toNatClampNeg x5) (Int64.toInt32 r2)) A2 L2 P2) (pl_sI (rfl : sI G2 (A2 g 23) (Int32.toNatClampNeg x5) (Int64.toInt32 r2) = sI G2 (A2 g 23) (Int32.toNatClampNeg x5) (Int64.toInt32 r2)) hS2 (sP_23 hg4))
    have hx10 : Xt (pl G A L P) A (pl (sI G2 (A2 g 23) (Int32.toNatClampNeg x5) (Int64.toInt32 r2)) A2 L2 P2) A2 := Xt_sI (rfl : sI G2 (A2 g 23) (Int32.toNatClampNeg x5) (Int64.toInt32 r2) = sI G2 (A2 g 23) (Int32.toNatClampNeg x5) (Int64.toInt32 r2)) hx2
    refine ⟨hS10.o (sP_0 hg4), ?_⟩
    rw [lP_0_7 hS2 hg4]
    refine ⟨hS10.o (sP_23 hg4), ?_⟩
    obtain ⟨hi11, h⟩ := h
    refine ⟨by first | (rw [(nP_23 hS10 hg4)]; exact hi11) | exact (congrArg (vp_in _) (nP_23 hS10 hg4)).mpr hi11 | exact hi11, ?_⟩
    refine ⟨fun hc => ?_, fun hc => ?_⟩
    · have h := h.1 hc
      exact qx_i hS10 hx10 h
    · have h := h.2 hc
      obtain ⟨hi12, h⟩ := h
      refine ⟨by first | (rw [(nP_23 hS10 hg4)]; exact hi12) | exact (congrArg (vp_in _) (nP_23 hS10 hg4)).mpr hi12 | exact hi12, ?_⟩
      refine ⟨fun hc => ?_, fun hc => ?_⟩
      · have h := h.1 hc
        exact wp.mono (h (sI G2 (A2 g 23) (Int32.toNatClampNeg x5) (Int64.toInt32 r2)) A2 ⟨L2, P2, rfl, hS10⟩) (fun r G' q => qx_trans hx10 q)
      · have h := h.2 hc
        exact qx_i hS10 hx10 h
theorem w_X8_restore_72 {E : EE} {d : Nat} {V : VH} {K : Int32 → VH → Prop} {b1 c1 : Nat} {x2 : Int32} {g : Nat} {x4 : Int32} {x5 : Int32} (hB1 : BS (vL V) b1 c1) (hg : PG (vL V) g) (h0 : 0 < d) (h : ((vI V g 5 0) ≤ x5 → vMJ E (d - 1) M_X0_number [sl b1 c1, wi x4, wi 2] V (fun r1 V1 => ∀ V7 : VH, V7 = wrI V1 g 0 9 (Int64.toInt32 r1) → (¬ ((vI V7 g 0 9) >>> ((vI V7 g 5 0) &&& 31)) = 0 → K 0 V7) ∧ (((vI V7 g 0 9) >>> ((vI V7 g 5 0) &&& 31)) = 0 → K 1 V7))) ∧ (¬ ((vI V g 5 0) ≤ x5) → vMI E (d - 1) M_X0_at [sl b1 c1, wi x4] V (fun r8 V8 => vMI E (d - 1) M_X7_placeOfValue [sl g 5, wi x5, wi (i2b r8)] V8 (fun r15 V15 => vMJ E (d - 1) M_X0_number [sl b1 c1, wi (x4 + 1), wi 2] V15 (fun r21 V21 => (r15 < 0 → K 0 V21) ∧ (¬ (r15 < 0) → ((Int64.toInt32 r21) ≤ 1000 → vMI E (d - 1) M_X7_moved [sl g 5, wi (vI V21 g 0 8), wi x5, wi r15] V21 (fun r27 V27 => ∀ V33 : VH, V33 = wrI V27 g 0 8 r27 → vp_in x5 12 ∧ (∀ V35 : VH, V35 = wrI V33 g 24 (Int32.toNatClampNeg x5) (Int64.toInt32 r21) → vwp E d M_X8_restore 72 [some (sl 0 23), some (sl b1 c1), some (wi x2), some (sl g 0), some (wi (x4 + 3)), some (wi (x5 + 1)), none, none] [] V35 (zi K)))) ∧ (¬ ((Int64.toInt32 r21) ≤ 1000) → K 0 V21))))))) : vwp E d M_X8_restore 72 [some (sl 0 23), some (sl b1 c1), some (wi x2), some (sl g 0), some (wi x4), some (wi x5), none, none] [] V (zi K) := by
  intro G A hR
  obtain ⟨L, P, rfl, hS⟩ := hR
  have hx := Xt.refl (V := pl G A L P) (A := A)
  show wp E d M_X8_restore 72 [some (vr (A 0 23)), some (vr (A b1 c1)), some (vi x2), some (vr (A g 0)), some (vi x4), some (vi x5), none, none] [] G _
  refine v_X8_restore_72 h0 ?_
  refine ⟨hS.o (sP_0 hg), ?_⟩
  rw [lP_0_4 hS hg]
  refine ⟨hS.o (sP_5 hg), ?_⟩
  refine ⟨fun hc => ?_, fun hc => ?_⟩
  · have h := h.1 hc
    refine ⟨hS.o (BS.o hB1), ?_⟩
    refine wpM.mono (h G A ⟨L, P, rfl, hS⟩) (fun rr1 G1 hr => ?_)
    obtain ⟨A1, W1, w1, ⟨L1, P1, rfl, hS1⟩, hy1, rfl, r1, rfl, h⟩ := hr
    refine ⟨r1, rfl, ?_⟩
    have hx1 := Xt.trans hx hy1
    have hg2 : BS L1 b1 c1 := BS.up hy1 hB1
    have hg3 : PG L1 g := PG.up hy1 hg
    have ee4 : A1 0 23 = A 0 23 := hy1.2 _ _ hS.1.1 (((n0_23 hS1)).trans ((n0_23 hS)).symm)
    try rw [← ee4]
    have ee5 : A1 b1 c1 = A b1 c1 := hy1.2 _ _ hB1.1 (((BS.n hg2 hS1)).trans ((BS.n hB1 hS)).symm)
    try rw [← ee5]
    have ee6 : A1 g 0 = A g 0 := hy1.2 _ _ hg.1 (((nP_0 hS1 hg3)).trans ((nP_0 hS hg)).symm)
    try rw [← ee6]
    refine ⟨hS1.o (sP_0 hg3), ?_⟩
    intro G7 eG7
    have hS7 : Sh E G7 A1 L1 P1 := Sh_sI eG7 hS1 (sP_0 hg3) (okT_0 rfl)
    have h := h (pl G7 A1 L1 P1) (pl_sI eG7 hS1 (sP_0 hg3))
    have hx7 : Xt (pl G A L P) A (pl G7 A1 L1 P1) A1 := Xt_sI eG7 hx1
    rw [lP_0_4 hS7 hg3]
    refine ⟨hS7.o (sP_5 hg3), ?_⟩
    refine ⟨fun hc => ?_, fun hc => ?_⟩
    · have h := h.1 hc
      exact qx_i hS7 hx7 h
    · have h := h.2 hc
      exact qx_i hS7 hx7 h
  · have h := h.2 hc
    refine ⟨hS.o (BS.o hB1), ?_⟩
    refine wpM.mono (h G A ⟨L, P, rfl, hS⟩) (fun rr8 G8 hr => ?_)
    obtain ⟨A8, W8, w8, ⟨L8, P8, rfl, hS8⟩, hy8, rfl, r8, rfl, h⟩ := hr
    refine ⟨r8, rfl, ?_⟩
    have hx8 := Xt.trans hx hy8
    have hg9 : BS L8 b1 c1 := BS.up hy8 hB1
    have hg10 : PG L8 g := PG.up hy8 hg
    have ee11 : A8 0 23 = A 0 23 := hy8.2 _ _ hS.1.1 (((n0_23 hS8)).trans ((n0_23 hS)).symm)
    try rw [← ee11]
    have ee12 : A8 b1 c1 = A b1 c1 := hy8.2 _ _ hB1.1 (((BS.n hg9 hS8)).trans ((BS.n hB1 hS)).symm)
    try rw [← ee12]
    have ee13 : A8 g 0 = A g 0 := hy8.2 _ _ hg.1 (((nP_0 hS8 hg10)).trans ((nP_0 hS hg)).symm)
    try rw [← ee13]
    have ee14 : A8 g 5 = A g 5 := hy8.2 _ _ hg.1 (((nP_5 hS8 hg10)).trans ((nP_5 hS hg)).symm)
    try rw [← ee14]
    refine ⟨hS8.o (sP_5 hg10), ?_⟩
    refine wpM.mono (h G8 A8 ⟨L8, P8, rfl, hS8⟩) (fun rr15 G15 hr => ?_)
    obtain ⟨A15, W15, w15, ⟨L15, P15, rfl, hS15⟩, hy15, rfl, r15, rfl, h⟩ := hr
    refine ⟨r15, rfl, ?_⟩
    have hx15 := Xt.trans hx8 hy15
    have hg16 : BS L15 b1 c1 := BS.up hy15 hg9
    have hg17 : PG L15 g := PG.up hy15 hg10
    have ee18 : A15 0 23 = A8 0 23 := hy15.2 _ _ hS8.1.1 (((n0_23 hS15)).trans ((n0_23 hS8)).symm)
    try rw [← ee18]
    have ee19 : A15 b1 c1 = A8 b1 c1 := hy15.2 _ _ hg9.1 (((BS.n hg16 hS15)).trans ((BS.n hg9 hS8)).symm)
    try rw [← ee19]
    have ee20 : A15 g 0 = A8 g 0 := hy15.2 _ _ hg10.1 (((nP_0 hS15 hg17)).trans ((nP_0 hS8 hg10)).symm)
    try rw [← ee20]
    refine ⟨hS15.o (BS.o hg16), ?_⟩
    refine wpM.mono (h G15 A15 ⟨L15, P15, rfl, hS15⟩) (fun rr21 G21 hr => ?_)
    obtain ⟨A21, W21, w21, ⟨L21, P21, rfl, hS21⟩, hy21, rfl, r21, rfl, h⟩ := hr
    refine ⟨r21, rfl, ?_⟩
    have hx21 := Xt.trans hx15 hy21
    have hg22 : BS L21 b1 c1 := BS.up hy21 hg16
    have hg23 : PG L21 g := PG.up hy21 hg17
    have ee24 : A21 0 23 = A15 0 23 := hy21.2 _ _ hS15.1.1 (((n0_23 hS21)).trans ((n0_23 hS15)).symm)
    try rw [← ee24]
    have ee25 : A21 b1 c1 = A15 b1 c1 := hy21.2 _ _ hg16.1 (((BS.n hg22 hS21)).trans ((BS.n hg16 hS15)).symm)
    try rw [← ee25]
    have ee26 : A21 g 0 = A15 g 0 := hy21.2 _ _ hg17.1 (((nP_0 hS21 hg23)).trans ((nP_0 hS15 hg17)).symm)
    try rw [← ee26]
    refine ⟨fun hc => ?_, fun hc => ?_⟩
    · have h := h.1 hc
      exact qx_i hS21 hx21 h
    · have h := h.2 hc
      refine ⟨fun hc => ?_, fun hc => ?_⟩
      · have h := h.1 hc
        refine ⟨hS21.o (sP_0 hg23), ?_⟩
        rw [lP_0_4 hS21 hg23]
        refine ⟨hS21.o (sP_5 hg23), ?_⟩
        refine wpM.mono (h G21 A21 ⟨L21, P21, rfl, hS21⟩) (fun rr27 G27 hr => ?_)
        obtain ⟨A27, W27, w27, ⟨L27, P27, rfl, hS27⟩, hy27, rfl, r27, rfl, h⟩ := hr
        refine ⟨r27, rfl, ?_⟩
        have hx27 := Xt.trans hx21 hy27
        have hg28 : BS L27 b1 c1 := BS.up hy27 hg22
        have hg29 : PG L27 g := PG.up hy27 hg23
        have ee30 : A27 0 23 = A21 0 23 := hy27.2 _ _ hS21.1.1 (((n0_23 hS27)).trans ((n0_23 hS21)).symm)
        try rw [← ee30]
        have ee31 : A27 b1 c1 = A21 b1 c1 := hy27.2 _ _ hg22.1 (((BS.n hg28 hS27)).trans ((BS.n hg22 hS21)).symm)
        try rw [← ee31]
        have ee32 : A27 g 0 = A21 g 0 := hy27.2 _ _ hg23.1 (((nP_0 hS27 hg29)).trans ((nP_0 hS21 hg23)).symm)
        try rw [← ee32]
        refine ⟨hS27.o (sP_0 hg29), ?_⟩
        intro G33 eG33
        have hS33 : Sh E G33 A27 L27 P27 := Sh_sI eG33 hS27 (sP_0 hg29) (okT_0 rfl)
        have h := h (pl G33 A27 L27 P27) (pl_sI eG33 hS27 (sP_0 hg29))
        have hx33 : Xt (pl G A L P) A (pl G33 A27 L27 P27) A27 := Xt_sI eG33 hx27
        rw [lP_0_10 hS33 hg29]
        refine ⟨hS33.o (sP_24 hg29), ?_⟩
        obtain ⟨hi34, h⟩ := h
        refine ⟨by first | (rw [(nP_24 hS33 hg29)]; exact hi34) | exact (congrArg (vp_in _) (nP_24 hS33 hg29)).mpr hi34 | exact hi34, ?_⟩
        intro G35 eG35
        have hS35 : Sh E G35 A27 L27 P27 := Sh_sI eG35 hS33 (sP_24 hg29) (okT_0 rfl)
        have h := h (pl G35 A27 L27 P27) (pl_sI eG35 hS33 (sP_24 hg29))
        have hx35 : Xt (pl G A L P) A (pl G35 A27 L27 P27) A27 := Xt_sI eG35 hx33
        exact wp.mono (h G35 A27 ⟨L27, P27, rfl, hS35⟩) (fun r G' q => qx_trans hx35 q)
      · have h := h.2 hc
        exact qx_i hS21 hx21 h
theorem w_X8_noteEnd_0 {E : EE} {d : Nat} {V : VH} {K : VH → Prop} {x1 : Int32} {x2 : Int32}  (h : (x1 < 0 → K V) ∧ (¬ (x1 < 0) → (100 ≤ x1 → K V) ∧ (¬ (100 ≤ x1) → vp_in x1 100 ∧ (∀ V2 : VH, V2 = wrI V 0 27 (Int32.toNatClampNeg x1) x2 → K V2)))) : vMV E d M_X8_noteEnd [sl 0 23, wi x1, wi x2] V K := by
  intro G A hR
  obtain ⟨L, P, rfl, hS⟩ := hR
  have hx := Xt.refl (V := pl G A L P) (A := A)
  show wpM E d M_X8_noteEnd [vr (A 0 23), vi x1, vi x2] G _
  refine wpM_of mk_X8_noteEnd (Nat.le_of_ble_eq_true rfl) ?_
  refine v_X8_noteEnd_0 ?_
  refine ⟨fun hc => ?_, fun hc => ?_⟩
  · have h := h.1 hc
    exact qx_v hS hx h
  · have h := h.2 hc
    refine ⟨fun hc => ?_, fun hc => ?_⟩
    · have h := h.1 hc
      exact qx_v hS hx h
    · have h := h.2 hc
      refine ⟨hS.o (s0_23 hS), ?_⟩
      rw [l0_23_3 hS]
      refine ⟨hS.o (s0_27 hS), ?_⟩
      obtain ⟨hi1, h⟩ := h
      refine ⟨by first | (rw [(n0_27 hS)]; exact hi1) | exact (congrArg (vp_in _) (n0_27 hS)).mpr hi1 | exact hi1, ?_⟩
      have hS2 : Sh E (sI G (A 0 27) (Int32.toNatClampNeg x1) x2) A L P := Sh_sI (rfl : sI G (A 0 27) (Int32.toNatClampNeg x1) x2 = sI G (A 0 27) (Int32.toNatClampNeg x1) x2) hS (s0_27 hS) (okT_0 rfl)
      have h := h (pl (sI G (A 0 27) (Int32.toNatClampNeg x1) x2) A L P) (pl_sI (rfl : sI G (A 0 27) (Int32.toNatClampNeg x1) x2 = sI G (A 0 27) (Int32.toNatClampNeg x1) x2) hS (s0_27 hS))
      have hx2 : Xt (pl G A L P) A (pl (sI G (A 0 27) (Int32.toNatClampNeg x1) x2) A L P) A := Xt_sI (rfl : sI G (A 0 27) (Int32.toNatClampNeg x1) x2 = sI G (A 0 27) (Int32.toNatClampNeg x1) x2) hx
      exact qx_v hS2 hx2 h
theorem w_X8_hasRoom_0 {E : EE} {d : Nat} {V : VH} {K : Int32 → VH → Prop} {x1 : Int32} {x2 : Int32}  (h : (100 < ((vI V 0 23 1) + x1) → K 0 V) ∧ (¬ (100 < ((vI V 0 23 1) + x1)) → (19990 < ((vI V 0 24 1) + x2) → K 0 V) ∧ (¬ (19990 < ((vI V 0 24 1) + x2)) → K 1 V))) : vMI E d M_X8_hasRoom [sl 0 23, wi x1, wi x2] V K := by
  intro G A hR
  obtain ⟨L, P, rfl, hS⟩ := hR
  have hx := Xt.refl (V := pl G A L P) (A := A)
  show wpM E d M_X8_hasRoom [vr (A 0 23), vi x1, vi x2] G _
  refine wpM_of mk_X8_hasRoom (Nat.le_of_ble_eq_true rfl) ?_
  refine v_X8_hasRoom_0 ?_
  refine ⟨hS.o (s0_23 hS), ?_⟩
  refine ⟨fun hc => ?_, fun hc => ?_⟩
  · have h := h.1 hc
    exact qx_i hS hx h
  · have h := h.2 hc
    rw [l0_23_0 hS]
    refine ⟨hS.o (s0_24 hS), ?_⟩
    refine ⟨fun hc => ?_, fun hc => ?_⟩
    · have h := h.1 hc
      exact qx_i hS hx h
    · have h := h.2 hc
      exact qx_i hS hx h
theorem w_X8_append_0 {E : EE} {d : Nat} {V : VH} {K : VH → Prop} {b1 c1 : Nat} {x2 : Int32} {x3 : Int32} (hB1 : BS (vL V) b1 c1) (h0 : 0 < d) (h : (x2 < 1 → K V) ∧ (¬ (x2 < 1) → vMI E (d - 1) M_X8_hasRoom [sl 0 23, wi x2, wi x3] V (fun r1 V1 => (¬ r1 = 0 → ∀ V5 : VH, V5 = wrI V1 0 23 4 (vI V1 0 23 1) → vwp E d M_X8_append 26 [some (sl 0 23), some (sl b1 c1), some (wi x2), some (wi x3), some (wi 0)] [] V5 (zv K)) ∧ (r1 = 0 → K V1)))) : vMV E d M_X8_append [sl 0 23, sl b1 c1, wi x2, wi x3] V K := by
  intro G A hR
  obtain ⟨L, P, rfl, hS⟩ := hR
  have hx := Xt.refl (V := pl G A L P) (A := A)
  show wpM E d M_X8_append [vr (A 0 23), vr (A b1 c1), vi x2, vi x3] G _
  refine wpM_of mk_X8_append (Nat.le_of_ble_eq_true rfl) ?_
  refine v_X8_append_0 h0 ?_
  refine ⟨fun hc => ?_, fun hc => ?_⟩
  · have h := h.1 hc
    exact qx_v hS hx h
  · have h := h.2 hc
    refine ⟨hS.o (s0_23 hS), ?_⟩
    refine wpM.mono (h G A ⟨L, P, rfl, hS⟩) (fun rr1 G1 hr => ?_)
    obtain ⟨A1, W1, w1, ⟨L1, P1, rfl, hS1⟩, hy1, rfl, r1, rfl, h⟩ := hr
    refine ⟨r1, rfl, ?_⟩
    have hx1 := Xt.trans hx hy1
    have hg2 : BS L1 b1 c1 := BS.up hy1 hB1
    have ee3 : A1 0 23 = A 0 23 := hy1.2 _ _ hS.1.1 (((n0_23 hS1)).trans ((n0_23 hS)).symm)
    try rw [← ee3]
    have ee4 : A1 b1 c1 = A b1 c1 := hy1.2 _ _ hB1.1 (((BS.n hg2 hS1)).trans ((BS.n hB1 hS)).symm)
    try rw [← ee4]
    refine ⟨fun hc => ?_, fun hc => ?_⟩
    · have h := h.1 hc
      refine ⟨hS1.o (s0_23 hS1), ?_⟩
      have hS5 : Sh E (sI G1 (A1 0 23) 4 (gI G1 (A1 0 23) 1)) A1 L1 P1 := Sh_sI (rfl : sI G1 (A1 0 23) 4 (gI G1 (A1 0 23) 1) = sI G1 (A1 0 23) 4 (gI G1 (A1 0 23) 1)) hS1 (s0_23 hS1) (okT_0 rfl)
      have h := h (pl (sI G1 (A1 0 23) 4 (gI G1 (A1 0 23) 1)) A1 L1 P1) (pl_sI (rfl : sI G1 (A1 0 23) 4 (gI G1 (A1 0 23) 1) = sI G1 (A1 0 23) 4 (gI G1 (A1 0 23) 1)) hS1 (s0_23 hS1))
      have hx5 : Xt (pl G A L P) A (pl (sI G1 (A1 0 23) 4 (gI G1 (A1 0 23) 1)) A1 L1 P1) A1 := Xt_sI (rfl : sI G1 (A1 0 23) 4 (gI G1 (A1 0 23) 1) = sI G1 (A1 0 23) 4 (gI G1 (A1 0 23) 1)) hx1
      exact wp.mono (h (sI G1 (A1 0 23) 4 (gI G1 (A1 0 23) 1)) A1 ⟨L1, P1, rfl, hS5⟩) (fun r G' q => qx_trans hx5 q)
    · have h := h.2 hc
      exact qx_v hS1 hx1 h
theorem w_X8_append_26 {E : EE} {d : Nat} {V : VH} {K : VH → Prop} {b1 c1 : Nat} {x2 : Int32} {x3 : Int32} {x4 : Int32} (hB1 : BS (vL V) b1 c1) (h0 : 0 < d) (h : (x2 ≤ x4 → vMV E (d - 1) M_X0_addAll [sl 0 24, sl b1 c1, wi 2, wi x3] V (fun V1 => ∀ V5 : VH, V5 = wrI V1 0 23 1 ((vI V1 0 23 1) + x2) → K V5)) ∧ (¬ (x2 ≤ x4) → vp_in x4 100 ∧ (vp_in ((vI V 0 23 1) + x4) 100 ∧ (∀ V8 : VH, V8 = wrI V 0 26 (Int32.toNatClampNeg ((vI V 0 23 1) + x4)) ((vI V 0 24 1) + (vI V 0 27 (Int32.toNatClampNeg x4))) → vwp E d M_X8_append 26 [some (sl 0 23), some (sl b1 c1), some (wi x2), some (wi x3), some (wi (x4 + 1))] [] V8 (zv K))))) : vwp E d M_X8_append 26 [some (sl 0 23), some (sl b1 c1), some (wi x2), some (wi x3), some (wi x4)] [] V (zv K) := by
  intro G A hR
  obtain ⟨L, P, rfl, hS⟩ := hR
  have hx := Xt.refl (V := pl G A L P) (A := A)
  show wp E d M_X8_append 26 [some (vr (A 0 23)), some (vr (A b1 c1)), some (vi x2), some (vi x3), some (vi x4)] [] G _
  refine v_X8_append_26 h0 ?_
  refine ⟨fun hc => ?_, fun hc => ?_⟩
  · have h := h.1 hc
    refine ⟨hS.o (s0_23 hS), ?_⟩
    rw [l0_23_0 hS]
    refine ⟨hS.o (s0_24 hS), ?_⟩
    refine wpM.mono (h G A ⟨L, P, rfl, hS⟩) (fun rr1 G1 hr => ?_)
    obtain ⟨A1, W1, w1, ⟨L1, P1, rfl, hS1⟩, hy1, rfl, rfl, h⟩ := hr
    refine ⟨rfl, ?_⟩
    have hx1 := Xt.trans hx hy1
    have hg2 : BS L1 b1 c1 := BS.up hy1 hB1
    have ee3 : A1 0 23 = A 0 23 := hy1.2 _ _ hS.1.1 (((n0_23 hS1)).trans ((n0_23 hS)).symm)
    try rw [← ee3]
    have ee4 : A1 b1 c1 = A b1 c1 := hy1.2 _ _ hB1.1 (((BS.n hg2 hS1)).trans ((BS.n hB1 hS)).symm)
    try rw [← ee4]
    refine ⟨hS1.o (s0_23 hS1), ?_⟩
    have hS5 : Sh E (sI G1 (A1 0 23) 1 ((gI G1 (A1 0 23) 1) + x2)) A1 L1 P1 := Sh_sI (rfl : sI G1 (A1 0 23) 1 ((gI G1 (A1 0 23) 1) + x2) = sI G1 (A1 0 23) 1 ((gI G1 (A1 0 23) 1) + x2)) hS1 (s0_23 hS1) (okT_0 rfl)
    have h := h (pl (sI G1 (A1 0 23) 1 ((gI G1 (A1 0 23) 1) + x2)) A1 L1 P1) (pl_sI (rfl : sI G1 (A1 0 23) 1 ((gI G1 (A1 0 23) 1) + x2) = sI G1 (A1 0 23) 1 ((gI G1 (A1 0 23) 1) + x2)) hS1 (s0_23 hS1))
    have hx5 : Xt (pl G A L P) A (pl (sI G1 (A1 0 23) 1 ((gI G1 (A1 0 23) 1) + x2)) A1 L1 P1) A1 := Xt_sI (rfl : sI G1 (A1 0 23) 1 ((gI G1 (A1 0 23) 1) + x2) = sI G1 (A1 0 23) 1 ((gI G1 (A1 0 23) 1) + x2)) hx1
    exact qx_v hS5 hx5 h
  · have h := h.2 hc
    refine ⟨hS.o (s0_23 hS), ?_⟩
    rw [l0_23_2 hS]
    rw [l0_23_0 hS]
    refine ⟨hS.o (s0_24 hS), ?_⟩
    rw [l0_23_3 hS]
    refine ⟨hS.o (s0_27 hS), ?_⟩
    obtain ⟨hi6, h⟩ := h
    refine ⟨by first | (rw [(n0_27 hS)]; exact hi6) | exact (congrArg (vp_in _) (n0_27 hS)).mpr hi6 | exact hi6, ?_⟩
    refine ⟨hS.o (s0_26 hS), ?_⟩
    obtain ⟨hi7, h⟩ := h
    refine ⟨by first | (rw [(n0_26 hS)]; exact hi7) | exact (congrArg (vp_in _) (n0_26 hS)).mpr hi7 | exact hi7, ?_⟩
    have hS8 : Sh E (sI G (A 0 26) (Int32.toNatClampNeg ((gI G (A 0 23) 1) + x4)) ((gI G (A 0 24) 1) + (gI G (A 0 27) (Int32.toNatClampNeg x4)))) A L P := Sh_sI (rfl : sI G (A 0 26) (Int32.toNatClampNeg ((gI G (A 0 23) 1) + x4)) ((gI G (A 0 24) 1) + (gI G (A 0 27) (Int32.toNatClampNeg x4))) = sI G (A 0 26) (Int32.toNatClampNeg ((gI G (A 0 23) 1) + x4)) ((gI G (A 0 24) 1) + (gI G (A 0 27) (Int32.toNatClampNeg x4)))) hS (s0_26 hS) (okT_0 rfl)
    have h := h (pl (sI G (A 0 26) (Int32.toNatClampNeg ((gI G (A 0 23) 1) + x4)) ((gI G (A 0 24) 1) + (gI G (A 0 27) (Int32.toNatClampNeg x4)))) A L P) (pl_sI (rfl : sI G (A 0 26) (Int32.toNatClampNeg ((gI G (A 0 23) 1) + x4)) ((gI G (A 0 24) 1) + (gI G (A 0 27) (Int32.toNatClampNeg x4))) = sI G (A 0 26) (Int32.toNatClampNeg ((gI G (A 0 23) 1) + x4)) ((gI G (A 0 24) 1) + (gI G (A 0 27) (Int32.toNatClampNeg x4)))) hS (s0_26 hS))
    have hx8 : Xt (pl G A L P) A (pl (sI G (A 0 26) (Int32.toNatClampNeg ((gI G (A 0 23) 1) + x4)) ((gI G (A 0 24) 1) + (gI G (A 0 27) (Int32.toNatClampNeg x4)))) A L P) A := Xt_sI (rfl : sI G (A 0 26) (Int32.toNatClampNeg ((gI G (A 0 23) 1) + x4)) ((gI G (A 0 24) 1) + (gI G (A 0 27) (Int32.toNatClampNeg x4))) = sI G (A 0 26) (Int32.toNatClampNeg ((gI G (A 0 23) 1) + x4)) ((gI G (A 0 24) 1) + (gI G (A 0 27) (Int32.toNatClampNeg x4)))) hx
    exact wp.mono (h (sI G (A 0 26) (Int32.toNatClampNeg ((gI G (A 0 23) 1) + x4)) ((gI G (A 0 24) 1) + (gI G (A 0 27) (Int32.toNatClampNeg x4)))) A ⟨L, P, rfl, hS8⟩) (fun r G' q => qx_trans hx8 q)
theorem w_X8_export_0 {E : EE} {d : Nat} {V : VH} {K : VH → Prop} {b1 c1 : Nat} (hB1 : BS (vL V) b1 c1) (h0 : 0 < d) (h : vMV E (d - 1) M_X0_keep [sl b1 c1, wi 0] V (fun V1 => vMV E (d - 1) M_X0_addNumber [sl b1 c1, wj (Int32.toInt64 (vI V1 0 23 1)), wi 2] V1 (fun V5 => vMV E (d - 1) M_X0_addAll [sl b1 c1, sl 0 24, wi 0, wi (vI V5 0 24 1)] V5 (fun V9 => vMJ E (d - 1) M_X0_sum [sl b1 c1, wi 0, wi (vI V9 b1 c1 1)] V9 (fun r13 V13 => vMV E (d - 1) M_X0_addNumber [sl b1 c1, wj r13, wi 8] V13 (fun V17 => K V17)))))) : vMV E d M_X8_export [sl 0 23, sl b1 c1] V K := by
  intro G A hR
  obtain ⟨L, P, rfl, hS⟩ := hR
  have hx := Xt.refl (V := pl G A L P) (A := A)
  show wpM E d M_X8_export [vr (A 0 23), vr (A b1 c1)] G _
  refine wpM_of mk_X8_export (Nat.le_of_ble_eq_true rfl) ?_
  refine v_X8_export_0 h0 ?_
  refine ⟨hS.o (BS.o hB1), ?_⟩
  refine wpM.mono (h G A ⟨L, P, rfl, hS⟩) (fun rr1 G1 hr => ?_)
  obtain ⟨A1, W1, w1, ⟨L1, P1, rfl, hS1⟩, hy1, rfl, rfl, h⟩ := hr
  refine ⟨rfl, ?_⟩
  have hx1 := Xt.trans hx hy1
  have hg2 : BS L1 b1 c1 := BS.up hy1 hB1
  have ee3 : A1 0 23 = A 0 23 := hy1.2 _ _ hS.1.1 (((n0_23 hS1)).trans ((n0_23 hS)).symm)
  try rw [← ee3]
  have ee4 : A1 b1 c1 = A b1 c1 := hy1.2 _ _ hB1.1 (((BS.n hg2 hS1)).trans ((BS.n hB1 hS)).symm)
  try rw [← ee4]
  refine ⟨hS1.o (s0_23 hS1), ?_⟩
  refine ⟨hS1.o (BS.o hg2), ?_⟩
  refine wpM.mono (h G1 A1 ⟨L1, P1, rfl, hS1⟩) (fun rr5 G5 hr => ?_)
  obtain ⟨A5, W5, w5, ⟨L5, P5, rfl, hS5⟩, hy5, rfl, rfl, h⟩ := hr
  refine ⟨rfl, ?_⟩
  have hx5 := Xt.trans hx1 hy5
  have hg6 : BS L5 b1 c1 := BS.up hy5 hg2
  have ee7 : A5 0 23 = A1 0 23 := hy5.2 _ _ hS1.1.1 (((n0_23 hS5)).trans ((n0_23 hS1)).symm)
  try rw [← ee7]
  have ee8 : A5 b1 c1 = A1 b1 c1 := hy5.2 _ _ hg2.1 (((BS.n hg6 hS5)).trans ((BS.n hg2 hS1)).symm)
  try rw [← ee8]
  refine ⟨hS5.o (s0_23 hS5), ?_⟩
  rw [l0_23_0 hS5]
  refine ⟨hS5.o (s0_24 hS5), ?_⟩
  refine ⟨hS5.o (BS.o hg6), ?_⟩
  refine wpM.mono (h G5 A5 ⟨L5, P5, rfl, hS5⟩) (fun rr9 G9 hr => ?_)
  obtain ⟨A9, W9, w9, ⟨L9, P9, rfl, hS9⟩, hy9, rfl, rfl, h⟩ := hr
  refine ⟨rfl, ?_⟩
  have hx9 := Xt.trans hx5 hy9
  have hg10 : BS L9 b1 c1 := BS.up hy9 hg6
  have ee11 : A9 0 23 = A5 0 23 := hy9.2 _ _ hS5.1.1 (((n0_23 hS9)).trans ((n0_23 hS5)).symm)
  try rw [← ee11]
  have ee12 : A9 b1 c1 = A5 b1 c1 := hy9.2 _ _ hg6.1 (((BS.n hg10 hS9)).trans ((BS.n hg6 hS5)).symm)
  try rw [← ee12]
  refine ⟨hS9.o (BS.o hg10), ?_⟩
  refine wpM.mono (h G9 A9 ⟨L9, P9, rfl, hS9⟩) (fun rr13 G13 hr => ?_)
  obtain ⟨A13, W13, w13, ⟨L13, P13, rfl, hS13⟩, hy13, rfl, r13, rfl, h⟩ := hr
  refine ⟨r13, rfl, ?_⟩
  have hx13 := Xt.trans hx9 hy13
  have hg14 : BS L13 b1 c1 := BS.up hy13 hg10
  have ee15 : A13 0 23 = A9 0 23 := hy13.2 _ _ hS9.1.1 (((n0_23 hS13)).trans ((n0_23 hS9)).symm)
  try rw [← ee15]
  have ee16 : A13 b1 c1 = A9 b1 c1 := hy13.2 _ _ hg10.1 (((BS.n hg14 hS13)).trans ((BS.n hg10 hS9)).symm)
  try rw [← ee16]
  refine ⟨hS13.o (BS.o hg14), ?_⟩
  refine wpM.mono (h G13 A13 ⟨L13, P13, rfl, hS13⟩) (fun rr17 G17 hr => ?_)
  obtain ⟨A17, W17, w17, ⟨L17, P17, rfl, hS17⟩, hy17, rfl, rfl, h⟩ := hr
  refine ⟨rfl, ?_⟩
  have hx17 := Xt.trans hx13 hy17
  have hg18 : BS L17 b1 c1 := BS.up hy17 hg14
  have ee19 : A17 0 23 = A13 0 23 := hy17.2 _ _ hS13.1.1 (((n0_23 hS17)).trans ((n0_23 hS13)).symm)
  try rw [← ee19]
  have ee20 : A17 b1 c1 = A13 b1 c1 := hy17.2 _ _ hg14.1 (((BS.n hg18 hS17)).trans ((BS.n hg14 hS13)).symm)
  try rw [← ee20]
  exact qx_v hS17 hx17 h
theorem w_X8_lose_0 {E : EE} {d : Nat} {V : VH} {K : Int32 → VH → Prop} {x1 : Int32}  (h : (0 ≤ (vI V 0 23 4) → (¬ (vI V 0 23 4) = 0 → vp_in ((vI V 0 23 4) - 1) 100 ∧ (vwp E d M_X8_lose 34 [some (sl 0 23), some (wi x1), none] [wi (vI V 0 26 (Int32.toNatClampNeg ((vI V 0 23 4) - 1)))] V (zi K))) ∧ ((vI V 0 23 4) = 0 → vwp E d M_X8_lose 34 [some (sl 0 23), some (wi x1), none] [wi 0] V (zi K))) ∧ (¬ (0 ≤ (vI V 0 23 4)) → K (vI V 0 23 1) V)) : vMI E d M_X8_lose [sl 0 23, wi x1] V K := by
  intro G A hR
  obtain ⟨L, P, rfl, hS⟩ := hR
  have hx := Xt.refl (V := pl G A L P) (A := A)
  show wpM E d M_X8_lose [vr (A 0 23), vi x1] G _
  refine wpM_of mk_X8_lose (Nat.le_of_ble_eq_true rfl) ?_
  refine v_X8_lose_0 ?_
  refine ⟨hS.o (s0_23 hS), ?_⟩
  refine ⟨fun hc => ?_, fun hc => ?_⟩
  · have h := h.1 hc
    refine ⟨fun hc => ?_, fun hc => ?_⟩
    · have h := h.1 hc
      rw [l0_23_2 hS]
      refine ⟨hS.o (s0_26 hS), ?_⟩
      obtain ⟨hi1, h⟩ := h
      refine ⟨by first | (rw [(n0_26 hS)]; exact hi1) | exact (congrArg (vp_in _) (n0_26 hS)).mpr hi1 | exact hi1, ?_⟩
      exact wp.mono (h G A ⟨L, P, rfl, hS⟩) (fun r G' q => qx_trans hx q)
    · have h := h.2 hc
      exact wp.mono (h G A ⟨L, P, rfl, hS⟩) (fun r G' q => qx_trans hx q)
  · have h := h.2 hc
    exact qx_i hS hx h
theorem w_X8_lose_34 {E : EE} {d : Nat} {V : VH} {K : Int32 → VH → Prop} {x1 : Int32} {t0 : Int32}  (h : vwp E d M_X8_lose 35 [some (sl 0 23), some (wi x1), some (wi t0)] [] V (zi K)) : vwp E d M_X8_lose 34 [some (sl 0 23), some (wi x1), none] [wi t0] V (zi K) := by
  intro G A hR
  obtain ⟨L, P, rfl, hS⟩ := hR
  have hx := Xt.refl (V := pl G A L P) (A := A)
  show wp E d M_X8_lose 34 [some (vr (A 0 23)), some (vi x1), none] [vi t0] G _
  refine v_X8_lose_34 ?_
  exact wp.mono (h G A ⟨L, P, rfl, hS⟩) (fun r G' q => qx_trans hx q)
theorem w_X8_lose_35 {E : EE} {d : Nat} {V : VH} {K : Int32 → VH → Prop} {x1 : Int32} {x2 : Int32}  (h : ((vI V 0 23 1) ≤ (vI V 0 23 4) → vwp E d M_X8_lose 76 [some (sl 0 23), some (wi x1), some (wi x2)] [] V (zi K)) ∧ (¬ ((vI V 0 23 1) ≤ (vI V 0 23 4)) → vp_in ((vI V 0 23 1) - 1) 100 ∧ ((((vI V 0 26 (Int32.toNatClampNeg ((vI V 0 23 1) - 1))) - x2) ≤ x1 → vwp E d M_X8_lose 76 [some (sl 0 23), some (wi x1), some (wi x2)] [] V (zi K)) ∧ (¬ (((vI V 0 26 (Int32.toNatClampNeg ((vI V 0 23 1) - 1))) - x2) ≤ x1) → ∀ V2 : VH, V2 = wrI V 0 23 1 ((vI V 0 23 1) - 1) → vwp E d M_X8_lose 35 [some (sl 0 23), some (wi x1), some (wi x2)] [] V2 (zi K))))) : vwp E d M_X8_lose 35 [some (sl 0 23), some (wi x1), some (wi x2)] [] V (zi K) := by
  intro G A hR
  obtain ⟨L, P, rfl, hS⟩ := hR
  have hx := Xt.refl (V := pl G A L P) (A := A)
  show wp E d M_X8_lose 35 [some (vr (A 0 23)), some (vi x1), some (vi x2)] [] G _
  refine v_X8_lose_35 ?_
  refine ⟨hS.o (s0_23 hS), ?_⟩
  refine ⟨fun hc => ?_, fun hc => ?_⟩
  · have h := h.1 hc
    exact wp.mono (h G A ⟨L, P, rfl, hS⟩) (fun r G' q => qx_trans hx q)
  · have h := h.2 hc
    rw [l0_23_2 hS]
    refine ⟨hS.o (s0_26 hS), ?_⟩
    obtain ⟨hi1, h⟩ := h
    refine ⟨by first | (rw [(n0_26 hS)]; exact hi1) | exact (congrArg (vp_in _) (n0_26 hS)).mpr hi1 | exact hi1, ?_⟩
    refine ⟨fun hc => ?_, fun hc => ?_⟩
    · have h := h.1 hc
      exact wp.mono (h G A ⟨L, P, rfl, hS⟩) (fun r G' q => qx_trans hx q)
    · have h := h.2 hc
      have hS2 : Sh E (sI G (A 0 23) 1 ((gI G (A 0 23) 1) - 1)) A L P := Sh_sI (rfl : sI G (A 0 23) 1 ((gI G (A 0 23) 1) - 1) = sI G (A 0 23) 1 ((gI G (A 0 23) 1) - 1)) hS (s0_23 hS) (okT_0 rfl)
      have h := h (pl (sI G (A 0 23) 1 ((gI G (A 0 23) 1) - 1)) A L P) (pl_sI (rfl : sI G (A 0 23) 1 ((gI G (A 0 23) 1) - 1) = sI G (A 0 23) 1 ((gI G (A 0 23) 1) - 1)) hS (s0_23 hS))
      have hx2 : Xt (pl G A L P) A (pl (sI G (A 0 23) 1 ((gI G (A 0 23) 1) - 1)) A L P) A := Xt_sI (rfl : sI G (A 0 23) 1 ((gI G (A 0 23) 1) - 1) = sI G (A 0 23) 1 ((gI G (A 0 23) 1) - 1)) hx
      exact wp.mono (h (sI G (A 0 23) 1 ((gI G (A 0 23) 1) - 1)) A ⟨L, P, rfl, hS2⟩) (fun r G' q => qx_trans hx2 q)
theorem w_X8_lose_76 {E : EE} {d : Nat} {V : VH} {K : Int32 → VH → Prop} {x1 : Int32} {x2 : Int32}  (h : (¬ (vI V 0 23 1) = 0 → vp_in ((vI V 0 23 1) - 1) 100 ∧ (vwp E d M_X8_lose 102 [some (sl 0 23), some (wi x1), some (wi x2)] [wi (vI V 0 26 (Int32.toNatClampNeg ((vI V 0 23 1) - 1))), sl 0 24] V (zi K))) ∧ ((vI V 0 23 1) = 0 → vwp E d M_X8_lose 102 [some (sl 0 23), some (wi x1), some (wi x2)] [wi 0, sl 0 24] V (zi K))) : vwp E d M_X8_lose 76 [some (sl 0 23), some (wi x1), some (wi x2)] [] V (zi K) := by
  intro G A hR
  obtain ⟨L, P, rfl, hS⟩ := hR
  have hx := Xt.refl (V := pl G A L P) (A := A)
  show wp E d M_X8_lose 76 [some (vr (A 0 23)), some (vi x1), some (vi x2)] [] G _
  refine v_X8_lose_76 ?_
  refine ⟨hS.o (s0_23 hS), ?_⟩
  rw [l0_23_0 hS]
  refine ⟨fun hc => ?_, fun hc => ?_⟩
  · have h := h.1 hc
    rw [l0_23_2 hS]
    refine ⟨hS.o (s0_26 hS), ?_⟩
    obtain ⟨hi1, h⟩ := h
    refine ⟨by first | (rw [(n0_26 hS)]; exact hi1) | exact (congrArg (vp_in _) (n0_26 hS)).mpr hi1 | exact hi1, ?_⟩
    exact wp.mono (h G A ⟨L, P, rfl, hS⟩) (fun r G' q => qx_trans hx q)
  · have h := h.2 hc
    exact wp.mono (h G A ⟨L, P, rfl, hS⟩) (fun r G' q => qx_trans hx q)
theorem w_X8_lose_102 {E : EE} {d : Nat} {V : VH} {K : Int32 → VH → Prop} {x1 : Int32} {x2 : Int32} {b90 c90 : Nat} {t1 : Int32} (hB90 : BS (vL V) b90 c90) (h0 : 0 < d) (h : vMV E (d - 1) M_X0_keep [sl b90 c90, wi t1] V (fun V1 => ∀ V4 : VH, V4 = wrI V1 0 23 4 (-1) → K (vI V4 0 23 1) V4)) : vwp E d M_X8_lose 102 [some (sl 0 23), some (wi x1), some (wi x2)] [wi t1, sl b90 c90] V (zi K) := by
  intro G A hR
  obtain ⟨L, P, rfl, hS⟩ := hR
  have hx := Xt.refl (V := pl G A L P) (A := A)
  show wp E d M_X8_lose 102 [some (vr (A 0 23)), some (vi x1), some (vi x2)] [vi t1, vr (A b90 c90)] G _
  refine v_X8_lose_102 h0 ?_
  refine ⟨hS.o (BS.o hB90), ?_⟩
  refine wpM.mono (h G A ⟨L, P, rfl, hS⟩) (fun rr1 G1 hr => ?_)
  obtain ⟨A1, W1, w1, ⟨L1, P1, rfl, hS1⟩, hy1, rfl, rfl, h⟩ := hr
  refine ⟨rfl, ?_⟩
  have hx1 := Xt.trans hx hy1
  have hg2 : BS L1 b90 c90 := BS.up hy1 hB90
  have ee3 : A1 0 23 = A 0 23 := hy1.2 _ _ hS.1.1 (((n0_23 hS1)).trans ((n0_23 hS)).symm)
  try rw [← ee3]
  refine ⟨hS1.o (s0_23 hS1), ?_⟩
  have hS4 : Sh E (sI G1 (A1 0 23) 4 (-1)) A1 L1 P1 := Sh_sI (rfl : sI G1 (A1 0 23) 4 (-1) = sI G1 (A1 0 23) 4 (-1)) hS1 (s0_23 hS1) (okT_0 rfl)
  have h := h (pl (sI G1 (A1 0 23) 4 (-1)) A1 L1 P1) (pl_sI (rfl : sI G1 (A1 0 23) 4 (-1) = sI G1 (A1 0 23) 4 (-1)) hS1 (s0_23 hS1))
  have hx4 : Xt (pl G A L P) A (pl (sI G1 (A1 0 23) 4 (-1)) A1 L1 P1) A1 := Xt_sI (rfl : sI G1 (A1 0 23) 4 (-1) = sI G1 (A1 0 23) 4 (-1)) hx1
  exact qx_i hS4 hx4 h
theorem w_X8_start_0 {E : EE} {d : Nat} {V : VH} {K : Int32 → VH → Prop} {x1 : Int32}  (h : (x1 < 0 → K (-1) V) ∧ (¬ (x1 < 0) → ((vI V 0 23 1) ≤ x1 → K (-1) V) ∧ (¬ ((vI V 0 23 1) ≤ x1) → (x1 < 100 → (¬ x1 = 0 → vp_in (x1 - 1) 100 ∧ (K (vI V 0 26 (Int32.toNatClampNeg (x1 - 1))) V)) ∧ (x1 = 0 → K 0 V)) ∧ (¬ (x1 < 100) → K (-1) V)))) : vMI E d M_X8_start [sl 0 23, wi x1] V K := by
  intro G A hR
  obtain ⟨L, P, rfl, hS⟩ := hR
  have hx := Xt.refl (V := pl G A L P) (A := A)
  show wpM E d M_X8_start [vr (A 0 23), vi x1] G _
  refine wpM_of mk_X8_start (Nat.le_of_ble_eq_true rfl) ?_
  refine v_X8_start_0 ?_
  refine ⟨fun hc => ?_, fun hc => ?_⟩
  · have h := h.1 hc
    exact qx_i hS hx h
  · have h := h.2 hc
    refine ⟨hS.o (s0_23 hS), ?_⟩
    refine ⟨fun hc => ?_, fun hc => ?_⟩
    · have h := h.1 hc
      exact qx_i hS hx h
    · have h := h.2 hc
      refine ⟨fun hc => ?_, fun hc => ?_⟩
      · have h := h.1 hc
        refine ⟨fun hc => ?_, fun hc => ?_⟩
        · have h := h.1 hc
          rw [l0_23_2 hS]
          refine ⟨hS.o (s0_26 hS), ?_⟩
          obtain ⟨hi1, h⟩ := h
          refine ⟨by first | (rw [(n0_26 hS)]; exact hi1) | exact (congrArg (vp_in _) (n0_26 hS)).mpr hi1 | exact hi1, ?_⟩
          exact qx_i hS hx h
        · have h := h.2 hc
          exact qx_i hS hx h
      · have h := h.2 hc
        exact qx_i hS hx h
theorem w_X8_add_0 {E : EE} {d : Nat} {V : VH} {K : Int32 → VH → Prop} {g : Nat} (hg : PG (vL V) g) (h0 : 0 < d) (h : vMI E (d - 1) M_X8_stateLength [sl g 0] V (fun r1 V1 => vMI E (d - 1) M_X8_hasRoom [sl 0 23, wi 1, wi (((3 + (vI V g 1 1)) + r1) + 8)] V1 (fun r5 V5 => (¬ r5 = 0 → vMV E (d - 1) M_X0_add [sl 0 24, wi 211] V5 (fun V9 => vMV E (d - 1) M_X0_addNumber [sl 0 24, wj (Int32.toInt64 (vI V9 g 1 1)), wi 2] V9 (fun V13 => vMV E (d - 1) M_X0_addAll [sl 0 24, sl g 1, wi 0, wi (vI V13 g 1 1)] V13 (fun V17 => vwp E d M_X8_add 86 [some (sl 0 23), some (sl g 0), some (wi (vI V 0 24 1)), some (wi (((3 + (vI V g 1 1)) + r1) + 8)), some (wi 0)] [] V17 (zi K))))) ∧ (r5 = 0 → K (-100000) V5)))) : vMI E d M_X8_add [sl 0 23, sl g 0] V K := by
  intro G A hR
  obtain ⟨L, P, rfl, hS⟩ := hR
  have hx := Xt.refl (V := pl G A L P) (A := A)
  show wpM E d M_X8_add [vr (A 0 23), vr (A g 0)] G _
  refine wpM_of mk_X8_add (Nat.le_of_ble_eq_true rfl) ?_
  refine v_X8_add_0 h0 ?_
  refine ⟨hS.o (s0_23 hS), ?_⟩
  rw [l0_23_0 hS]
  refine ⟨hS.o (s0_24 hS), ?_⟩
  refine ⟨hS.o (sP_0 hg), ?_⟩
  rw [lP_0_1 hS hg]
  refine ⟨hS.o (sP_1 hg), ?_⟩
  refine wpM.mono (h G A ⟨L, P, rfl, hS⟩) (fun rr1 G1 hr => ?_)
  obtain ⟨A1, W1, w1, ⟨L1, P1, rfl, hS1⟩, hy1, rfl, r1, rfl, h⟩ := hr
  refine ⟨r1, rfl, ?_⟩
  have hx1 := Xt.trans hx hy1
  have hg2 : PG L1 g := PG.up hy1 hg
  have ee3 : A1 0 23 = A 0 23 := hy1.2 _ _ hS.1.1 (((n0_23 hS1)).trans ((n0_23 hS)).symm)
  try rw [← ee3]
  have ee4 : A1 g 0 = A g 0 := hy1.2 _ _ hg.1 (((nP_0 hS1 hg2)).trans ((nP_0 hS hg)).symm)
  try rw [← ee4]
  refine ⟨hS1.o (s0_23 hS1), ?_⟩
  refine wpM.mono (h G1 A1 ⟨L1, P1, rfl, hS1⟩) (fun rr5 G5 hr => ?_)
  obtain ⟨A5, W5, w5, ⟨L5, P5, rfl, hS5⟩, hy5, rfl, r5, rfl, h⟩ := hr
  refine ⟨r5, rfl, ?_⟩
  have hx5 := Xt.trans hx1 hy5
  have hg6 : PG L5 g := PG.up hy5 hg2
  have ee7 : A5 0 23 = A1 0 23 := hy5.2 _ _ hS1.1.1 (((n0_23 hS5)).trans ((n0_23 hS1)).symm)
  try rw [← ee7]
  have ee8 : A5 g 0 = A1 g 0 := hy5.2 _ _ hg2.1 (((nP_0 hS5 hg6)).trans ((nP_0 hS1 hg2)).symm)
  try rw [← ee8]
  refine ⟨fun hc => ?_, fun hc => ?_⟩
  · have h := h.1 hc
    refine ⟨hS5.o (s0_23 hS5), ?_⟩
    rw [l0_23_0 hS5]
    refine ⟨hS5.o (s0_24 hS5), ?_⟩
    refine wpM.mono (h G5 A5 ⟨L5, P5, rfl, hS5⟩) (fun rr9 G9 hr => ?_)
    obtain ⟨A9, W9, w9, ⟨L9, P9, rfl, hS9⟩, hy9, rfl, rfl, h⟩ := hr
    refine ⟨rfl, ?_⟩
    have hx9 := Xt.trans hx5 hy9
    have hg10 : PG L9 g := PG.up hy9 hg6
    have ee11 : A9 0 23 = A5 0 23 := hy9.2 _ _ hS5.1.1 (((n0_23 hS9)).trans ((n0_23 hS5)).symm)
    try rw [← ee11]
    have ee12 : A9 g 0 = A5 g 0 := hy9.2 _ _ hg6.1 (((nP_0 hS9 hg10)).trans ((nP_0 hS5 hg6)).symm)
    try rw [← ee12]
    refine ⟨hS9.o (s0_23 hS9), ?_⟩
    rw [l0_23_0 hS9]
    refine ⟨hS9.o (sP_0 hg10), ?_⟩
    rw [lP_0_1 hS9 hg10]
    refine ⟨hS9.o (sP_1 hg10), ?_⟩
    refine ⟨hS9.o (s0_24 hS9), ?_⟩
    refine wpM.mono (h G9 A9 ⟨L9, P9, rfl, hS9⟩) (fun rr13 G13 hr => ?_)
    obtain ⟨A13, W13, w13, ⟨L13, P13, rfl, hS13⟩, hy13, rfl, rfl, h⟩ := hr
    refine ⟨rfl, ?_⟩
    have hx13 := Xt.trans hx9 hy13
    have hg14 : PG L13 g := PG.up hy13 hg10
    have ee15 : A13 0 23 = A9 0 23 := hy13.2 _ _ hS9.1.1 (((n0_23 hS13)).trans ((n0_23 hS9)).symm)
    try rw [← ee15]
    have ee16 : A13 g 0 = A9 g 0 := hy13.2 _ _ hg10.1 (((nP_0 hS13 hg14)).trans ((nP_0 hS9 hg10)).symm)
    try rw [← ee16]
    refine ⟨hS13.o (s0_23 hS13), ?_⟩
    rw [l0_23_0 hS13]
    refine ⟨hS13.o (sP_0 hg14), ?_⟩
    rw [lP_0_1 hS13 hg14]
    refine ⟨hS13.o (sP_1 hg14), ?_⟩
    refine ⟨hS13.o (s0_24 hS13), ?_⟩
    refine wpM.mono (h G13 A13 ⟨L13, P13, rfl, hS13⟩) (fun rr17 G17 hr => ?_)
    obtain ⟨A17, W17, w17, ⟨L17, P17, rfl, hS17⟩, hy17, rfl, rfl, h⟩ := hr
    refine ⟨rfl, ?_⟩
    have hx17 := Xt.trans hx13 hy17
    have hg18 : PG L17 g := PG.up hy17 hg14
    have ee19 : A17 0 23 = A13 0 23 := hy17.2 _ _ hS13.1.1 (((n0_23 hS17)).trans ((n0_23 hS13)).symm)
    try rw [← ee19]
    have ee20 : A17 g 0 = A13 g 0 := hy17.2 _ _ hg14.1 (((nP_0 hS17 hg18)).trans ((nP_0 hS13 hg14)).symm)
    try rw [← ee20]
    exact wp.mono (h G17 A17 ⟨L17, P17, rfl, hS17⟩) (fun r G' q => qx_trans hx17 q)
  · have h := h.2 hc
    exact qx_i hS5 hx5 h
theorem w_X8_add_86 {E : EE} {d : Nat} {V : VH} {K : Int32 → VH → Prop} {g : Nat} {x2 : Int32} {x3 : Int32} {x4 : Int32} (hg : PG (vL V) g) (h0 : 0 < d) (h : ((vI V g 4 (Int32.toNatClampNeg 0)) ≤ x4 → vwp E d M_X8_add 122 [some (sl 0 23), some (sl g 0), some (wi x2), some (wi x3), some (wi 0)] [] V (zi K)) ∧ (¬ ((vI V g 4 (Int32.toNatClampNeg 0)) ≤ x4) → vp_in x4 16 ∧ (vMV E (d - 1) M_X0_addNumber [sl 0 24, wj (Int32.toInt64 (vI V g 23 (Int32.toNatClampNeg x4))), wi 4] V (fun V3 => vwp E d M_X8_add 86 [some (sl 0 23), some (sl g 0), some (wi x2), some (wi x3), some (wi (x4 + 1))] [] V3 (zi K))))) : vwp E d M_X8_add 86 [some (sl 0 23), some (sl g 0), some (wi x2), some (wi x3), some (wi x4)] [] V (zi K) := by
  intro G A hR
  obtain ⟨L, P, rfl, hS⟩ := hR
  have hx := Xt.refl (V := pl G A L P) (A := A)
  show wp E d M_X8_add 86 [some (vr (A 0 23)), some (vr (A g 0)), some (vi x2), some (vi x3), some (vi x4)] [] G _
  refine v_X8_add_86 h0 ?_
  refine ⟨hS.o (sP_0 hg), ?_⟩
  rw [lP_0_3 hS hg]
  refine ⟨hS.o (sP_4 hg), ?_⟩
  refine ⟨by first | (rw [(nP_4 hS hg)]; unfold vp_in; decide) | exact (congrArg (vp_in _) (nP_4 hS hg)).mpr (by unfold vp_in; decide) | (unfold vp_in; decide), ?_⟩
  refine ⟨fun hc => ?_, fun hc => ?_⟩
  · have h := h.1 hc
    exact wp.mono (h G A ⟨L, P, rfl, hS⟩) (fun r G' q => qx_trans hx q)
  · have h := h.2 hc
    refine ⟨hS.o (s0_23 hS), ?_⟩
    rw [l0_23_0 hS]
    rw [lP_0_7 hS hg]
    refine ⟨hS.o (sP_23 hg), ?_⟩
    obtain ⟨hi2, h⟩ := h
    refine ⟨by first | (rw [(nP_23 hS hg)]; exact hi2) | exact (congrArg (vp_in _) (nP_23 hS hg)).mpr hi2 | exact hi2, ?_⟩
    refine ⟨hS.o (s0_24 hS), ?_⟩
    refine wpM.mono (h G A ⟨L, P, rfl, hS⟩) (fun rr3 G3 hr => ?_)
    obtain ⟨A3, W3, w3, ⟨L3, P3, rfl, hS3⟩, hy3, rfl, rfl, h⟩ := hr
    refine ⟨rfl, ?_⟩
    have hx3 := Xt.trans hx hy3
    have hg4 : PG L3 g := PG.up hy3 hg
    have ee5 : A3 0 23 = A 0 23 := hy3.2 _ _ hS.1.1 (((n0_23 hS3)).trans ((n0_23 hS)).symm)
    try rw [← ee5]
    have ee6 : A3 g 0 = A g 0 := hy3.2 _ _ hg.1 (((nP_0 hS3 hg4)).trans ((nP_0 hS hg)).symm)
    try rw [← ee6]
    exact wp.mono (h G3 A3 ⟨L3, P3, rfl, hS3⟩) (fun r G' q => qx_trans hx3 q)
theorem w_X8_add_122 {E : EE} {d : Nat} {V : VH} {K : Int32 → VH → Prop} {g : Nat} {x2 : Int32} {x3 : Int32} {x4 : Int32} (hg : PG (vL V) g) (h0 : 0 < d) (h : ((vI V g 5 0) ≤ x4 → vMV E (d - 1) M_X0_addNumber [sl 0 24, wj (Int32.toInt64 (vI V g 0 9)), wi 2] V (fun V1 => vMJ E (d - 1) M_X0_sum [sl 0 24, wi x2, wi (vI V1 0 24 1)] V1 (fun r5 V5 => vMV E (d - 1) M_X0_addNumber [sl 0 24, wj r5, wi 8] V5 (fun V10 => ∀ V14 : VH, V14 = wrI V10 0 23 4 (vI V10 0 23 1) → vp_in (vI V14 0 23 1) 100 ∧ (∀ V16 : VH, V16 = wrI V14 0 26 (Int32.toNatClampNeg (vI V14 0 23 1)) (vI V14 0 24 1) → ∀ V17 : VH, V17 = wrI V16 0 23 1 ((vI V16 0 23 1) + 1) → K (vI V16 0 23 1) V17))))) ∧ (¬ ((vI V g 5 0) ≤ x4) → vMI E (d - 1) M_X7_valueOf [sl g 5, wi (vI V g 0 8), wi x4] V (fun r18 V18 => vMV E (d - 1) M_X0_add [sl 0 24, wi r18] V18 (fun V23 => vp_in x4 12 ∧ (vMV E (d - 1) M_X0_addNumber [sl 0 24, wj (Int32.toInt64 (vI V23 g 24 (Int32.toNatClampNeg x4))), wi 2] V23 (fun V28 => vwp E d M_X8_add 122 [some (sl 0 23), some (sl g 0), some (wi x2), some (wi x3), some (wi (x4 + 1))] [] V28 (zi K))))))) : vwp E d M_X8_add 122 [some (sl 0 23), some (sl g 0), some (wi x2), some (wi x3), some (wi x4)] [] V (zi K) := by
  intro G A hR
  obtain ⟨L, P, rfl, hS⟩ := hR
  have hx := Xt.refl (V := pl G A L P) (A := A)
  show wp E d M_X8_add 122 [some (vr (A 0 23)), some (vr (A g 0)), some (vi x2), some (vi x3), some (vi x4)] [] G _
  refine v_X8_add_122 h0 ?_
  refine ⟨hS.o (sP_0 hg), ?_⟩
  rw [lP_0_4 hS hg]
  refine ⟨hS.o (sP_5 hg), ?_⟩
  refine ⟨fun hc => ?_, fun hc => ?_⟩
  · have h := h.1 hc
    refine ⟨hS.o (s0_23 hS), ?_⟩
    rw [l0_23_0 hS]
    refine ⟨hS.o (s0_24 hS), ?_⟩
    refine wpM.mono (h G A ⟨L, P, rfl, hS⟩) (fun rr1 G1 hr => ?_)
    obtain ⟨A1, W1, w1, ⟨L1, P1, rfl, hS1⟩, hy1, rfl, rfl, h⟩ := hr
    refine ⟨rfl, ?_⟩
    have hx1 := Xt.trans hx hy1
    have hg2 : PG L1 g := PG.up hy1 hg
    have ee3 : A1 0 23 = A 0 23 := hy1.2 _ _ hS.1.1 (((n0_23 hS1)).trans ((n0_23 hS)).symm)
    try rw [← ee3]
    have ee4 : A1 g 0 = A g 0 := hy1.2 _ _ hg.1 (((nP_0 hS1 hg2)).trans ((nP_0 hS hg)).symm)
    try rw [← ee4]
    refine ⟨hS1.o (s0_23 hS1), ?_⟩
    rw [l0_23_0 hS1]
    refine ⟨hS1.o (s0_24 hS1), ?_⟩
    refine wpM.mono (h G1 A1 ⟨L1, P1, rfl, hS1⟩) (fun rr5 G5 hr => ?_)
    obtain ⟨A5, W5, w5, ⟨L5, P5, rfl, hS5⟩, hy5, rfl, r5, rfl, h⟩ := hr
    refine ⟨r5, rfl, ?_⟩
    have hx5 := Xt.trans hx1 hy5
    have hg6 : PG L5 g := PG.up hy5 hg2
    have ee7 : A5 0 23 = A1 0 23 := hy5.2 _ _ hS1.1.1 (((n0_23 hS5)).trans ((n0_23 hS1)).symm)
    try rw [← ee7]
    have ee8 : A5 0 24 = A1 0 24 := hy5.2 _ _ hS1.1.1 (((n0_24 hS5)).trans ((n0_24 hS1)).symm)
    try rw [← ee8]
    have ee9 : A5 g 0 = A1 g 0 := hy5.2 _ _ hg2.1 (((nP_0 hS5 hg6)).trans ((nP_0 hS1 hg2)).symm)
    try rw [← ee9]
    refine ⟨hS5.o (s0_24 hS5), ?_⟩
    refine wpM.mono (h G5 A5 ⟨L5, P5, rfl, hS5⟩) (fun rr10 G10 hr => ?_)
    obtain ⟨A10, W10, w10, ⟨L10, P10, rfl, hS10⟩, hy10, rfl, rfl, h⟩ := hr
    refine ⟨rfl, ?_⟩
    have hx10 := Xt.trans hx5 hy10
    have hg11 : PG L10 g := PG.up hy10 hg6
    have ee12 : A10 0 23 = A5 0 23 := hy10.2 _ _ hS5.1.1 (((n0_23 hS10)).trans ((n0_23 hS5)).symm)
    try rw [← ee12]
    have ee13 : A10 g 0 = A5 g 0 := hy10.2 _ _ hg6.1 (((nP_0 hS10 hg11)).trans ((nP_0 hS5 hg6)).symm)
    try rw [← ee13]
    refine ⟨hS10.o (s0_23 hS10), ?_⟩
    intro G14 eG14
    have hS14 : Sh E G14 A10 L10 P10 := Sh_sI eG14 hS10 (s0_23 hS10) (okT_0 rfl)
    have h := h (pl G14 A10 L10 P10) (pl_sI eG14 hS10 (s0_23 hS10))
    have hx14 : Xt (pl G A L P) A (pl G14 A10 L10 P10) A10 := Xt_sI eG14 hx10
    rw [l0_23_2 hS14]
    rw [l0_23_0 hS14]
    refine ⟨hS14.o (s0_24 hS14), ?_⟩
    refine ⟨hS14.o (s0_26 hS14), ?_⟩
    obtain ⟨hi15, h⟩ := h
    refine ⟨by first | (rw [(n0_26 hS14)]; exact hi15) | exact (congrArg (vp_in _) (n0_26 hS14)).mpr hi15 | exact hi15, ?_⟩
    intro G16 eG16
    have hS16 : Sh E G16 A10 L10 P10 := Sh_sI eG16 hS14 (s0_26 hS14) (okT_0 rfl)
    have h := h (pl G16 A10 L10 P10) (pl_sI eG16 hS14 (s0_26 hS14))
    have hx16 : Xt (pl G A L P) A (pl G16 A10 L10 P10) A10 := Xt_sI eG16 hx14
    intro G17 eG17
    have hS17 : Sh E G17 A10 L10 P10 := Sh_sI eG17 hS16 (s0_23 hS16) (okT_0 rfl)
    have h := h (pl G17 A10 L10 P10) (pl_sI eG17 hS16 (s0_23 hS16))
    have hx17 : Xt (pl G A L P) A (pl G17 A10 L10 P10) A10 := Xt_sI eG17 hx16
    exact qx_i hS17 hx17 h
  · have h := h.2 hc
    refine ⟨hS.o (s0_23 hS), ?_⟩
    rw [l0_23_0 hS]
    refine wpM.mono (h G A ⟨L, P, rfl, hS⟩) (fun rr18 G18 hr => ?_)
    obtain ⟨A18, W18, w18, ⟨L18, P18, rfl, hS18⟩, hy18, rfl, r18, rfl, h⟩ := hr
    refine ⟨r18, rfl, ?_⟩
    have hx18 := Xt.trans hx hy18
    have hg19 : PG L18 g := PG.up hy18 hg
    have ee20 : A18 0 23 = A 0 23 := hy18.2 _ _ hS.1.1 (((n0_23 hS18)).trans ((n0_23 hS)).symm)
    try rw [← ee20]
    have ee21 : A18 0 24 = A 0 24 := hy18.2 _ _ hS.1.1 (((n0_24 hS18)).trans ((n0_24 hS)).symm)
    try rw [← ee21]
    have ee22 : A18 g 0 = A g 0 := hy18.2 _ _ hg.1 (((nP_0 hS18 hg19)).trans ((nP_0 hS hg)).symm)
    try rw [← ee22]
    refine ⟨hS18.o (s0_24 hS18), ?_⟩
    refine wpM.mono (h G18 A18 ⟨L18, P18, rfl, hS18⟩) (fun rr23 G23 hr => ?_)
    obtain ⟨A23, W23, w23, ⟨L23, P23, rfl, hS23⟩, hy23, rfl, rfl, h⟩ := hr
    refine ⟨rfl, ?_⟩
    have hx23 := Xt.trans hx18 hy23
    have hg24 : PG L23 g := PG.up hy23 hg19
    have ee25 : A23 0 23 = A18 0 23 := hy23.2 _ _ hS18.1.1 (((n0_23 hS23)).trans ((n0_23 hS18)).symm)
    try rw [← ee25]
    have ee26 : A23 g 0 = A18 g 0 := hy23.2 _ _ hg19.1 (((nP_0 hS23 hg24)).trans ((nP_0 hS18 hg19)).symm)
    try rw [← ee26]
    refine ⟨hS23.o (s0_23 hS23), ?_⟩
    rw [l0_23_0 hS23]
    refine ⟨hS23.o (sP_0 hg24), ?_⟩
    rw [lP_0_10 hS23 hg24]
    refine ⟨hS23.o (sP_24 hg24), ?_⟩
    obtain ⟨hi27, h⟩ := h
    refine ⟨by first | (rw [(nP_24 hS23 hg24)]; exact hi27) | exact (congrArg (vp_in _) (nP_24 hS23 hg24)).mpr hi27 | exact hi27, ?_⟩
    refine ⟨hS23.o (s0_24 hS23), ?_⟩
    refine wpM.mono (h G23 A23 ⟨L23, P23, rfl, hS23⟩) (fun rr28 G28 hr => ?_)
    obtain ⟨A28, W28, w28, ⟨L28, P28, rfl, hS28⟩, hy28, rfl, rfl, h⟩ := hr
    refine ⟨rfl, ?_⟩
    have hx28 := Xt.trans hx23 hy28
    have hg29 : PG L28 g := PG.up hy28 hg24
    have ee30 : A28 0 23 = A23 0 23 := hy28.2 _ _ hS23.1.1 (((n0_23 hS28)).trans ((n0_23 hS23)).symm)
    try rw [← ee30]
    have ee31 : A28 g 0 = A23 g 0 := hy28.2 _ _ hg24.1 (((nP_0 hS28 hg29)).trans ((nP_0 hS23 hg24)).symm)
    try rw [← ee31]
    exact wp.mono (h G28 A28 ⟨L28, P28, rfl, hS28⟩) (fun r G' q => qx_trans hx28 q)
theorem w_X5_read_0 {E : EE} {d : Nat} {V : VH} {K : Int32 → VH → Prop} {g : Nat} (hg : PG (vL V) g) (h0 : 0 < d) (h : ∀ V1 : VH, V1 = wrP V g → ∀ V2 : VH, V2 = wrQ V1 g → ∀ V3 : VH, V3 = wrI V2 0 7 7 0 → vMV E (d - 1) M_X3_clear [sl g 0] V3 (fun V4 => vMV E (d - 1) M_X10_scan [sl 0 2, sl g 1] V4 (fun V8 => vwp E d M_X5_read 35 [some (sl 0 7), some (sl g 0), some (wi 0), none] [] V8 (zi K)))) : vMI E d M_X5_read [sl 0 7, sl g 0] V K := by
  intro G A hR
  obtain ⟨L, P, rfl, hS⟩ := hR
  have hx := Xt.refl (V := pl G A L P) (A := A)
  show wpM E d M_X5_read [vr (A 0 7), vr (A g 0)] G _
  refine wpM_of mk_X5_read (Nat.le_of_ble_eq_true rfl) ?_
  refine v_X5_read_0 h0 ?_
  refine ⟨hS.o (s0_7 hS), ?_⟩
  intro G1 eG1
  have hS1 : Sh E G1 A L (g, (P).2) := Sh_sP eG1 hS
  have h := h (pl G1 A L (g, (P).2)) (pl_sP eG1)
  have hx1 : Xt (pl G A L P) A (pl G1 A L (g, (P).2)) A := Xt_sR eG1 hx
  refine ⟨hS1.o (sP_0 hg), ?_⟩
  rw [lP_0_5 hS1 hg]
  intro G2 eG2
  have hS2 : Sh E G2 A L (((g, (P).2)).1, g) := Sh_sQ eG2 hS1
  have h := h (pl G2 A L (((g, (P).2)).1, g)) (pl_sQ eG2)
  have hx2 : Xt (pl G A L P) A (pl G2 A L (((g, (P).2)).1, g)) A := Xt_sR eG2 hx1
  intro G3 eG3
  have hS3 : Sh E G3 A L (((g, (P).2)).1, g) := Sh_sI eG3 hS2 (s0_7 hS2) (okT_0 rfl)
  have h := h (pl G3 A L (((g, (P).2)).1, g)) (pl_sI eG3 hS2 (s0_7 hS2))
  have hx3 : Xt (pl G A L P) A (pl G3 A L (((g, (P).2)).1, g)) A := Xt_sI eG3 hx2
  refine wpM.mono (h G3 A ⟨L, (((g, (P).2)).1, g), rfl, hS3⟩) (fun rr4 G4 hr => ?_)
  obtain ⟨A4, W4, w4, ⟨L4, P4, rfl, hS4⟩, hy4, rfl, rfl, h⟩ := hr
  refine ⟨rfl, ?_⟩
  have hx4 := Xt.trans hx3 hy4
  have hg5 : PG L4 g := PG.up hy4 hg
  have ee6 : A4 0 7 = A 0 7 := hy4.2 _ _ hS3.1.1 (((n0_7 hS4)).trans ((n0_7 hS3)).symm)
  try rw [← ee6]
  have ee7 : A4 g 0 = A g 0 := hy4.2 _ _ hg.1 (((nP_0 hS4 hg5)).trans ((nP_0 hS3 hg)).symm)
  try rw [← ee7]
  refine ⟨hS4.o (s0_7 hS4), ?_⟩
  rw [l0_7_0 hS4]
  refine ⟨hS4.o (sP_0 hg5), ?_⟩
  rw [lP_0_1 hS4 hg5]
  refine ⟨hS4.o (s0_2 hS4), ?_⟩
  refine wpM.mono (h G4 A4 ⟨L4, P4, rfl, hS4⟩) (fun rr8 G8 hr => ?_)
  obtain ⟨A8, W8, w8, ⟨L8, P8, rfl, hS8⟩, hy8, rfl, rfl, h⟩ := hr
  refine ⟨rfl, ?_⟩
  have hx8 := Xt.trans hx4 hy8
  have hg9 : PG L8 g := PG.up hy8 hg5
  have ee10 : A8 0 7 = A4 0 7 := hy8.2 _ _ hS4.1.1 (((n0_7 hS8)).trans ((n0_7 hS4)).symm)
  try rw [← ee10]
  have ee11 : A8 g 0 = A4 g 0 := hy8.2 _ _ hg5.1 (((nP_0 hS8 hg9)).trans ((nP_0 hS4 hg5)).symm)
  try rw [← ee11]
  exact wp.mono (h G8 A8 ⟨L8, P8, rfl, hS8⟩) (fun r G' q => qx_trans hx8 q)
theorem w_X5_read_35 {E : EE} {d : Nat} {V : VH} {K : Int32 → VH → Prop} {g : Nat} {x2 : Int32} (hg : PG (vL V) g) (h0 : 0 < d) (h : ((vI V g 1 1) < x2 → K 0 V) ∧ (¬ ((vI V g 1 1) < x2) → (x2 ≤ 0 → vwp E d M_X5_read 65 [some (sl 0 7), some (sl g 0), some (wi x2), none] [] V (zi K)) ∧ (¬ (x2 ≤ 0) → (¬ (vI V 0 2 6) = 0 → vwp E d M_X5_read 65 [some (sl 0 7), some (sl g 0), some (wi x2), none] [] V (zi K)) ∧ ((vI V 0 2 6) = 0 → vMI E (d - 1) M_X5_isWhole [sl 0 7] V (fun r1 V1 => bz r1 ∧ K r1 V1))))) : vwp E d M_X5_read 35 [some (sl 0 7), some (sl g 0), some (wi x2), none] [] V (zi K) := by
  intro G A hR
  obtain ⟨L, P, rfl, hS⟩ := hR
  have hx := Xt.refl (V := pl G A L P) (A := A)
  show wp E d M_X5_read 35 [some (vr (A 0 7)), some (vr (A g 0)), some (vi x2), none] [] G _
  refine v_X5_read_35 h0 ?_
  refine ⟨hS.o (sP_0 hg), ?_⟩
  rw [lP_0_1 hS hg]
  refine ⟨hS.o (sP_1 hg), ?_⟩
  refine ⟨fun hc => ?_, fun hc => ?_⟩
  · have h := h.1 hc
    exact qx_i hS hx h
  · have h := h.2 hc
    refine ⟨fun hc => ?_, fun hc => ?_⟩
    · have h := h.1 hc
      exact wp.mono (h G A ⟨L, P, rfl, hS⟩) (fun r G' q => qx_trans hx q)
    · have h := h.2 hc
      refine ⟨hS.o (s0_7 hS), ?_⟩
      rw [l0_7_0 hS]
      refine ⟨hS.o (s0_2 hS), ?_⟩
      refine ⟨fun hc => ?_, fun hc => ?_⟩
      · have h := h.1 hc
        exact wp.mono (h G A ⟨L, P, rfl, hS⟩) (fun r G' q => qx_trans hx q)
      · have h := h.2 hc
        refine wpM.mono (h G A ⟨L, P, rfl, hS⟩) (fun rr1 G1 hr => ?_)
        obtain ⟨A1, W1, w1, ⟨L1, P1, rfl, hS1⟩, hy1, rfl, r1, rfl, h⟩ := hr
        refine ⟨r1, rfl, ?_⟩
        have hx1 := Xt.trans hx hy1
        have hg2 : PG L1 g := PG.up hy1 hg
        have ee3 : A1 0 7 = A 0 7 := hy1.2 _ _ hS.1.1 (((n0_7 hS1)).trans ((n0_7 hS)).symm)
        try rw [← ee3]
        have ee4 : A1 g 0 = A g 0 := hy1.2 _ _ hg.1 (((nP_0 hS1 hg2)).trans ((nP_0 hS hg)).symm)
        try rw [← ee4]
        exact ⟨bz_ok h.1, qx_i hS1 hx1 h.2⟩
theorem w_X5_read_65 {E : EE} {d : Nat} {V : VH} {K : Int32 → VH → Prop} {g : Nat} {x2 : Int32} (hg : PG (vL V) g) (h0 : 0 < d) (h : vMI E (d - 1) M_X10_is [sl 0 2, wi 0] V (fun r1 V1 => (r1 = 0 → vMI E (d - 1) M_X10_is [sl 0 2, wi 1] V1 (fun r5 V5 => (r5 = 0 → vMI E (d - 1) M_X10_is [sl 0 2, wi 3] V5 (fun r9 V9 => (r9 = 0 → vMI E (d - 1) M_X10_is [sl 0 2, wi 5] V9 (fun r13 V13 => (r13 = 0 → vMI E (d - 1) M_X10_refuse [sl 0 2] V13 (fun r17 V17 => vwp E d M_X5_read 149 [some (sl 0 7), some (sl g 0), some (wi x2), some (wi r17)] [] V17 (zi K))) ∧ (¬ (r13 = 0) → vMI E (d - 1) M_X5_aimStatement [sl 0 7] V13 (fun r21 V21 => vwp E d M_X5_read 149 [some (sl 0 7), some (sl g 0), some (wi x2), some (wi r21)] [] V21 (zi K))))) ∧ (¬ (r9 = 0) → vMI E (d - 1) M_X5_ruleStatement [sl 0 7] V9 (fun r25 V25 => vwp E d M_X5_read 149 [some (sl 0 7), some (sl g 0), some (wi x2), some (wi r25)] [] V25 (zi K))))) ∧ (¬ (r5 = 0) → vMI E (d - 1) M_X5_varStatement [sl 0 7] V5 (fun r29 V29 => vwp E d M_X5_read 149 [some (sl 0 7), some (sl g 0), some (wi x2), some (wi r29)] [] V29 (zi K))))) ∧ (¬ (r1 = 0) → vMI E (d - 1) M_X5_factStatement [sl 0 7] V1 (fun r33 V33 => vwp E d M_X5_read 149 [some (sl 0 7), some (sl g 0), some (wi x2), some (wi r33)] [] V33 (zi K))))) : vwp E d M_X5_read 65 [some (sl 0 7), some (sl g 0), some (wi x2), none] [] V (zi K) := by
  intro G A hR
  obtain ⟨L, P, rfl, hS⟩ := hR
  have hx := Xt.refl (V := pl G A L P) (A := A)
  show wp E d M_X5_read 65 [some (vr (A 0 7)), some (vr (A g 0)), some (vi x2), none] [] G _
  refine v_X5_read_65 h0 ?_
  refine ⟨hS.o (s0_7 hS), ?_⟩
  rw [l0_7_0 hS]
  refine ⟨hS.o (s0_2 hS), ?_⟩
  refine wpM.mono (h G A ⟨L, P, rfl, hS⟩) (fun rr1 G1 hr => ?_)
  obtain ⟨A1, W1, w1, ⟨L1, P1, rfl, hS1⟩, hy1, rfl, r1, rfl, h⟩ := hr
  refine ⟨r1, rfl, ?_⟩
  have hx1 := Xt.trans hx hy1
  have hg2 : PG L1 g := PG.up hy1 hg
  have ee3 : A1 0 7 = A 0 7 := hy1.2 _ _ hS.1.1 (((n0_7 hS1)).trans ((n0_7 hS)).symm)
  try rw [← ee3]
  have ee4 : A1 g 0 = A g 0 := hy1.2 _ _ hg.1 (((nP_0 hS1 hg2)).trans ((nP_0 hS hg)).symm)
  try rw [← ee4]
  refine ⟨fun hc => ?_, fun hc => ?_⟩
  · have h := h.1 hc
    refine ⟨hS1.o (s0_7 hS1), ?_⟩
    rw [l0_7_0 hS1]
    refine ⟨hS1.o (s0_2 hS1), ?_⟩
    refine wpM.mono (h G1 A1 ⟨L1, P1, rfl, hS1⟩) (fun rr5 G5 hr => ?_)
    obtain ⟨A5, W5, w5, ⟨L5, P5, rfl, hS5⟩, hy5, rfl, r5, rfl, h⟩ := hr
    refine ⟨r5, rfl, ?_⟩
    have hx5 := Xt.trans hx1 hy5
    have hg6 : PG L5 g := PG.up hy5 hg2
    have ee7 : A5 0 7 = A1 0 7 := hy5.2 _ _ hS1.1.1 (((n0_7 hS5)).trans ((n0_7 hS1)).symm)
    try rw [← ee7]
    have ee8 : A5 g 0 = A1 g 0 := hy5.2 _ _ hg2.1 (((nP_0 hS5 hg6)).trans ((nP_0 hS1 hg2)).symm)
    try rw [← ee8]
    refine ⟨fun hc => ?_, fun hc => ?_⟩
    · have h := h.1 hc
      refine ⟨hS5.o (s0_7 hS5), ?_⟩
      rw [l0_7_0 hS5]
      refine ⟨hS5.o (s0_2 hS5), ?_⟩
      refine wpM.mono (h G5 A5 ⟨L5, P5, rfl, hS5⟩) (fun rr9 G9 hr => ?_)
      obtain ⟨A9, W9, w9, ⟨L9, P9, rfl, hS9⟩, hy9, rfl, r9, rfl, h⟩ := hr
      refine ⟨r9, rfl, ?_⟩
      have hx9 := Xt.trans hx5 hy9
      have hg10 : PG L9 g := PG.up hy9 hg6
      have ee11 : A9 0 7 = A5 0 7 := hy9.2 _ _ hS5.1.1 (((n0_7 hS9)).trans ((n0_7 hS5)).symm)
      try rw [← ee11]
      have ee12 : A9 g 0 = A5 g 0 := hy9.2 _ _ hg6.1 (((nP_0 hS9 hg10)).trans ((nP_0 hS5 hg6)).symm)
      try rw [← ee12]
      refine ⟨fun hc => ?_, fun hc => ?_⟩
      · have h := h.1 hc
        refine ⟨hS9.o (s0_7 hS9), ?_⟩
        rw [l0_7_0 hS9]
        refine ⟨hS9.o (s0_2 hS9), ?_⟩
        refine wpM.mono (h G9 A9 ⟨L9, P9, rfl, hS9⟩) (fun rr13 G13 hr => ?_)
        obtain ⟨A13, W13, w13, ⟨L13, P13, rfl, hS13⟩, hy13, rfl, r13, rfl, h⟩ := hr
        refine ⟨r13, rfl, ?_⟩
        have hx13 := Xt.trans hx9 hy13
        have hg14 : PG L13 g := PG.up hy13 hg10
        have ee15 : A13 0 7 = A9 0 7 := hy13.2 _ _ hS9.1.1 (((n0_7 hS13)).trans ((n0_7 hS9)).symm)
        try rw [← ee15]
        have ee16 : A13 g 0 = A9 g 0 := hy13.2 _ _ hg10.1 (((nP_0 hS13 hg14)).trans ((nP_0 hS9 hg10)).symm)
        try rw [← ee16]
        refine ⟨fun hc => ?_, fun hc => ?_⟩
        · have h := h.1 hc
          refine ⟨hS13.o (s0_7 hS13), ?_⟩
          rw [l0_7_0 hS13]
          refine ⟨hS13.o (s0_2 hS13), ?_⟩
          refine wpM.mono (h G13 A13 ⟨L13, P13, rfl, hS13⟩) (fun rr17 G17 hr => ?_)
          obtain ⟨A17, W17, w17, ⟨L17, P17, rfl, hS17⟩, hy17, rfl, r17, rfl, h⟩ := hr
          refine ⟨r17, rfl, ?_⟩
          have hx17 := Xt.trans hx13 hy17
          have hg18 : PG L17 g := PG.up hy17 hg14
          have ee19 : A17 0 7 = A13 0 7 := hy17.2 _ _ hS13.1.1 (((n0_7 hS17)).trans ((n0_7 hS13)).symm)
          try rw [← ee19]
          have ee20 : A17 g 0 = A13 g 0 := hy17.2 _ _ hg14.1 (((nP_0 hS17 hg18)).trans ((nP_0 hS13 hg14)).symm)
          try rw [← ee20]
          exact wp.mono (h G17 A17 ⟨L17, P17, rfl, hS17⟩) (fun r G' q => qx_trans hx17 q)
        · have h := h.2 hc
          refine ⟨hS13.o (s0_7 hS13), ?_⟩
          refine wpM.mono (h G13 A13 ⟨L13, P13, rfl, hS13⟩) (fun rr21 G21 hr => ?_)
          obtain ⟨A21, W21, w21, ⟨L21, P21, rfl, hS21⟩, hy21, rfl, r21, rfl, h⟩ := hr
          refine ⟨r21, rfl, ?_⟩
          have hx21 := Xt.trans hx13 hy21
          have hg22 : PG L21 g := PG.up hy21 hg14
          have ee23 : A21 0 7 = A13 0 7 := hy21.2 _ _ hS13.1.1 (((n0_7 hS21)).trans ((n0_7 hS13)).symm)
          try rw [← ee23]
          have ee24 : A21 g 0 = A13 g 0 := hy21.2 _ _ hg14.1 (((nP_0 hS21 hg22)).trans ((nP_0 hS13 hg14)).symm)
          try rw [← ee24]
          exact wp.mono (h G21 A21 ⟨L21, P21, rfl, hS21⟩) (fun r G' q => qx_trans hx21 q)
      · have h := h.2 hc
        refine ⟨hS9.o (s0_7 hS9), ?_⟩
        refine wpM.mono (h G9 A9 ⟨L9, P9, rfl, hS9⟩) (fun rr25 G25 hr => ?_)
        obtain ⟨A25, W25, w25, ⟨L25, P25, rfl, hS25⟩, hy25, rfl, r25, rfl, h⟩ := hr
        refine ⟨r25, rfl, ?_⟩
        have hx25 := Xt.trans hx9 hy25
        have hg26 : PG L25 g := PG.up hy25 hg10
        have ee27 : A25 0 7 = A9 0 7 := hy25.2 _ _ hS9.1.1 (((n0_7 hS25)).trans ((n0_7 hS9)).symm)
        try rw [← ee27]
        have ee28 : A25 g 0 = A9 g 0 := hy25.2 _ _ hg10.1 (((nP_0 hS25 hg26)).trans ((nP_0 hS9 hg10)).symm)
        try rw [← ee28]
        exact wp.mono (h G25 A25 ⟨L25, P25, rfl, hS25⟩) (fun r G' q => qx_trans hx25 q)
    · have h := h.2 hc
      refine ⟨hS5.o (s0_7 hS5), ?_⟩
      refine wpM.mono (h G5 A5 ⟨L5, P5, rfl, hS5⟩) (fun rr29 G29 hr => ?_)
      obtain ⟨A29, W29, w29, ⟨L29, P29, rfl, hS29⟩, hy29, rfl, r29, rfl, h⟩ := hr
      refine ⟨r29, rfl, ?_⟩
      have hx29 := Xt.trans hx5 hy29
      have hg30 : PG L29 g := PG.up hy29 hg6
      have ee31 : A29 0 7 = A5 0 7 := hy29.2 _ _ hS5.1.1 (((n0_7 hS29)).trans ((n0_7 hS5)).symm)
      try rw [← ee31]
      have ee32 : A29 g 0 = A5 g 0 := hy29.2 _ _ hg6.1 (((nP_0 hS29 hg30)).trans ((nP_0 hS5 hg6)).symm)
      try rw [← ee32]
      exact wp.mono (h G29 A29 ⟨L29, P29, rfl, hS29⟩) (fun r G' q => qx_trans hx29 q)
  · have h := h.2 hc
    refine ⟨hS1.o (s0_7 hS1), ?_⟩
    refine wpM.mono (h G1 A1 ⟨L1, P1, rfl, hS1⟩) (fun rr33 G33 hr => ?_)
    obtain ⟨A33, W33, w33, ⟨L33, P33, rfl, hS33⟩, hy33, rfl, r33, rfl, h⟩ := hr
    refine ⟨r33, rfl, ?_⟩
    have hx33 := Xt.trans hx1 hy33
    have hg34 : PG L33 g := PG.up hy33 hg2
    have ee35 : A33 0 7 = A1 0 7 := hy33.2 _ _ hS1.1.1 (((n0_7 hS33)).trans ((n0_7 hS1)).symm)
    try rw [← ee35]
    have ee36 : A33 g 0 = A1 g 0 := hy33.2 _ _ hg2.1 (((nP_0 hS33 hg34)).trans ((nP_0 hS1 hg2)).symm)
    try rw [← ee36]
    exact wp.mono (h G33 A33 ⟨L33, P33, rfl, hS33⟩) (fun r G' q => qx_trans hx33 q)
