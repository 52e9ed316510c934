/-! regions over the view (by program): X5_read X5_isWhole X5_factStatement X5_newName X5_numeral X5_varStatement X5_valuesInBraces X5_valuesFromTo X5_ruleStatement X5_test X5_either X5_both X5_unit X5_enter X5_leave X5_lists X5_groups X5_variable X5_names X5_numerals X5_sum X5_term X5_factor X5_namedFactor X5_extreme X5_comparison X5_aimStatement X11_bring X11_take X11_crash X11_byteAt X11_size X11_rows X11_load X11_freeNumber X11_save X11_known X11_below X11_above X11_prove X11_scored X11_check X11_searched X11_search X11_regret X11_isLevel X11_expected X11_show X11_robust X11_unfold X11_told X11_future X11_because X11_whyNot X11_without X11_relax X11_fewest X11_clash X11_near X11_frontPlan X11_frontAt X11_front X11_mend X11_choices X11_has X11_feasibleAt X11_feasibles X11_bestAt X11_bests X11_best X11_solve X11_hopeless X11_isLeft X11_reach X11_feasible X11_score -/
theorem w_X5_read_149 {E : EE} {d : Nat} {V : VH} {K : Int32 → VH → Prop} {g : Nat} {x2 : Int32} {x3 : Int32} (hg : PG (vL V) g) (h : (¬ x3 = 0 → vwp E d M_X5_read 35 [some (sl 0 7), some (sl g 0), some (wi (x2 + 1)), none] [] V (zi K)) ∧ (x3 = 0 → K 0 V)) : vwp E d M_X5_read 149 [some (sl 0 7), some (sl g 0), some (wi x2), some (wi x3)] [] V (zi K) := by
  intro G A hR
  obtain ⟨L, P, rfl, hS⟩ := hR
  have hx := Xt.refl (V := pl G A L P) (A := A)
  show wp E d M_X5_read 149 [some (vr (A 0 7)), some (vr (A g 0)), some (vi x2), some (vi x3)] [] G _
  refine v_X5_read_149 ?_
  refine ⟨fun hc => ?_, fun hc => ?_⟩
  · have h := h.1 hc
    exact wp.mono (h G A ⟨L, P, rfl, hS⟩) (fun r G' q => qx_trans hx q)
  · have h := h.2 hc
    exact qx_i hS hx h
theorem w_X11_take_0 {E : EE} {d : Nat} {V : VH} {K : Int32 → VH → Prop}   (h0 : 0 < d) (h : vMV E (d - 1) M_X8_export [sl 0 23, sl 0 0] V (fun V1 => K (vI V1 0 0 1) V1)) : vMI E d M_X11_take [sl 0 28] V K := by
  intro G A hR
  obtain ⟨L, P, rfl, hS⟩ := hR
  have hx := Xt.refl (V := pl G A L P) (A := A)
  show wpM E d M_X11_take [vr (A 0 28)] G _
  refine wpM_of mk_X11_take (Nat.le_of_ble_eq_true rfl) ?_
  refine v_X11_take_0 h0 ?_
  refine ⟨hS.o (s0_28 hS), ?_⟩
  rw [l0_28_7 hS]
  rw [l0_28_0 hS]
  refine ⟨hS.o (s0_23 hS), ?_⟩
  refine wpM.mono (h G A ⟨L, P, rfl, hS⟩) (fun rr1 G1 hr => ?_)
  obtain ⟨A1, W1, w1, ⟨L1, P1, rfl, hS1⟩, hy1, rfl, rfl, h⟩ := hr
  refine ⟨rfl, ?_⟩
  have hx1 := Xt.trans hx hy1
  have ee2 : A1 0 28 = A 0 28 := hy1.2 _ _ hS.1.1 (((n0_28 hS1)).trans ((n0_28 hS)).symm)
  try rw [← ee2]
  refine ⟨hS1.o (s0_28 hS1), ?_⟩
  rw [l0_28_0 hS1]
  refine ⟨hS1.o (s0_0 hS1), ?_⟩
  exact qx_i hS1 hx1 h
theorem w_X11_crash_0 {E : EE} {d : Nat} {V : VH} {K : Int32 → VH → Prop} {x1 : Int32}  (h0 : 0 < d) (h : (0 ≤ x1 → vMI E (d - 1) M_X8_lose [sl 0 23, wi x1] V (fun r1 V1 => K r1 V1)) ∧ (¬ (0 ≤ x1) → K (-1) V)) : vMI E d M_X11_crash [sl 0 28, wi x1] V K := by
  intro G A hR
  obtain ⟨L, P, rfl, hS⟩ := hR
  have hx := Xt.refl (V := pl G A L P) (A := A)
  show wpM E d M_X11_crash [vr (A 0 28), vi x1] G _
  refine wpM_of mk_X11_crash (Nat.le_of_ble_eq_true rfl) ?_
  refine v_X11_crash_0 h0 ?_
  refine ⟨fun hc => ?_, fun hc => ?_⟩
  · have h := h.1 hc
    refine ⟨hS.o (s0_28 hS), ?_⟩
    rw [l0_28_7 hS]
    refine ⟨hS.o (s0_23 hS), ?_⟩
    refine wpM.mono (h G A ⟨L, P, rfl, hS⟩) (fun rr1 G1 hr => ?_)
    obtain ⟨A1, W1, w1, ⟨L1, P1, rfl, hS1⟩, hy1, rfl, r1, rfl, h⟩ := hr
    refine ⟨r1, rfl, ?_⟩
    have hx1 := Xt.trans hx hy1
    have ee2 : A1 0 28 = A 0 28 := hy1.2 _ _ hS.1.1 (((n0_28 hS1)).trans ((n0_28 hS)).symm)
    try rw [← ee2]
    exact qx_i hS1 hx1 h
  · have h := h.2 hc
    exact qx_i hS hx h
theorem w_X11_byteAt_0 {E : EE} {d : Nat} {V : VH} {K : Int32 → VH → Prop} {x1 : Int32}  (h0 : 0 < d) (h : vMI E (d - 1) M_X0_at [sl 0 24, wi x1] V (fun r1 V1 => K r1 V1)) : vMI E d M_X11_byteAt [sl 0 28, wi x1] V K := by
  intro G A hR
  obtain ⟨L, P, rfl, hS⟩ := hR
  have hx := Xt.refl (V := pl G A L P) (A := A)
  show wpM E d M_X11_byteAt [vr (A 0 28), vi x1] G _
  refine wpM_of mk_X11_byteAt (Nat.le_of_ble_eq_true rfl) ?_
  refine v_X11_byteAt_0 h0 ?_
  refine ⟨hS.o (s0_28 hS), ?_⟩
  rw [l0_28_7 hS]
  refine ⟨hS.o (s0_23 hS), ?_⟩
  rw [l0_23_0 hS]
  refine ⟨hS.o (s0_24 hS), ?_⟩
  refine wpM.mono (h G A ⟨L, P, rfl, hS⟩) (fun rr1 G1 hr => ?_)
  obtain ⟨A1, W1, w1, ⟨L1, P1, rfl, hS1⟩, hy1, rfl, r1, rfl, h⟩ := hr
  refine ⟨r1, rfl, ?_⟩
  have hx1 := Xt.trans hx hy1
  have ee2 : A1 0 28 = A 0 28 := hy1.2 _ _ hS.1.1 (((n0_28 hS1)).trans ((n0_28 hS)).symm)
  try rw [← ee2]
  exact qx_i hS1 hx1 h
theorem w_X11_size_0 {E : EE} {d : Nat} {V : VH} {K : Int32 → VH → Prop}   (h : K (vI V 0 24 1) V) : vMI E d M_X11_size [sl 0 28] V K := by
  intro G A hR
  obtain ⟨L, P, rfl, hS⟩ := hR
  have hx := Xt.refl (V := pl G A L P) (A := A)
  show wpM E d M_X11_size [vr (A 0 28)] G _
  refine wpM_of mk_X11_size (Nat.le_of_ble_eq_true rfl) ?_
  refine v_X11_size_0 ?_
  refine ⟨hS.o (s0_28 hS), ?_⟩
  rw [l0_28_7 hS]
  refine ⟨hS.o (s0_23 hS), ?_⟩
  rw [l0_23_0 hS]
  refine ⟨hS.o (s0_24 hS), ?_⟩
  exact qx_i hS hx h
theorem w_X11_rows_0 {E : EE} {d : Nat} {V : VH} {K : Int32 → VH → Prop}   (h : K (vI V 0 23 1) V) : vMI E d M_X11_rows [sl 0 28] V K := by
  intro G A hR
  obtain ⟨L, P, rfl, hS⟩ := hR
  have hx := Xt.refl (V := pl G A L P) (A := A)
  show wpM E d M_X11_rows [vr (A 0 28)] G _
  refine wpM_of mk_X11_rows (Nat.le_of_ble_eq_true rfl) ?_
  refine v_X11_rows_0 ?_
  refine ⟨hS.o (s0_28 hS), ?_⟩
  rw [l0_28_7 hS]
  refine ⟨hS.o (s0_23 hS), ?_⟩
  exact qx_i hS hx h
theorem w_X11_load_0 {E : EE} {d : Nat} {V : VH} {K : Int32 → VH → Prop} {x1 : Int32}  (h0 : 0 < d) (h : vMI E (d - 1) M_X8_start [sl 0 23, wi x1] V (fun r1 V1 => (0 ≤ r1 → vMI E (d - 1) M_X11_freeNumber [sl 0 28] V1 (fun r3 V3 => (0 ≤ r3 → vMP E (d - 1) M_X11_roomFor [sl 0 28, wi r3] V3 (fun g5 V5 => PG (vL V5) g5 ∧ (vMI E (d - 1) M_X8_textLength [sl 0 23, sl 0 24, wi r1] V5 (fun r8 V8 => vMV E (d - 1) M_X0_become [sl g5 1, sl 0 24, wi (r1 + 3), wi r8] V8 (fun V12 => vMI E (d - 1) M_X5_read [sl 0 7, sl g5 0] V12 (fun r16 V16 => (r16 = 0 → vwp E d M_X11_load 114 [some (sl 0 28), some (wi x1), some (wi r1), some (wi r3), some (sl g5 0), some (wi r8)] [sl g5 0] V16 (zi K)) ∧ (¬ (r16 = 0) → vMI E (d - 1) M_X8_restore [sl 0 23, sl 0 24, wi ((r1 + 3) + r8), sl g5 0] V16 (fun r20 V20 => (r20 = 0 → vwp E d M_X11_load 114 [some (sl 0 28), some (wi x1), some (wi r1), some (wi r3), some (sl g5 0), some (wi r8)] [sl g5 0] V20 (zi K)) ∧ (¬ (r20 = 0) → vwp E d M_X11_load 115 [some (sl 0 28), some (wi x1), some (wi r1), some (wi r3), some (sl g5 0), some (wi r8)] [wi 1, sl g5 0] V20 (zi K)))))))))) ∧ (¬ (0 ≤ r3) → K (-100000) V3))) ∧ (¬ (0 ≤ r1) → K (-1) V1))) : vMI E d M_X11_load [sl 0 28, wi x1] V K := by
  intro G A hR
  obtain ⟨L, P, rfl, hS⟩ := hR
  have hx := Xt.refl (V := pl G A L P) (A := A)
  show wpM E d M_X11_load [vr (A 0 28), vi x1] G _
  refine wpM_of mk_X11_load (Nat.le_of_ble_eq_true rfl) ?_
  refine v_X11_load_0 h0 ?_
  refine ⟨hS.o (s0_28 hS), ?_⟩
  rw [l0_28_7 hS]
  refine ⟨hS.o (s0_23 hS), ?_⟩
  refine wpM.mono (h G A ⟨L, P, rfl, hS⟩) (fun rr1 G1 hr => ?_)
  obtain ⟨A1, W1, w1, ⟨L1, P1, rfl, hS1⟩, hy1, rfl, r1, rfl, h⟩ := hr
  refine ⟨r1, rfl, ?_⟩
  have hx1 := Xt.trans hx hy1
  have ee2 : A1 0 28 = A 0 28 := hy1.2 _ _ hS.1.1 (((n0_28 hS1)).trans ((n0_28 hS)).symm)
  try rw [← ee2]
  refine ⟨fun hc => ?_, fun hc => ?_⟩
  · have h := h.1 hc
    refine ⟨hS1.o (s0_28 hS1), ?_⟩
    refine wpM.mono (h G1 A1 ⟨L1, P1, rfl, hS1⟩) (fun rr3 G3 hr => ?_)
    obtain ⟨A3, W3, w3, ⟨L3, P3, rfl, hS3⟩, hy3, rfl, r3, rfl, h⟩ := hr
    refine ⟨r3, rfl, ?_⟩
    have hx3 := Xt.trans hx1 hy3
    have ee4 : A3 0 28 = A1 0 28 := hy3.2 _ _ hS1.1.1 (((n0_28 hS3)).trans ((n0_28 hS1)).symm)
    try rw [← ee4]
    refine ⟨fun hc => ?_, fun hc => ?_⟩
    · have h := h.1 hc
      refine ⟨hS3.o (s0_28 hS3), ?_⟩
      refine wpM.mono (h G3 A3 ⟨L3, P3, rfl, hS3⟩) (fun rr5 G5 hr => ?_)
      obtain ⟨A5, W5, w5, ⟨L5, P5, rfl, hS5⟩, hy5, rfl, g5, rfl, h⟩ := hr
      refine ⟨A5 g5 0, rfl, ?_⟩
      have hx5 := Xt.trans hx3 hy5
      have ee6 : A5 0 28 = A3 0 28 := hy5.2 _ _ hS3.1.1 (((n0_28 hS5)).trans ((n0_28 hS3)).symm)
      try rw [← ee6]
      obtain ⟨hg7, h⟩ := h
      refine ⟨hS5.o (s0_28 hS5), ?_⟩
      rw [l0_28_7 hS5]
      refine ⟨hS5.o (s0_23 hS5), ?_⟩
      rw [l0_23_0 hS5]
      refine wpM.mono (h G5 A5 ⟨L5, P5, rfl, hS5⟩) (fun rr8 G8 hr => ?_)
      obtain ⟨A8, W8, w8, ⟨L8, P8, rfl, hS8⟩, hy8, rfl, r8, rfl, h⟩ := hr
      refine ⟨r8, rfl, ?_⟩
      have hx8 := Xt.trans hx5 hy8
      have hg9 : PG L8 g5 := PG.up hy8 hg7
      have ee10 : A8 0 28 = A5 0 28 := hy8.2 _ _ hS5.1.1 (((n0_28 hS8)).trans ((n0_28 hS5)).symm)
      try rw [← ee10]
      have ee11 : A8 g5 0 = A5 g5 0 := hy8.2 _ _ hg7.1 (((nP_0 hS8 hg9)).trans ((nP_0 hS5 hg7)).symm)
      try rw [← ee11]
      refine ⟨hS8.o (sP_0 hg9), ?_⟩
      rw [lP_0_1 hS8 hg9]
      refine ⟨hS8.o (s0_28 hS8), ?_⟩
      rw [l0_28_7 hS8]
      refine ⟨hS8.o (s0_23 hS8), ?_⟩
      rw [l0_23_0 hS8]
      refine ⟨hS8.o (sP_1 hg9), ?_⟩
      refine wpM.mono (h G8 A8 ⟨L8, P8, rfl, hS8⟩) (fun rr12 G12 hr => ?_)
      obtain ⟨A12, W12, w12, ⟨L12, P12, rfl, hS12⟩, hy12, rfl, rfl, h⟩ := hr
      refine ⟨rfl, ?_⟩
      have hx12 := Xt.trans hx8 hy12
      have hg13 : PG L12 g5 := PG.up hy12 hg9
      have ee14 : A12 0 28 = A8 0 28 := hy12.2 _ _ hS8.1.1 (((n0_28 hS12)).trans ((n0_28 hS8)).symm)
      try rw [← ee14]
      have ee15 : A12 g5 0 = A8 g5 0 := hy12.2 _ _ hg9.1 (((nP_0 hS12 hg13)).trans ((nP_0 hS8 hg9)).symm)
      try rw [← ee15]
      refine ⟨hS12.o (s0_28 hS12), ?_⟩
      rw [l0_28_2 hS12]
      refine ⟨hS12.o (s0_7 hS12), ?_⟩
      refine wpM.mono (h G12 A12 ⟨L12, P12, rfl, hS12⟩) (fun rr16 G16 hr => ?_)
      obtain ⟨A16, W16, w16, ⟨L16, P16, rfl, hS16⟩, hy16, rfl, r16, rfl, h⟩ := hr
      refine ⟨r16, rfl, ?_⟩
      have hx16 := Xt.trans hx12 hy16
      have hg17 : PG L16 g5 := PG.up hy16 hg13
      have ee18 : A16 0 28 = A12 0 28 := hy16.2 _ _ hS12.1.1 (((n0_28 hS16)).trans ((n0_28 hS12)).symm)
      try rw [← ee18]
      have ee19 : A16 g5 0 = A12 g5 0 := hy16.2 _ _ hg13.1 (((nP_0 hS16 hg17)).trans ((nP_0 hS12 hg13)).symm)
      try rw [← ee19]
      refine ⟨fun hc => ?_, fun hc => ?_⟩
      · have h := h.1 hc
        exact wp.mono (h G16 A16 ⟨L16, P16, rfl, hS16⟩) (fun r G' q => qx_trans hx16 q)
      · have h := h.2 hc
        refine ⟨hS16.o (s0_28 hS16), ?_⟩
        rw [l0_28_7 hS16]
        refine ⟨hS16.o (s0_23 hS16), ?_⟩
        rw [l0_23_0 hS16]
        refine wpM.mono (h G16 A16 ⟨L16, P16, rfl, hS16⟩) (fun rr20 G20 hr => ?_)
        obtain ⟨A20, W20, w20, ⟨L20, P20, rfl, hS20⟩, hy20, rfl, r20, rfl, h⟩ := hr
        refine ⟨r20, rfl, ?_⟩
        have hx20 := Xt.trans hx16 hy20
        have hg21 : PG L20 g5 := PG.up hy20 hg17
        have ee22 : A20 0 28 = A16 0 28 := hy20.2 _ _ hS16.1.1 (((n0_28 hS20)).trans ((n0_28 hS16)).symm)
        try rw [← ee22]
        have ee23 : A20 g5 0 = A16 g5 0 := hy20.2 _ _ hg17.1 (((nP_0 hS20 hg21)).trans ((nP_0 hS16 hg17)).symm)
        try rw [← ee23]
        refine ⟨fun hc => ?_, fun hc => ?_⟩
        · have h := h.1 hc
          exact wp.mono (h G20 A20 ⟨L20, P20, rfl, hS20⟩) (fun r G' q => qx_trans hx20 q)
        · have h := h.2 hc
          exact wp.mono (h G20 A20 ⟨L20, P20, rfl, hS20⟩) (fun r G' q => qx_trans hx20 q)
    · have h := h.2 hc
      exact qx_i hS3 hx3 h
  · have h := h.2 hc
    exact qx_i hS1 hx1 h
theorem w_X11_freeNumber_0 {E : EE} {d : Nat} {V : VH} {K : Int32 → VH → Prop}   (h : vwp E d M_X11_freeNumber 2 [some (sl 0 28), some (wi 0), none] [] V (zi K)) : vMI E d M_X11_freeNumber [sl 0 28] V K := by
  intro G A hR
  obtain ⟨L, P, rfl, hS⟩ := hR
  have hx := Xt.refl (V := pl G A L P) (A := A)
  show wpM E d M_X11_freeNumber [vr (A 0 28)] G _
  refine wpM_of mk_X11_freeNumber (Nat.le_of_ble_eq_true rfl) ?_
  refine v_X11_freeNumber_0 ?_
  exact wp.mono (h G A ⟨L, P, rfl, hS⟩) (fun r G' q => qx_trans hx q)
theorem w_X11_freeNumber_2 {E : EE} {d : Nat} {V : VH} {K : Int32 → VH → Prop} {x1 : Int32}  (h : (4 ≤ x1 → K (-1) V) ∧ (¬ (4 ≤ x1) → vp_in x1 4 ∧ ((¬ vL V ((Int32.toNatClampNeg x1) + 1) = true → K x1 V) ∧ (vL V ((Int32.toNatClampNeg x1) + 1) = true → (((Int32.toNatClampNeg x1) + 1) ≠ 0 ∧ ((Int32.toNatClampNeg x1) + 1) ≠ 6) ∧ ((¬ (vI V ((Int32.toNatClampNeg x1) + 1) 0 0) = 0 → vwp E d M_X11_freeNumber 2 [some (sl 0 28), some (wi (x1 + 1)), none] [] V (zi K)) ∧ ((vI V ((Int32.toNatClampNeg x1) + 1) 0 0) = 0 → K x1 V)))))) : vwp E d M_X11_freeNumber 2 [some (sl 0 28), some (wi x1), none] [] V (zi K) := by
  intro G A hR
  obtain ⟨L, P, rfl, hS⟩ := hR
  have hx := Xt.refl (V := pl G A L P) (A := A)
  show wp E d M_X11_freeNumber 2 [some (vr (A 0 28)), some (vi x1), none] [] G _
  refine v_X11_freeNumber_2 ?_
  refine ⟨fun hc => ?_, fun hc => ?_⟩
  · have h := h.1 hc
    exact qx_i hS hx h
  · have h := h.2 hc
    refine ⟨hS.o (s0_28 hS), ?_⟩
    rw [l0_28_3 hS]
    refine ⟨hS.o (s0_9 hS), ?_⟩
    obtain ⟨hi1, h⟩ := h
    refine ⟨by first | (rw [(n0_9 hS)]; exact hi1) | exact (congrArg (vp_in _) (n0_9 hS)).mpr hi1 | exact hi1, ?_⟩
    rw [l0_9 hS hi1]
    refine ⟨fun hc => ?_, fun hc => ?_⟩
    · have h := h.1 ((hS.null (nf_pos _)).mp hc)
      exact qx_i hS hx h
    · have h := h.2 (hS.lv0 hc)
      obtain ⟨hw, h⟩ := h
      have hg2 : PG L ((Int32.toNatClampNeg x1) + 1) := ⟨hS.lv0 hc, hw⟩
      refine ⟨hS.o (sP_0 hg2), ?_⟩
      refine ⟨fun hc => ?_, fun hc => ?_⟩
      · have h := h.1 hc
        exact wp.mono (h G A ⟨L, P, rfl, hS⟩) (fun r G' q => qx_trans hx q)
      · have h := h.2 hc
        exact qx_i hS hx h
theorem w_X11_save_0 {E : EE} {d : Nat} {V : VH} {K : Int32 → VH → Prop} {x1 : Int32}  (h0 : 0 < d) (h : vMP E (d - 1) M_X11_known [sl 0 28, wi x1] V (fun g1 V1 => (vL V1 g1 = true → (g1 ≠ 0 ∧ g1 ≠ 6) ∧ (vMI E (d - 1) M_X8_add [sl 0 23, sl g1 0] V1 (fun r4 V4 => K r4 V4))) ∧ (¬ vL V1 g1 = true → K (-1) V1))) : vMI E d M_X11_save [sl 0 28, wi x1] V K := by
  intro G A hR
  obtain ⟨L, P, rfl, hS⟩ := hR
  have hx := Xt.refl (V := pl G A L P) (A := A)
  show wpM E d M_X11_save [vr (A 0 28), vi x1] G _
  refine wpM_of mk_X11_save (Nat.le_of_ble_eq_true rfl) ?_
  refine v_X11_save_0 h0 ?_
  refine ⟨hS.o (s0_28 hS), ?_⟩
  refine wpM.mono (h G A ⟨L, P, rfl, hS⟩) (fun rr1 G1 hr => ?_)
  obtain ⟨A1, W1, w1, ⟨L1, P1, rfl, hS1⟩, hy1, rfl, g1, rfl, h⟩ := hr
  refine ⟨A1 g1 0, rfl, ?_⟩
  have hx1 := Xt.trans hx hy1
  have ee2 : A1 0 28 = A 0 28 := hy1.2 _ _ hS.1.1 (((n0_28 hS1)).trans ((n0_28 hS)).symm)
  try rw [← ee2]
  refine ⟨fun hc => ?_, fun hc => ?_⟩
  · have h := h.1 (hS1.lv0 hc)
    obtain ⟨hw, h⟩ := h
    have hg3 : PG L1 g1 := ⟨hS1.lv0 hc, hw⟩
    refine ⟨hS1.o (s0_28 hS1), ?_⟩
    rw [l0_28_7 hS1]
    refine ⟨hS1.o (s0_23 hS1), ?_⟩
    refine wpM.mono (h G1 A1 ⟨L1, P1, rfl, hS1⟩) (fun rr4 G4 hr => ?_)
    obtain ⟨A4, W4, w4, ⟨L4, P4, rfl, hS4⟩, hy4, rfl, r4, rfl, h⟩ := hr
    refine ⟨r4, rfl, ?_⟩
    have hx4 := Xt.trans hx1 hy4
    have hg5 : PG L4 g1 := PG.up hy4 hg3
    have ee6 : A4 0 28 = A1 0 28 := hy4.2 _ _ hS1.1.1 (((n0_28 hS4)).trans ((n0_28 hS1)).symm)
    try rw [← ee6]
    have ee7 : A4 g1 0 = A1 g1 0 := hy4.2 _ _ hg3.1 (((nP_0 hS4 hg5)).trans ((nP_0 hS1 hg3)).symm)
    try rw [← ee7]
    exact qx_i hS4 hx4 h
  · have h := h.2 ((hS1.null (nf_pos _)).mp hc)
    exact qx_i hS1 hx1 h
theorem w_X11_known_0 {E : EE} {d : Nat} {V : VH} {K : Nat → VH → Prop} {x1 : Int32}  (h : (x1 < 0 → K 7 V) ∧ (¬ (x1 < 0) → (x1 < 4 → vp_in x1 4 ∧ ((¬ vL V ((Int32.toNatClampNeg x1) + 1) = true → K 7 V) ∧ (vL V ((Int32.toNatClampNeg x1) + 1) = true → (((Int32.toNatClampNeg x1) + 1) ≠ 0 ∧ ((Int32.toNatClampNeg x1) + 1) ≠ 6) ∧ (((vI V ((Int32.toNatClampNeg x1) + 1) 0 0) = 0 → K 7 V) ∧ (¬ ((vI V ((Int32.toNatClampNeg x1) + 1) 0 0) = 0) → K ((Int32.toNatClampNeg x1) + 1) V))))) ∧ (¬ (x1 < 4) → K 7 V))) : vMP E d M_X11_known [sl 0 28, wi x1] V K := by
  intro G A hR
  obtain ⟨L, P, rfl, hS⟩ := hR
  have hx := Xt.refl (V := pl G A L P) (A := A)
  show wpM E d M_X11_known [vr (A 0 28), vi x1] G _
  refine wpM_of mk_X11_known (Nat.le_of_ble_eq_true rfl) ?_
  refine v_X11_known_0 ?_
  refine ⟨fun hc => ?_, fun hc => ?_⟩
  · have h := h.1 hc
    exact qx_n hS hx h
  · have h := h.2 hc
    refine ⟨fun hc => ?_, fun hc => ?_⟩
    · have h := h.1 hc
      refine ⟨hS.o (s0_28 hS), ?_⟩
      rw [l0_28_3 hS]
      refine ⟨hS.o (s0_9 hS), ?_⟩
      obtain ⟨hi1, h⟩ := h
      refine ⟨by first | (rw [(n0_9 hS)]; exact hi1) | exact (congrArg (vp_in _) (n0_9 hS)).mpr hi1 | exact hi1, ?_⟩
      rw [l0_9 hS hi1]
      refine ⟨fun hc => ?_, fun hc => ?_⟩
      · have h := h.1 ((hS.null (nf_pos _)).mp hc)
        exact qx_n hS hx h
      · have h := h.2 (hS.lv0 hc)
        obtain ⟨hw, h⟩ := h
        have hg2 : PG L ((Int32.toNatClampNeg x1) + 1) := ⟨hS.lv0 hc, hw⟩
        refine ⟨hS.o (sP_0 hg2), ?_⟩
        refine ⟨fun hc => ?_, fun hc => ?_⟩
        · have h := h.1 hc
          exact qx_n hS hx h
        · have h := h.2 hc
          exact qx_p hS hx h
    · have h := h.2 hc
      exact qx_n hS hx h
theorem w_X11_below_0 {E : EE} {d : Nat} {V : VH} {K : Int64 → VH → Prop}   (h : K (vJ V 0 28 11) V) : vMJ E d M_X11_below [sl 0 28] V K := by
  intro G A hR
  obtain ⟨L, P, rfl, hS⟩ := hR
  have hx := Xt.refl (V := pl G A L P) (A := A)
  show wpM E d M_X11_below [vr (A 0 28)] G _
  refine wpM_of mk_X11_below (Nat.le_of_ble_eq_true rfl) ?_
  refine v_X11_below_0 ?_
  refine ⟨hS.o (s0_28 hS), ?_⟩
  exact qx_j hS hx h
theorem w_X11_above_0 {E : EE} {d : Nat} {V : VH} {K : Int64 → VH → Prop}   (h : K (vJ V 0 28 10) V) : vMJ E d M_X11_above [sl 0 28] V K := by
  intro G A hR
  obtain ⟨L, P, rfl, hS⟩ := hR
  have hx := Xt.refl (V := pl G A L P) (A := A)
  show wpM E d M_X11_above [vr (A 0 28)] G _
  refine wpM_of mk_X11_above (Nat.le_of_ble_eq_true rfl) ?_
  refine v_X11_above_0 ?_
  refine ⟨hS.o (s0_28 hS), ?_⟩
  exact qx_j hS hx h
theorem w_X11_prove_0 {E : EE} {d : Nat} {V : VH} {K : Int32 → VH → Prop} {x1 : Int32}  (h0 : 0 < d) (h : vMP E (d - 1) M_X11_scored [sl 0 28, wi x1] V (fun g1 V1 => (¬ vL V1 g1 = true → K (-1) V1) ∧ (vL V1 g1 = true → (g1 ≠ 0 ∧ g1 ≠ 6) ∧ (vMI E (d - 1) M_X9_beatsHand [sl g1 19, sl g1 0] V1 (fun r4 V4 => (¬ r4 = 0 → K (-1) V4) ∧ (r4 = 0 → vMI E (d - 1) M_X4_fits [sl 0 20, sl g1 0] V4 (fun r8 V8 => (¬ r8 = 0 → vMV E (d - 1) M_X4_write [sl 0 20, sl g1 0, sl 0 0] V8 (fun V12 => K (vI V12 0 0 1) V12)) ∧ (r8 = 0 → K (-1) V8)))))))) : vMI E d M_X11_prove [sl 0 28, wi x1] V K := by
  intro G A hR
  obtain ⟨L, P, rfl, hS⟩ := hR
  have hx := Xt.refl (V := pl G A L P) (A := A)
  show wpM E d M_X11_prove [vr (A 0 28), vi x1] G _
  refine wpM_of mk_X11_prove (Nat.le_of_ble_eq_true rfl) ?_
  refine v_X11_prove_0 h0 ?_
  refine ⟨hS.o (s0_28 hS), ?_⟩
  refine wpM.mono (h G A ⟨L, P, rfl, hS⟩) (fun rr1 G1 hr => ?_)
  obtain ⟨A1, W1, w1, ⟨L1, P1, rfl, hS1⟩, hy1, rfl, g1, rfl, h⟩ := hr
  refine ⟨A1 g1 0, rfl, ?_⟩
  have hx1 := Xt.trans hx hy1
  have ee2 : A1 0 28 = A 0 28 := hy1.2 _ _ hS.1.1 (((n0_28 hS1)).trans ((n0_28 hS)).symm)
  try rw [← ee2]
  refine ⟨fun hc => ?_, fun hc => ?_⟩
  · have h := h.1 ((hS1.null (nf_pos _)).mp hc)
    exact qx_i hS1 hx1 h
  · have h := h.2 (hS1.lv0 hc)
    obtain ⟨hw, h⟩ := h
    have hg3 : PG L1 g1 := ⟨hS1.lv0 hc, hw⟩
    refine ⟨hS1.o (sP_0 hg3), ?_⟩
    rw [lP_0_6 hS1 hg3]
    refine ⟨hS1.o (sP_19 hg3), ?_⟩
    refine wpM.mono (h G1 A1 ⟨L1, P1, rfl, hS1⟩) (fun rr4 G4 hr => ?_)
    obtain ⟨A4, W4, w4, ⟨L4, P4, rfl, hS4⟩, hy4, rfl, r4, rfl, h⟩ := hr
    refine ⟨r4, rfl, ?_⟩
    have hx4 := Xt.trans hx1 hy4
    have hg5 : PG L4 g1 := PG.up hy4 hg3
    have ee6 : A4 0 28 = A1 0 28 := hy4.2 _ _ hS1.1.1 (((n0_28 hS4)).trans ((n0_28 hS1)).symm)
    try rw [← ee6]
    have ee7 : A4 g1 0 = A1 g1 0 := hy4.2 _ _ hg3.1 (((nP_0 hS4 hg5)).trans ((nP_0 hS1 hg3)).symm)
    try rw [← ee7]
    refine ⟨fun hc => ?_, fun hc => ?_⟩
    · have h := h.1 hc
      exact qx_i hS4 hx4 h
    · have h := h.2 hc
      refine ⟨hS4.o (s0_28 hS4), ?_⟩
      rw [l0_28_6 hS4]
      refine ⟨hS4.o (s0_20 hS4), ?_⟩
      refine wpM.mono (h G4 A4 ⟨L4, P4, rfl, hS4⟩) (fun rr8 G8 hr => ?_)
      obtain ⟨A8, W8, w8, ⟨L8, P8, rfl, hS8⟩, hy8, rfl, r8, rfl, h⟩ := hr
      refine ⟨r8, rfl, ?_⟩
      have hx8 := Xt.trans hx4 hy8
      have hg9 : PG L8 g1 := PG.up hy8 hg5
      have ee10 : A8 0 28 = A4 0 28 := hy8.2 _ _ hS4.1.1 (((n0_28 hS8)).trans ((n0_28 hS4)).symm)
      try rw [← ee10]
      have ee11 : A8 g1 0 = A4 g1 0 := hy8.2 _ _ hg5.1 (((nP_0 hS8 hg9)).trans ((nP_0 hS4 hg5)).symm)
      try rw [← ee11]
      refine ⟨fun hc => ?_, fun hc => ?_⟩
      · have h := h.1 hc
        refine ⟨hS8.o (s0_28 hS8), ?_⟩
        rw [l0_28_6 hS8]
        rw [l0_28_0 hS8]
        refine ⟨hS8.o (s0_20 hS8), ?_⟩
        refine wpM.mono (h G8 A8 ⟨L8, P8, rfl, hS8⟩) (fun rr12 G12 hr => ?_)
        obtain ⟨A12, W12, w12, ⟨L12, P12, rfl, hS12⟩, hy12, rfl, rfl, h⟩ := hr
        refine ⟨rfl, ?_⟩
        have hx12 := Xt.trans hx8 hy12
        have hg13 : PG L12 g1 := PG.up hy12 hg9
        have ee14 : A12 0 28 = A8 0 28 := hy12.2 _ _ hS8.1.1 (((n0_28 hS12)).trans ((n0_28 hS8)).symm)
        try rw [← ee14]
        have ee15 : A12 g1 0 = A8 g1 0 := hy12.2 _ _ hg9.1 (((nP_0 hS12 hg13)).trans ((nP_0 hS8 hg9)).symm)
        try rw [← ee15]
        refine ⟨hS12.o (s0_28 hS12), ?_⟩
        rw [l0_28_0 hS12]
        refine ⟨hS12.o (s0_0 hS12), ?_⟩
        exact qx_i hS12 hx12 h
      · have h := h.2 hc
        exact qx_i hS8 hx8 h
theorem w_X11_scored_0 {E : EE} {d : Nat} {V : VH} {K : Nat → VH → Prop} {x1 : Int32}  (h0 : 0 < d) (h : vMP E (d - 1) M_X11_known [sl 0 28, wi x1] V (fun g1 V1 => (¬ vL V1 g1 = true → K g1 V1) ∧ (vL V1 g1 = true → (g1 ≠ 0 ∧ g1 ≠ 6) ∧ (vMV E (d - 1) M_X9_renew [sl g1 19, sl g1 0] V1 (fun V4 => K g1 V4))))) : vMP E d M_X11_scored [sl 0 28, wi x1] V K := by
  intro G A hR
  obtain ⟨L, P, rfl, hS⟩ := hR
  have hx := Xt.refl (V := pl G A L P) (A := A)
  show wpM E d M_X11_scored [vr (A 0 28), vi x1] G _
  refine wpM_of mk_X11_scored (Nat.le_of_ble_eq_true rfl) ?_
  refine v_X11_scored_0 h0 ?_
  refine ⟨hS.o (s0_28 hS), ?_⟩
  refine wpM.mono (h G A ⟨L, P, rfl, hS⟩) (fun rr1 G1 hr => ?_)
  obtain ⟨A1, W1, w1, ⟨L1, P1, rfl, hS1⟩, hy1, rfl, g1, rfl, h⟩ := hr
  refine ⟨A1 g1 0, rfl, ?_⟩
  have hx1 := Xt.trans hx hy1
  have ee2 : A1 0 28 = A 0 28 := hy1.2 _ _ hS.1.1 (((n0_28 hS1)).trans ((n0_28 hS)).symm)
  try rw [← ee2]
  refine ⟨fun hc => ?_, fun hc => ?_⟩
  · have h := h.1 ((hS1.null (nf_pos _)).mp hc)
    exact qx_p hS1 hx1 h
  · have h := h.2 (hS1.lv0 hc)
    obtain ⟨hw, h⟩ := h
    have hg3 : PG L1 g1 := ⟨hS1.lv0 hc, hw⟩
    refine ⟨hS1.o (sP_0 hg3), ?_⟩
    rw [lP_0_6 hS1 hg3]
    refine ⟨hS1.o (sP_19 hg3), ?_⟩
    refine wpM.mono (h G1 A1 ⟨L1, P1, rfl, hS1⟩) (fun rr4 G4 hr => ?_)
    obtain ⟨A4, W4, w4, ⟨L4, P4, rfl, hS4⟩, hy4, rfl, rfl, h⟩ := hr
    refine ⟨rfl, ?_⟩
    have hx4 := Xt.trans hx1 hy4
    have hg5 : PG L4 g1 := PG.up hy4 hg3
    have ee6 : A4 0 28 = A1 0 28 := hy4.2 _ _ hS1.1.1 (((n0_28 hS4)).trans ((n0_28 hS1)).symm)
    try rw [← ee6]
    have ee7 : A4 g1 0 = A1 g1 0 := hy4.2 _ _ hg3.1 (((nP_0 hS4 hg5)).trans ((nP_0 hS1 hg3)).symm)
    try rw [← ee7]
    exact qx_p hS4 hx4 h
theorem w_X11_check_0 {E : EE} {d : Nat} {V : VH} {K : Int32 → VH → Prop} {x1 : Int32}  (h0 : 0 < d) (h : vMP E (d - 1) M_X11_scored [sl 0 28, wi x1] V (fun g1 V1 => (vL V1 g1 = true → (g1 ≠ 0 ∧ g1 ≠ 6) ∧ (vMI E (d - 1) M_X4_isRight [sl 0 20, sl g1 0, sl 0 0] V1 (fun r4 V4 => ∀ V8 : VH, V8 = wrI V4 0 28 9 (vI V4 0 2 10) → (r4 = 0 → K ((-1) - (vI V8 0 2 11)) V8) ∧ (¬ (r4 = 0) → K 0 V8)))) ∧ (¬ vL V1 g1 = true → K (-100000) V1))) : vMI E d M_X11_check [sl 0 28, wi x1] V K := by
  intro G A hR
  obtain ⟨L, P, rfl, hS⟩ := hR
  have hx := Xt.refl (V := pl G A L P) (A := A)
  show wpM E d M_X11_check [vr (A 0 28), vi x1] G _
  refine wpM_of mk_X11_check (Nat.le_of_ble_eq_true rfl) ?_
  refine v_X11_check_0 h0 ?_
  refine ⟨hS.o (s0_28 hS), ?_⟩
  refine wpM.mono (h G A ⟨L, P, rfl, hS⟩) (fun rr1 G1 hr => ?_)
  obtain ⟨A1, W1, w1, ⟨L1, P1, rfl, hS1⟩, hy1, rfl, g1, rfl, h⟩ := hr
  refine ⟨A1 g1 0, rfl, ?_⟩
  have hx1 := Xt.trans hx hy1
  have ee2 : A1 0 28 = A 0 28 := hy1.2 _ _ hS.1.1 (((n0_28 hS1)).trans ((n0_28 hS)).symm)
  try rw [← ee2]
  refine ⟨fun hc => ?_, fun hc => ?_⟩
  · have h := h.1 (hS1.lv0 hc)
    obtain ⟨hw, h⟩ := h
    have hg3 : PG L1 g1 := ⟨hS1.lv0 hc, hw⟩
    refine ⟨hS1.o (s0_28 hS1), ?_⟩
    rw [l0_28_6 hS1]
    rw [l0_28_0 hS1]
    refine ⟨hS1.o (s0_20 hS1), ?_⟩
    refine wpM.mono (h G1 A1 ⟨L1, P1, rfl, hS1⟩) (fun rr4 G4 hr => ?_)
    obtain ⟨A4, W4, w4, ⟨L4, P4, rfl, hS4⟩, hy4, rfl, r4, rfl, h⟩ := hr
    refine ⟨r4, rfl, ?_⟩
    have hx4 := Xt.trans hx1 hy4
    have hg5 : PG L4 g1 := PG.up hy4 hg3
    have ee6 : A4 0 28 = A1 0 28 := hy4.2 _ _ hS1.1.1 (((n0_28 hS4)).trans ((n0_28 hS1)).symm)
    try rw [← ee6]
    have ee7 : A4 g1 0 = A1 g1 0 := hy4.2 _ _ hg3.1 (((nP_0 hS4 hg5)).trans ((nP_0 hS1 hg3)).symm)
    try rw [← ee7]
    refine ⟨hS4.o (s0_28 hS4), ?_⟩
    rw [l0_28_1 hS4]
    refine ⟨hS4.o (s0_2 hS4), ?_⟩
    have hS8 : Sh E (sI G4 (A4 0 28) 9 (gI G4 (A4 0 2) 10)) A4 L4 P4 := Sh_sI (rfl : sI G4 (A4 0 28) 9 (gI G4 (A4 0 2) 10) = sI G4 (A4 0 28) 9 (gI G4 (A4 0 2) 10)) hS4 (s0_28 hS4) (okT_0 rfl)
    have h := h (pl (sI G4 (A4 0 28) 9 (gI G4 (A4 0 2) 10)) A4 L4 P4) (pl_sI (rfl : sI G4 (A4 0 28) 9 (gI G4 (A4 0 2) 10) = sI G4 (A4 0 28) 9 (gI G4 (A4 0 2) 10)) hS4 (s0_28 hS4))
    have hx8 : Xt (pl G A L P) A (pl (sI G4 (A4 0 28) 9 (gI G4 (A4 0 2) 10)) A4 L4 P4) A4 := Xt_sI (rfl : sI G4 (A4 0 28) 9 (gI G4 (A4 0 2) 10) = sI G4 (A4 0 28) 9 (gI G4 (A4 0 2) 10)) hx4
    refine ⟨fun hc => ?_, fun hc => ?_⟩
    · have h := h.1 hc
      exact qx_i hS8 hx8 h
    · have h := h.2 hc
      exact qx_i hS8 hx8 h
  · have h := h.2 ((hS1.null (nf_pos _)).mp hc)
    exact qx_i hS1 hx1 h
theorem w_X11_searched_0 {E : EE} {d : Nat} {V : VH} {K : Int32 → VH → Prop} {x1 : Int32}  (h : (¬ (vI V 0 16 0) = 0 → (x1 = 0 → K (vI V 0 16 1) V) ∧ ((x1 = 1 → K (vI V 0 16 2) V) ∧ ((x1 = 2 → K (vI V 0 16 3) V) ∧ ((¬ x1 = 0 → ¬ x1 = 1 → ¬ x1 = 2 → K (-1) V))))) ∧ ((vI V 0 16 0) = 0 → K (-1) V)) : vMI E d M_X11_searched [sl 0 28, wi x1] V K := by
  intro G A hR
  obtain ⟨L, P, rfl, hS⟩ := hR
  have hx := Xt.refl (V := pl G A L P) (A := A)
  show wpM E d M_X11_searched [vr (A 0 28), vi x1] G _
  refine wpM_of mk_X11_searched (Nat.le_of_ble_eq_true rfl) ?_
  refine v_X11_searched_0 ?_
  refine ⟨hS.o (s0_28 hS), ?_⟩
  rw [l0_28_5 hS]
  refine ⟨hS.o (s0_16 hS), ?_⟩
  refine ⟨fun hc => ?_, fun hc => ?_⟩
  · have h := h.1 hc
    refine ⟨fun hc => ?_, ?_⟩
    · have h := h.1 hc
      exact qx_i hS hx h
    have h := h.2
    refine ⟨fun hc => ?_, ?_⟩
    · have h := h.1 hc
      exact qx_i hS hx h
    have h := h.2
    refine ⟨fun hc => ?_, ?_⟩
    · have h := h.1 hc
      exact qx_i hS hx h
    have h := h.2
    intro q0 q1 q2
    have h := h q0 q1 q2
    exact qx_i hS hx h
  · have h := h.2 hc
    exact qx_i hS hx h
theorem w_X11_search_0 {E : EE} {d : Nat} {V : VH} {K : Int32 → VH → Prop} {x1 : Int32} {x2 : Int32} {x3 : Int32} {x4 : Int32} {x5 : Int32}  (h0 : 0 < d) (h : vMP E (d - 1) M_X11_known [sl 0 28, wi x1] V (fun g1 V1 => (¬ vL V1 g1 = true → K (-1) V1) ∧ (vL V1 g1 = true → (g1 ≠ 0 ∧ g1 ≠ 6) ∧ ((x5 < 0 → K (-1) V1) ∧ (¬ (x5 < 0) → (2000 < x5 → K (-1) V1) ∧ (¬ (2000 < x5) → vMI E (d - 1) M_X6_mayBe [wi x2, wi x3] V1 (fun r4 V4 => (¬ r4 = 0 → vMI E (d - 1) M_X6_seek [sl 0 16, sl g1 0, wi x2, wi x3, wi x4, wi x5] V4 (fun r8 V8 => K r8 V8)) ∧ (r4 = 0 → K (-1) V4)))))))) : vMI E d M_X11_search [sl 0 28, wi x1, wi x2, wi x3, wi x4, wi x5] V K := by
  intro G A hR
  obtain ⟨L, P, rfl, hS⟩ := hR
  have hx := Xt.refl (V := pl G A L P) (A := A)
  show wpM E d M_X11_search [vr (A 0 28), vi x1, vi x2, vi x3, vi x4, vi x5] G _
  refine wpM_of mk_X11_search (Nat.le_of_ble_eq_true rfl) ?_
  refine v_X11_search_0 h0 ?_
  refine ⟨hS.o (s0_28 hS), ?_⟩
  refine wpM.mono (h G A ⟨L, P, rfl, hS⟩) (fun rr1 G1 hr => ?_)
  obtain ⟨A1, W1, w1, ⟨L1, P1, rfl, hS1⟩, hy1, rfl, g1, rfl, h⟩ := hr
  refine ⟨A1 g1 0, rfl, ?_⟩
  have hx1 := Xt.trans hx hy1
  have ee2 : A1 0 28 = A 0 28 := hy1.2 _ _ hS.1.1 (((n0_28 hS1)).trans ((n0_28 hS)).symm)
  try rw [← ee2]
  refine ⟨fun hc => ?_, fun hc => ?_⟩
  · have h := h.1 ((hS1.null (nf_pos _)).mp hc)
    exact qx_i hS1 hx1 h
  · have h := h.2 (hS1.lv0 hc)
    obtain ⟨hw, h⟩ := h
    have hg3 : PG L1 g1 := ⟨hS1.lv0 hc, hw⟩
    refine ⟨fun hc => ?_, fun hc => ?_⟩
    · have h := h.1 hc
      exact qx_i hS1 hx1 h
    · have h := h.2 hc
      refine ⟨fun hc => ?_, fun hc => ?_⟩
      · have h := h.1 hc
        exact qx_i hS1 hx1 h
      · have h := h.2 hc
        refine wpM.mono (h G1 A1 ⟨L1, P1, rfl, hS1⟩) (fun rr4 G4 hr => ?_)
        obtain ⟨A4, W4, w4, ⟨L4, P4, rfl, hS4⟩, hy4, rfl, r4, rfl, h⟩ := hr
        refine ⟨r4, rfl, ?_⟩
        have hx4 := Xt.trans hx1 hy4
        have hg5 : PG L4 g1 := PG.up hy4 hg3
        have ee6 : A4 0 28 = A1 0 28 := hy4.2 _ _ hS1.1.1 (((n0_28 hS4)).trans ((n0_28 hS1)).symm)
        try rw [← ee6]
        have ee7 : A4 g1 0 = A1 g1 0 := hy4.2 _ _ hg3.1 (((nP_0 hS4 hg5)).trans ((nP_0 hS1 hg3)).symm)
        try rw [← ee7]
        refine ⟨fun hc => ?_, fun hc => ?_⟩
        · have h := h.1 hc
          refine ⟨hS4.o (s0_28 hS4), ?_⟩
          rw [l0_28_5 hS4]
          refine ⟨hS4.o (s0_16 hS4), ?_⟩
          refine wpM.mono (h G4 A4 ⟨L4, P4, rfl, hS4⟩) (fun rr8 G8 hr => ?_)
          obtain ⟨A8, W8, w8, ⟨L8, P8, rfl, hS8⟩, hy8, rfl, r8, rfl, h⟩ := hr
          refine ⟨r8, rfl, ?_⟩
          have hx8 := Xt.trans hx4 hy8
          have hg9 : PG L8 g1 := PG.up hy8 hg5
          have ee10 : A8 0 28 = A4 0 28 := hy8.2 _ _ hS4.1.1 (((n0_28 hS8)).trans ((n0_28 hS4)).symm)
          try rw [← ee10]
          have ee11 : A8 g1 0 = A4 g1 0 := hy8.2 _ _ hg5.1 (((nP_0 hS8 hg9)).trans ((nP_0 hS4 hg5)).symm)
          try rw [← ee11]
          exact qx_i hS8 hx8 h
        · have h := h.2 hc
          exact qx_i hS4 hx4 h
theorem w_X11_regret_0 {E : EE} {d : Nat} {V : VH} {K : Int64 → VH → Prop} {x1 : Int32} {x2 : Int32}  (h0 : 0 < d) (h : vMP E (d - 1) M_X11_known [sl 0 28, wi x1] V (fun g1 V1 => (¬ vL V1 g1 = true → K (-9223372036854775808) V1) ∧ (vL V1 g1 = true → (g1 ≠ 0 ∧ g1 ≠ 6) ∧ (((vI V1 g1 0 11) = 0 → K (-9223372036854775808) V1) ∧ (¬ ((vI V1 g1 0 11) = 0) → vMI E (d - 1) M_X11_isLevel [wi x2] V1 (fun r4 V4 => (¬ r4 = 0 → vwp E d M_X11_regret 36 [some (sl 0 28), some (wi x1), some (wi x2), some (sl g1 0), some (wj (-9223372036854775808)), none, some (wi 0), none, none] [] V4 (zj K)) ∧ (r4 = 0 → K (-9223372036854775808) V4))))))) : vMJ E d M_X11_regret [sl 0 28, wi x1, wi x2] V K := by
  intro G A hR
  obtain ⟨L, P, rfl, hS⟩ := hR
  have hx := Xt.refl (V := pl G A L P) (A := A)
  show wpM E d M_X11_regret [vr (A 0 28), vi x1, vi x2] G _
  refine wpM_of mk_X11_regret (Nat.le_of_ble_eq_true rfl) ?_
  refine v_X11_regret_0 h0 ?_
  refine ⟨hS.o (s0_28 hS), ?_⟩
  refine wpM.mono (h G A ⟨L, P, rfl, hS⟩) (fun rr1 G1 hr => ?_)
  obtain ⟨A1, W1, w1, ⟨L1, P1, rfl, hS1⟩, hy1, rfl, g1, rfl, h⟩ := hr
  refine ⟨A1 g1 0, rfl, ?_⟩
  have hx1 := Xt.trans hx hy1
  have ee2 : A1 0 28 = A 0 28 := hy1.2 _ _ hS.1.1 (((n0_28 hS1)).trans ((n0_28 hS)).symm)
  try rw [← ee2]
  refine ⟨fun hc => ?_, fun hc => ?_⟩
  · have h := h.1 ((hS1.null (nf_pos _)).mp hc)
    exact qx_j hS1 hx1 h
  · have h := h.2 (hS1.lv0 hc)
    obtain ⟨hw, h⟩ := h
    have hg3 : PG L1 g1 := ⟨hS1.lv0 hc, hw⟩
    refine ⟨hS1.o (sP_0 hg3), ?_⟩
    refine ⟨fun hc => ?_, fun hc => ?_⟩
    · have h := h.1 hc
      exact qx_j hS1 hx1 h
    · have h := h.2 hc
      refine wpM.mono (h G1 A1 ⟨L1, P1, rfl, hS1⟩) (fun rr4 G4 hr => ?_)
      obtain ⟨A4, W4, w4, ⟨L4, P4, rfl, hS4⟩, hy4, rfl, r4, rfl, h⟩ := hr
      refine ⟨r4, rfl, ?_⟩
      have hx4 := Xt.trans hx1 hy4
      have hg5 : PG L4 g1 := PG.up hy4 hg3
      have ee6 : A4 0 28 = A1 0 28 := hy4.2 _ _ hS1.1.1 (((n0_28 hS4)).trans ((n0_28 hS1)).symm)
      try rw [← ee6]
      have ee7 : A4 g1 0 = A1 g1 0 := hy4.2 _ _ hg3.1 (((nP_0 hS4 hg5)).trans ((nP_0 hS1 hg3)).symm)
      try rw [← ee7]
      refine ⟨fun hc => ?_, fun hc => ?_⟩
      · have h := h.1 hc
        exact wp.mono (h G4 A4 ⟨L4, P4, rfl, hS4⟩) (fun r G' q => qx_trans hx4 q)
      · have h := h.2 hc
        exact qx_j hS4 hx4 h
theorem w_X11_expected_0 {E : EE} {d : Nat} {V : VH} {K : Int64 → VH → Prop} {x1 : Int32} {x2 : Int32}  (h0 : 0 < d) (h : vMP E (d - 1) M_X11_known [sl 0 28, wi x1] V (fun g1 V1 => (¬ vL V1 g1 = true → K (-9223372036854775808) V1) ∧ (vL V1 g1 = true → (g1 ≠ 0 ∧ g1 ≠ 6) ∧ (((vI V1 g1 0 11) = 0 → K (-9223372036854775808) V1) ∧ (¬ ((vI V1 g1 0 11) = 0) → vMI E (d - 1) M_X11_isLevel [wi x2] V1 (fun r4 V4 => (¬ r4 = 0 → vMI E (d - 1) M_X3_sumOverFutures [sl g1 0, wi (vI V4 g1 0 8)] V4 (fun r8 V8 => vp_in x2 3 ∧ (vMI E (d - 1) M_X3_allOdds [sl g1 0] V8 (fun r13 V13 => vMV E (d - 1) M_X11_show [sl 0 28, wj (vJ V8 g1 28 (Int32.toNatClampNeg x2)), wj (Int32.toInt64 r13)] V13 (fun V17 => vp_in x2 3 ∧ (K (vJ V17 g1 28 (Int32.toNatClampNeg x2)) V17)))))) ∧ (r4 = 0 → K (-9223372036854775808) V4))))))) : vMJ E d M_X11_expected [sl 0 28, wi x1, wi x2] V K := by
  intro G A hR
  obtain ⟨L, P, rfl, hS⟩ := hR
  have hx := Xt.refl (V := pl G A L P) (A := A)
  show wpM E d M_X11_expected [vr (A 0 28), vi x1, vi x2] G _
  refine wpM_of mk_X11_expected (Nat.le_of_ble_eq_true rfl) ?_
  refine v_X11_expected_0 h0 ?_
  refine ⟨hS.o (s0_28 hS), ?_⟩
  refine wpM.mono (h G A ⟨L, P, rfl, hS⟩) (fun rr1 G1 hr => ?_)
  obtain ⟨A1, W1, w1, ⟨L1, P1, rfl, hS1⟩, hy1, rfl, g1, rfl, h⟩ := hr
  refine ⟨A1 g1 0, rfl, ?_⟩
  have hx1 := Xt.trans hx hy1
  have ee2 : A1 0 28 = A 0 28 := hy1.2 _ _ hS.1.1 (((n0_28 hS1)).trans ((n0_28 hS)).symm)
  try rw [← ee2]
  refine ⟨fun hc => ?_, fun hc => ?_⟩
  · have h := h.1 ((hS1.null (nf_pos _)).mp hc)
    exact qx_j hS1 hx1 h
  · have h := h.2 (hS1.lv0 hc)
    obtain ⟨hw, h⟩ := h
    have hg3 : PG L1 g1 := ⟨hS1.lv0 hc, hw⟩
    refine ⟨hS1.o (sP_0 hg3), ?_⟩
    refine ⟨fun hc => ?_, fun hc => ?_⟩
    · have h := h.1 hc
      exact qx_j hS1 hx1 h
    · have h := h.2 hc
      refine wpM.mono (h G1 A1 ⟨L1, P1, rfl, hS1⟩) (fun rr4 G4 hr => ?_)
      obtain ⟨A4, W4, w4, ⟨L4, P4, rfl, hS4⟩, hy4, rfl, r4, rfl, h⟩ := hr
      refine ⟨r4, rfl, ?_⟩
      have hx4 := Xt.trans hx1 hy4
      have hg5 : PG L4 g1 := PG.up hy4 hg3
      have ee6 : A4 0 28 = A1 0 28 := hy4.2 _ _ hS1.1.1 (((n0_28 hS4)).trans ((n0_28 hS1)).symm)
      try rw [← ee6]
      have ee7 : A4 g1 0 = A1 g1 0 := hy4.2 _ _ hg3.1 (((nP_0 hS4 hg5)).trans ((nP_0 hS1 hg3)).symm)
      try rw [← ee7]
      refine ⟨fun hc => ?_, fun hc => ?_⟩
      · have h := h.1 hc
        refine ⟨hS4.o (sP_0 hg5), ?_⟩
        refine wpM.mono (h G4 A4 ⟨L4, P4, rfl, hS4⟩) (fun rr8 G8 hr => ?_)
        obtain ⟨A8, W8, w8, ⟨L8, P8, rfl, hS8⟩, hy8, rfl, r8, rfl, h⟩ := hr
        refine ⟨r8, rfl, ?_⟩
        have hx8 := Xt.trans hx4 hy8
        have hg9 : PG L8 g1 := PG.up hy8 hg5
        have ee10 : A8 0 28 = A4 0 28 := hy8.2 _ _ hS4.1.1 (((n0_28 hS8)).trans ((n0_28 hS4)).symm)
        try rw [← ee10]
        have ee11 : A8 g1 0 = A4 g1 0 := hy8.2 _ _ hg5.1 (((nP_0 hS8 hg9)).trans ((nP_0 hS4 hg5)).symm)
        try rw [← ee11]
        refine ⟨hS8.o (sP_0 hg9), ?_⟩
        rw [lP_0_15 hS8 hg9]
        refine ⟨hS8.o (sP_28 hg9), ?_⟩
        obtain ⟨hi12, h⟩ := h
        refine ⟨by first | (rw [(nP_28 hS8 hg9)]; exact hi12) | exact (congrArg (vp_in _) (nP_28 hS8 hg9)).mpr hi12 | exact hi12, ?_⟩
        refine wpM.mono (h G8 A8 ⟨L8, P8, rfl, hS8⟩) (fun rr13 G13 hr => ?_)
        obtain ⟨A13, W13, w13, ⟨L13, P13, rfl, hS13⟩, hy13, rfl, r13, rfl, h⟩ := hr
        refine ⟨r13, rfl, ?_⟩
        have hx13 := Xt.trans hx8 hy13
        have hg14 : PG L13 g1 := PG.up hy13 hg9
        have ee15 : A13 0 28 = A8 0 28 := hy13.2 _ _ hS8.1.1 (((n0_28 hS13)).trans ((n0_28 hS8)).symm)
        try rw [← ee15]
        have ee16 : A13 g1 0 = A8 g1 0 := hy13.2 _ _ hg9.1 (((nP_0 hS13 hg14)).trans ((nP_0 hS8 hg9)).symm)
        try rw [← ee16]
        refine ⟨hS13.o (s0_28 hS13), ?_⟩
        refine wpM.mono (h G13 A13 ⟨L13, P13, rfl, hS13⟩) (fun rr17 G17 hr => ?_)
        obtain ⟨A17, W17, w17, ⟨L17, P17, rfl, hS17⟩, hy17, rfl, rfl, h⟩ := hr
        refine ⟨rfl, ?_⟩
        have hx17 := Xt.trans hx13 hy17
        have hg18 : PG L17 g1 := PG.up hy17 hg14
        have ee19 : A17 0 28 = A13 0 28 := hy17.2 _ _ hS13.1.1 (((n0_28 hS17)).trans ((n0_28 hS13)).symm)
        try rw [← ee19]
        have ee20 : A17 g1 0 = A13 g1 0 := hy17.2 _ _ hg14.1 (((nP_0 hS17 hg18)).trans ((nP_0 hS13 hg14)).symm)
        try rw [← ee20]
        refine ⟨hS17.o (sP_0 hg18), ?_⟩
        rw [lP_0_15 hS17 hg18]
        refine ⟨hS17.o (sP_28 hg18), ?_⟩
        obtain ⟨hi21, h⟩ := h
        refine ⟨by first | (rw [(nP_28 hS17 hg18)]; exact hi21) | exact (congrArg (vp_in _) (nP_28 hS17 hg18)).mpr hi21 | exact hi21, ?_⟩
        exact qx_j hS17 hx17 h
      · have h := h.2 hc
        exact qx_j hS4 hx4 h
theorem w_X11_robust_0 {E : EE} {d : Nat} {V : VH} {K : Int32 → VH → Prop} {x1 : Int32}  (h0 : 0 < d) (h : vMP E (d - 1) M_X11_known [sl 0 28, wi x1] V (fun g1 V1 => (vL V1 g1 = true → (g1 ≠ 0 ∧ g1 ≠ 6) ∧ ((¬ (vI V1 g1 0 11) = 0 → vMI E (d - 1) M_X3_mostRobust [sl g1 0] V1 (fun r4 V4 => vwp E d M_X11_robust 27 [some (sl 0 28), some (wi x1), some (sl g1 0), none] [wi r4] V4 (zi K))) ∧ ((vI V1 g1 0 11) = 0 → vwp E d M_X11_robust 27 [some (sl 0 28), some (wi x1), some (sl g1 0), none] [wi (-1)] V1 (zi K)))) ∧ (¬ vL V1 g1 = true → K (-1) V1))) : vMI E d M_X11_robust [sl 0 28, wi x1] V K := by
  intro G A hR
  obtain ⟨L, P, rfl, hS⟩ := hR
  have hx := Xt.refl (V := pl G A L P) (A := A)
  show wpM E d M_X11_robust [vr (A 0 28), vi x1] G _
  refine wpM_of mk_X11_robust (Nat.le_of_ble_eq_true rfl) ?_
  refine v_X11_robust_0 h0 ?_
  refine ⟨hS.o (s0_28 hS), ?_⟩
  refine wpM.mono (h G A ⟨L, P, rfl, hS⟩) (fun rr1 G1 hr => ?_)
  obtain ⟨A1, W1, w1, ⟨L1, P1, rfl, hS1⟩, hy1, rfl, g1, rfl, h⟩ := hr
  refine ⟨A1 g1 0, rfl, ?_⟩
  have hx1 := Xt.trans hx hy1
  have ee2 : A1 0 28 = A 0 28 := hy1.2 _ _ hS.1.1 (((n0_28 hS1)).trans ((n0_28 hS)).symm)
  try rw [← ee2]
  refine ⟨fun hc => ?_, fun hc => ?_⟩
  · have h := h.1 (hS1.lv0 hc)
    obtain ⟨hw, h⟩ := h
    have hg3 : PG L1 g1 := ⟨hS1.lv0 hc, hw⟩
    refine ⟨hS1.o (sP_0 hg3), ?_⟩
    refine ⟨fun hc => ?_, fun hc => ?_⟩
    · have h := h.1 hc
      refine wpM.mono (h G1 A1 ⟨L1, P1, rfl, hS1⟩) (fun rr4 G4 hr => ?_)
      obtain ⟨A4, W4, w4, ⟨L4, P4, rfl, hS4⟩, hy4, rfl, r4, rfl, h⟩ := hr
      refine ⟨r4, rfl, ?_⟩
      have hx4 := Xt.trans hx1 hy4
      have hg5 : PG L4 g1 := PG.up hy4 hg3
      have ee6 : A4 0 28 = A1 0 28 := hy4.2 _ _ hS1.1.1 (((n0_28 hS4)).trans ((n0_28 hS1)).symm)
      try rw [← ee6]
      have ee7 : A4 g1 0 = A1 g1 0 := hy4.2 _ _ hg3.1 (((nP_0 hS4 hg5)).trans ((nP_0 hS1 hg3)).symm)
      try rw [← ee7]
      exact wp.mono (h G4 A4 ⟨L4, P4, rfl, hS4⟩) (fun r G' q => qx_trans hx4 q)
    · have h := h.2 hc
      exact wp.mono (h G1 A1 ⟨L1, P1, rfl, hS1⟩) (fun r G' q => qx_trans hx1 q)
  · have h := h.2 ((hS1.null (nf_pos _)).mp hc)
    exact qx_i hS1 hx1 h
theorem w_X11_unfold_0 {E : EE} {d : Nat} {V : VH} {K : Int32 → VH → Prop} {x1 : Int32}  (h0 : 0 < d) (h : vMP E (d - 1) M_X11_known [sl 0 28, wi x1] V (fun g1 V1 => (vL V1 g1 = true → (g1 ≠ 0 ∧ g1 ≠ 6) ∧ (∀ V4 : VH, V4 = wrI V1 g1 0 11 0 → K (vI V1 g1 0 11) V4)) ∧ (¬ vL V1 g1 = true → K (-1) V1))) : vMI E d M_X11_unfold [sl 0 28, wi x1] V K := by
  intro G A hR
  obtain ⟨L, P, rfl, hS⟩ := hR
  have hx := Xt.refl (V := pl G A L P) (A := A)
  show wpM E d M_X11_unfold [vr (A 0 28), vi x1] G _
  refine wpM_of mk_X11_unfold (Nat.le_of_ble_eq_true rfl) ?_
  refine v_X11_unfold_0 h0 ?_
  refine ⟨hS.o (s0_28 hS), ?_⟩
  refine wpM.mono (h G A ⟨L, P, rfl, hS⟩) (fun rr1 G1 hr => ?_)
  obtain ⟨A1, W1, w1, ⟨L1, P1, rfl, hS1⟩, hy1, rfl, g1, rfl, h⟩ := hr
  refine ⟨A1 g1 0, rfl, ?_⟩
  have hx1 := Xt.trans hx hy1
  have ee2 : A1 0 28 = A 0 28 := hy1.2 _ _ hS.1.1 (((n0_28 hS1)).trans ((n0_28 hS)).symm)
  try rw [← ee2]
  refine ⟨fun hc => ?_, fun hc => ?_⟩
  · have h := h.1 (hS1.lv0 hc)
    obtain ⟨hw, h⟩ := h
    have hg3 : PG L1 g1 := ⟨hS1.lv0 hc, hw⟩
    refine ⟨hS1.o (sP_0 hg3), ?_⟩
    have hS4 : Sh E (sI G1 (A1 g1 0) 11 0) A1 L1 P1 := Sh_sI (rfl : sI G1 (A1 g1 0) 11 0 = sI G1 (A1 g1 0) 11 0) hS1 (sP_0 hg3) (okT_0 rfl)
    have h := h (pl (sI G1 (A1 g1 0) 11 0) A1 L1 P1) (pl_sI (rfl : sI G1 (A1 g1 0) 11 0 = sI G1 (A1 g1 0) 11 0) hS1 (sP_0 hg3))
    have hx4 : Xt (pl G A L P) A (pl (sI G1 (A1 g1 0) 11 0) A1 L1 P1) A1 := Xt_sI (rfl : sI G1 (A1 g1 0) 11 0 = sI G1 (A1 g1 0) 11 0) hx1
    exact qx_i hS4 hx4 h
  · have h := h.2 ((hS1.null (nf_pos _)).mp hc)
    exact qx_i hS1 hx1 h
theorem w_X11_told_0 {E : EE} {d : Nat} {V : VH} {K : Int32 → VH → Prop} {x1 : Int32} {x2 : Int32} {x3 : Int32} {x4 : Int32}  (h0 : 0 < d) (h : vMP E (d - 1) M_X11_known [sl 0 28, wi x1] V (fun g1 V1 => (¬ vL V1 g1 = true → K 0 V1) ∧ (vL V1 g1 = true → (g1 ≠ 0 ∧ g1 ≠ 6) ∧ ((x2 < 0 → K 0 V1) ∧ (¬ (x2 < 0) → ((vI V1 g1 0 11) ≤ x2 → K 0 V1) ∧ (¬ ((vI V1 g1 0 11) ≤ x2) → vMI E (d - 1) M_X3_isFact [sl g1 0, wi x3] V1 (fun r4 V4 => (¬ r4 = 0 → (x4 < (-9999) → K 0 V4) ∧ (¬ (x4 < (-9999)) → (x4 ≤ 9999 → vp_in x2 6 ∧ (vp_in x2 6 ∧ (∀ V10 : VH, V10 = wrI V4 g1 25 (Int32.toNatClampNeg x2) ((vI V4 g1 25 (Int32.toNatClampNeg x2)) ||| (1 <<< (x3 &&& 31))) → vp_in ((x2 * 16) + x3) 96 ∧ (∀ V12 : VH, V12 = wrI V10 g1 26 (Int32.toNatClampNeg ((x2 * 16) + x3)) x4 → K 1 V12)))) ∧ (¬ (x4 ≤ 9999) → K 0 V4))) ∧ (r4 = 0 → K 0 V4)))))))) : vMI E d M_X11_told [sl 0 28, wi x1, wi x2, wi x3, wi x4] V K := by
  intro G A hR
  obtain ⟨L, P, rfl, hS⟩ := hR
  have hx := Xt.refl (V := pl G A L P) (A := A)
  show wpM E d M_X11_told [vr (A 0 28), vi x1, vi x2, vi x3, vi x4] G _
  refine wpM_of mk_X11_told (Nat.le_of_ble_eq_true rfl) ?_
  refine v_X11_told_0 h0 ?_
  refine ⟨hS.o (s0_28 hS), ?_⟩
  refine wpM.mono (h G A ⟨L, P, rfl, hS⟩) (fun rr1 G1 hr => ?_)
  obtain ⟨A1, W1, w1, ⟨L1, P1, rfl, hS1⟩, hy1, rfl, g1, rfl, h⟩ := hr
  refine ⟨A1 g1 0, rfl, ?_⟩
  have hx1 := Xt.trans hx hy1
  have ee2 : A1 0 28 = A 0 28 := hy1.2 _ _ hS.1.1 (((n0_28 hS1)).trans ((n0_28 hS)).symm)
  try rw [← ee2]
  refine ⟨fun hc => ?_, fun hc => ?_⟩
  · have h := h.1 ((hS1.null (nf_pos _)).mp hc)
    exact qx_i hS1 hx1 h
  · have h := h.2 (hS1.lv0 hc)
    obtain ⟨hw, h⟩ := h
    have hg3 : PG L1 g1 := ⟨hS1.lv0 hc, hw⟩
    refine ⟨fun hc => ?_, fun hc => ?_⟩
    · have h := h.1 hc
      exact qx_i hS1 hx1 h
    · have h := h.2 hc
      refine ⟨hS1.o (sP_0 hg3), ?_⟩
      refine ⟨fun hc => ?_, fun hc => ?_⟩
      · have h := h.1 hc
        exact qx_i hS1 hx1 h
      · have h := h.2 hc
        refine wpM.mono (h G1 A1 ⟨L1, P1, rfl, hS1⟩) (fun rr4 G4 hr => ?_)
        obtain ⟨A4, W4, w4, ⟨L4, P4, rfl, hS4⟩, hy4, rfl, r4, rfl, h⟩ := hr
        refine ⟨r4, rfl, ?_⟩
        have hx4 := Xt.trans hx1 hy4
        have hg5 : PG L4 g1 := PG.up hy4 hg3
        have ee6 : A4 0 28 = A1 0 28 := hy4.2 _ _ hS1.1.1 (((n0_28 hS4)).trans ((n0_28 hS1)).symm)
        try rw [← ee6]
        have ee7 : A4 g1 0 = A1 g1 0 := hy4.2 _ _ hg3.1 (((nP_0 hS4 hg5)).trans ((nP_0 hS1 hg3)).symm)
        try rw [← ee7]
        refine ⟨fun hc => ?_, fun hc => ?_⟩
        · have h := h.1 hc
          refine ⟨fun hc => ?_, fun hc => ?_⟩
          · have h := h.1 hc
            exact qx_i hS4 hx4 h
          · have h := h.2 hc
            refine ⟨fun hc => ?_, fun hc => ?_⟩
            · have h := h.1 hc
              refine ⟨hS4.o (sP_0 hg5), ?_⟩
              rw [lP_0_12 hS4 hg5]
              refine ⟨hS4.o (sP_25 hg5), ?_⟩
              obtain ⟨hi8, h⟩ := h
              refine ⟨by first | (rw [(nP_25 hS4 hg5)]; exact hi8) | exact (congrArg (vp_in _) (nP_25 hS4 hg5)).mpr hi8 | exact hi8, ?_⟩
              obtain ⟨hi9, h⟩ := h
              refine ⟨by first | (rw [(nP_25 hS4 hg5)]; exact hi9) | exact (congrArg (vp_in _) (nP_25 hS4 hg5)).mpr hi9 | exact hi9, ?_⟩
              intro G10 eG10
              have hS10 : Sh E G10 A4 L4 P4 := Sh_sI eG10 hS4 (sP_25 hg5) (okT_0 rfl)
              have h := h (pl G10 A4 L4 P4) (pl_sI eG10 hS4 (sP_25 hg5))
              have hx10 : Xt (pl G A L P) A (pl G10 A4 L4 P4) A4 := Xt_sI eG10 hx4
              rw [lP_0_13 hS10 hg5]
              refine ⟨hS10.o (sP_26 hg5), ?_⟩
              obtain ⟨hi11, h⟩ := h
              refine ⟨by first | (rw [(nP_26 hS10 hg5)]; exact hi11) | exact (congrArg (vp_in _) (nP_26 hS10 hg5)).mpr hi11 | exact hi11, ?_⟩
              intro G12 eG12
              have hS12 : Sh E G12 A4 L4 P4 := Sh_sI eG12 hS10 (sP_26 hg5) (okT_0 rfl)
              have h := h (pl G12 A4 L4 P4) (pl_sI eG12 hS10 (sP_26 hg5))
              have hx12 : Xt (pl G A L P) A (pl G12 A4 L4 P4) A4 := Xt_sI eG12 hx10
              exact qx_i hS12 hx12 h
            · have h := h.2 hc
              exact qx_i hS4 hx4 h
        · have h := h.2 hc
          exact qx_i hS4 hx4 h
theorem w_X11_future_0 {E : EE} {d : Nat} {V : VH} {K : Int32 → VH → Prop} {x1 : Int32} {x2 : Int32}  (h0 : 0 < d) (h : vMP E (d - 1) M_X11_known [sl 0 28, wi x1] V (fun g1 V1 => (¬ vL V1 g1 = true → K (-1) V1) ∧ (vL V1 g1 = true → (g1 ≠ 0 ∧ g1 ≠ 6) ∧ ((x2 < 1 → K (-1) V1) ∧ (¬ (x2 < 1) → (x2 ≤ 100 → ((vI V1 g1 0 11) < 6 → vMI E (d - 1) M_X3_addFuture [sl g1 0, wi x2] V1 (fun r4 V4 => K r4 V4)) ∧ (¬ ((vI V1 g1 0 11) < 6) → K (-100000) V1)) ∧ (¬ (x2 ≤ 100) → K (-1) V1)))))) : vMI E d M_X11_future [sl 0 28, wi x1, wi x2] V K := by
  intro G A hR
  obtain ⟨L, P, rfl, hS⟩ := hR
  have hx := Xt.refl (V := pl G A L P) (A := A)
  show wpM E d M_X11_future [vr (A 0 28), vi x1, vi x2] G _
  refine wpM_of mk_X11_future (Nat.le_of_ble_eq_true rfl) ?_
  refine v_X11_future_0 h0 ?_
  refine ⟨hS.o (s0_28 hS), ?_⟩
  refine wpM.mono (h G A ⟨L, P, rfl, hS⟩) (fun rr1 G1 hr => ?_)
  obtain ⟨A1, W1, w1, ⟨L1, P1, rfl, hS1⟩, hy1, rfl, g1, rfl, h⟩ := hr
  refine ⟨A1 g1 0, rfl, ?_⟩
  have hx1 := Xt.trans hx hy1
  have ee2 : A1 0 28 = A 0 28 := hy1.2 _ _ hS.1.1 (((n0_28 hS1)).trans ((n0_28 hS)).symm)
  try rw [← ee2]
  refine ⟨fun hc => ?_, fun hc => ?_⟩
  · have h := h.1 ((hS1.null (nf_pos _)).mp hc)
    exact qx_i hS1 hx1 h
  · have h := h.2 (hS1.lv0 hc)
    obtain ⟨hw, h⟩ := h
    have hg3 : PG L1 g1 := ⟨hS1.lv0 hc, hw⟩
    refine ⟨fun hc => ?_, fun hc => ?_⟩
    · have h := h.1 hc
      exact qx_i hS1 hx1 h
    · have h := h.2 hc
      refine ⟨fun hc => ?_, fun hc => ?_⟩
      · have h := h.1 hc
        refine ⟨hS1.o (sP_0 hg3), ?_⟩
        refine ⟨fun hc => ?_, fun hc => ?_⟩
        · have h := h.1 hc
          refine wpM.mono (h G1 A1 ⟨L1, P1, rfl, hS1⟩) (fun rr4 G4 hr => ?_)
          obtain ⟨A4, W4, w4, ⟨L4, P4, rfl, hS4⟩, hy4, rfl, r4, rfl, h⟩ := hr
          refine ⟨r4, rfl, ?_⟩
          have hx4 := Xt.trans hx1 hy4
          have hg5 : PG L4 g1 := PG.up hy4 hg3
          have ee6 : A4 0 28 = A1 0 28 := hy4.2 _ _ hS1.1.1 (((n0_28 hS4)).trans ((n0_28 hS1)).symm)
          try rw [← ee6]
          have ee7 : A4 g1 0 = A1 g1 0 := hy4.2 _ _ hg3.1 (((nP_0 hS4 hg5)).trans ((nP_0 hS1 hg3)).symm)
          try rw [← ee7]
          exact qx_i hS4 hx4 h
        · have h := h.2 hc
          exact qx_i hS1 hx1 h
      · have h := h.2 hc
        exact qx_i hS1 hx1 h
theorem w_X11_because_0 {E : EE} {d : Nat} {V : VH} {K : Int32 → VH → Prop} {x1 : Int32} {x2 : Int32} {x3 : Int32}  (h0 : 0 < d) (h : vMP E (d - 1) M_X11_scored [sl 0 28, wi x1] V (fun g1 V1 => (vL V1 g1 = true → (g1 ≠ 0 ∧ g1 ≠ 6) ∧ (vMI E (d - 1) M_X3_firstBestWith [sl g1 0, wi x2, wi x3] V1 (fun r4 V4 => (r4 < 0 → K (-1) V4) ∧ (¬ (r4 < 0) → vMI E (d - 1) M_X9_gatherFor [sl g1 19, sl g1 0, wi 1] V4 (fun r8 V8 => (¬ r8 = 0 → vp_in 0 (vN V8 g1 20) ∧ (vMI E (d - 1) M_X3_firstWorseRule [sl g1 0, wi r4, wi (vI V8 g1 20 (Int32.toNatClampNeg 0))] V8 (fun r13 V13 => K r13 V13))) ∧ (r8 = 0 → K (-1) V8)))))) ∧ (¬ vL V1 g1 = true → K (-1) V1))) : vMI E d M_X11_because [sl 0 28, wi x1, wi x2, wi x3] V K := by
  intro G A hR
  obtain ⟨L, P, rfl, hS⟩ := hR
  have hx := Xt.refl (V := pl G A L P) (A := A)
  show wpM E d M_X11_because [vr (A 0 28), vi x1, vi x2, vi x3] G _
  refine wpM_of mk_X11_because (Nat.le_of_ble_eq_true rfl) ?_
  refine v_X11_because_0 h0 ?_
  refine ⟨hS.o (s0_28 hS), ?_⟩
  refine wpM.mono (h G A ⟨L, P, rfl, hS⟩) (fun rr1 G1 hr => ?_)
  obtain ⟨A1, W1, w1, ⟨L1, P1, rfl, hS1⟩, hy1, rfl, g1, rfl, h⟩ := hr
  refine ⟨A1 g1 0, rfl, ?_⟩
  have hx1 := Xt.trans hx hy1
  have ee2 : A1 0 28 = A 0 28 := hy1.2 _ _ hS.1.1 (((n0_28 hS1)).trans ((n0_28 hS)).symm)
  try rw [← ee2]
  refine ⟨fun hc => ?_, fun hc => ?_⟩
  · have h := h.1 (hS1.lv0 hc)
    obtain ⟨hw, h⟩ := h
    have hg3 : PG L1 g1 := ⟨hS1.lv0 hc, hw⟩
    refine ⟨hS1.o (sP_0 hg3), ?_⟩
    refine wpM.mono (h G1 A1 ⟨L1, P1, rfl, hS1⟩) (fun rr4 G4 hr => ?_)
    obtain ⟨A4, W4, w4, ⟨L4, P4, rfl, hS4⟩, hy4, rfl, r4, rfl, h⟩ := hr
    refine ⟨r4, rfl, ?_⟩
    have hx4 := Xt.trans hx1 hy4
    have hg5 : PG L4 g1 := PG.up hy4 hg3
    have ee6 : A4 0 28 = A1 0 28 := hy4.2 _ _ hS1.1.1 (((n0_28 hS4)).trans ((n0_28 hS1)).symm)
    try rw [← ee6]
    have ee7 : A4 g1 0 = A1 g1 0 := hy4.2 _ _ hg3.1 (((nP_0 hS4 hg5)).trans ((nP_0 hS1 hg3)).symm)
    try rw [← ee7]
    refine ⟨fun hc => ?_, fun hc => ?_⟩
    · have h := h.1 hc
      exact qx_i hS4 hx4 h
    · have h := h.2 hc
      refine ⟨hS4.o (sP_0 hg5), ?_⟩
      rw [lP_0_6 hS4 hg5]
      refine ⟨hS4.o (sP_19 hg5), ?_⟩
      refine wpM.mono (h G4 A4 ⟨L4, P4, rfl, hS4⟩) (fun rr8 G8 hr => ?_)
      obtain ⟨A8, W8, w8, ⟨L8, P8, rfl, hS8⟩, hy8, rfl, r8, rfl, h⟩ := hr
      refine ⟨r8, rfl, ?_⟩
      have hx8 := Xt.trans hx4 hy8
      have hg9 : PG L8 g1 := PG.up hy8 hg5
      have ee10 : A8 0 28 = A4 0 28 := hy8.2 _ _ hS4.1.1 (((n0_28 hS8)).trans ((n0_28 hS4)).symm)
      try rw [← ee10]
      have ee11 : A8 g1 0 = A4 g1 0 := hy8.2 _ _ hg5.1 (((nP_0 hS8 hg9)).trans ((nP_0 hS4 hg5)).symm)
      try rw [← ee11]
      refine ⟨fun hc => ?_, fun hc => ?_⟩
      · have h := h.1 hc
        refine ⟨hS8.o (sP_0 hg9), ?_⟩
        rw [lP_0_6 hS8 hg9]
        refine ⟨hS8.o (sP_19 hg9), ?_⟩
        rw [lP_19_2 hS8 hg9]
        refine ⟨hS8.o (sP_20 hg9), ?_⟩
        obtain ⟨hi12, h⟩ := h
        refine ⟨hi12, ?_⟩
        refine wpM.mono (h G8 A8 ⟨L8, P8, rfl, hS8⟩) (fun rr13 G13 hr => ?_)
        obtain ⟨A13, W13, w13, ⟨L13, P13, rfl, hS13⟩, hy13, rfl, r13, rfl, h⟩ := hr
        refine ⟨r13, rfl, ?_⟩
        have hx13 := Xt.trans hx8 hy13
        have hg14 : PG L13 g1 := PG.up hy13 hg9
        have ee15 : A13 0 28 = A8 0 28 := hy13.2 _ _ hS8.1.1 (((n0_28 hS13)).trans ((n0_28 hS8)).symm)
        try rw [← ee15]
        have ee16 : A13 g1 0 = A8 g1 0 := hy13.2 _ _ hg9.1 (((nP_0 hS13 hg14)).trans ((nP_0 hS8 hg9)).symm)
        try rw [← ee16]
        exact qx_i hS13 hx13 h
      · have h := h.2 hc
        exact qx_i hS8 hx8 h
  · have h := h.2 ((hS1.null (nf_pos _)).mp hc)
    exact qx_i hS1 hx1 h
theorem w_X11_whyNot_0 {E : EE} {d : Nat} {V : VH} {K : Int64 → VH → Prop} {x1 : Int32} {x2 : Int32} {x3 : Int32} {x4 : Int32}  (h0 : 0 < d) (h : vMP E (d - 1) M_X11_scored [sl 0 28, wi x1] V (fun g1 V1 => (¬ vL V1 g1 = true → K (-9223372036854775808) V1) ∧ (vL V1 g1 = true → (g1 ≠ 0 ∧ g1 ≠ 6) ∧ (vMI E (d - 1) M_X11_isLevel [wi x4] V1 (fun r4 V4 => (¬ r4 = 0 → vMI E (d - 1) M_X3_firstBestWith [sl g1 0, wi x2, wi x3] V4 (fun r8 V8 => (0 ≤ r8 → vMJ E (d - 1) M_X9_scoreOf [sl g1 19, wi r8, wi x4] V8 (fun r12 V12 => K r12 V12)) ∧ (¬ (0 ≤ r8) → K (-9223372036854775808) V8))) ∧ (r4 = 0 → K (-9223372036854775808) V4)))))) : vMJ E d M_X11_whyNot [sl 0 28, wi x1, wi x2, wi x3, wi x4] V K := by
  intro G A hR
  obtain ⟨L, P, rfl, hS⟩ := hR
  have hx := Xt.refl (V := pl G A L P) (A := A)
  show wpM E d M_X11_whyNot [vr (A 0 28), vi x1, vi x2, vi x3, vi x4] G _
  refine wpM_of mk_X11_whyNot (Nat.le_of_ble_eq_true rfl) ?_
  refine v_X11_whyNot_0 h0 ?_
  refine ⟨hS.o (s0_28 hS), ?_⟩
  refine wpM.mono (h G A ⟨L, P, rfl, hS⟩) (fun rr1 G1 hr => ?_)
  obtain ⟨A1, W1, w1, ⟨L1, P1, rfl, hS1⟩, hy1, rfl, g1, rfl, h⟩ := hr
  refine ⟨A1 g1 0, rfl, ?_⟩
  have hx1 := Xt.trans hx hy1
  have ee2 : A1 0 28 = A 0 28 := hy1.2 _ _ hS.1.1 (((n0_28 hS1)).trans ((n0_28 hS)).symm)
  try rw [← ee2]
  refine ⟨fun hc => ?_, fun hc => ?_⟩
  · have h := h.1 ((hS1.null (nf_pos _)).mp hc)
    exact qx_j hS1 hx1 h
  · have h := h.2 (hS1.lv0 hc)
    obtain ⟨hw, h⟩ := h
    have hg3 : PG L1 g1 := ⟨hS1.lv0 hc, hw⟩
    refine wpM.mono (h G1 A1 ⟨L1, P1, rfl, hS1⟩) (fun rr4 G4 hr => ?_)
    obtain ⟨A4, W4, w4, ⟨L4, P4, rfl, hS4⟩, hy4, rfl, r4, rfl, h⟩ := hr
    refine ⟨r4, rfl, ?_⟩
    have hx4 := Xt.trans hx1 hy4
    have hg5 : PG L4 g1 := PG.up hy4 hg3
    have ee6 : A4 0 28 = A1 0 28 := hy4.2 _ _ hS1.1.1 (((n0_28 hS4)).trans ((n0_28 hS1)).symm)
    try rw [← ee6]
    have ee7 : A4 g1 0 = A1 g1 0 := hy4.2 _ _ hg3.1 (((nP_0 hS4 hg5)).trans ((nP_0 hS1 hg3)).symm)
    try rw [← ee7]
    refine ⟨fun hc => ?_, fun hc => ?_⟩
    · have h := h.1 hc
      refine ⟨hS4.o (sP_0 hg5), ?_⟩
      refine wpM.mono (h G4 A4 ⟨L4, P4, rfl, hS4⟩) (fun rr8 G8 hr => ?_)
      obtain ⟨A8, W8, w8, ⟨L8, P8, rfl, hS8⟩, hy8, rfl, r8, rfl, h⟩ := hr
      refine ⟨r8, rfl, ?_⟩
      have hx8 := Xt.trans hx4 hy8
      have hg9 : PG L8 g1 := PG.up hy8 hg5
      have ee10 : A8 0 28 = A4 0 28 := hy8.2 _ _ hS4.1.1 (((n0_28 hS8)).trans ((n0_28 hS4)).symm)
      try rw [← ee10]
      have ee11 : A8 g1 0 = A4 g1 0 := hy8.2 _ _ hg5.1 (((nP_0 hS8 hg9)).trans ((nP_0 hS4 hg5)).symm)
      try rw [← ee11]
      refine ⟨fun hc => ?_, fun hc => ?_⟩
      · have h := h.1 hc
        refine ⟨hS8.o (sP_0 hg9), ?_⟩
        rw [lP_0_6 hS8 hg9]
        refine ⟨hS8.o (sP_19 hg9), ?_⟩
        refine wpM.mono (h G8 A8 ⟨L8, P8, rfl, hS8⟩) (fun rr12 G12 hr => ?_)
        obtain ⟨A12, W12, w12, ⟨L12, P12, rfl, hS12⟩, hy12, rfl, r12, rfl, h⟩ := hr
        refine ⟨r12, rfl, ?_⟩
        have hx12 := Xt.trans hx8 hy12
        have hg13 : PG L12 g1 := PG.up hy12 hg9
        have ee14 : A12 0 28 = A8 0 28 := hy12.2 _ _ hS8.1.1 (((n0_28 hS12)).trans ((n0_28 hS8)).symm)
        try rw [← ee14]
        have ee15 : A12 g1 0 = A8 g1 0 := hy12.2 _ _ hg9.1 (((nP_0 hS12 hg13)).trans ((nP_0 hS8 hg9)).symm)
        try rw [← ee15]
        exact qx_j hS12 hx12 h
      · have h := h.2 hc
        exact qx_j hS8 hx8 h
    · have h := h.2 hc
      exact qx_j hS4 hx4 h
theorem w_X11_without_0 {E : EE} {d : Nat} {V : VH} {K : Int64 → VH → Prop} {x1 : Int32} {x2 : Int32} {x3 : Int32}  (h0 : 0 < d) (h : vMP E (d - 1) M_X11_scored [sl 0 28, wi x1] V (fun g1 V1 => (¬ vL V1 g1 = true → K (-9223372036854775808) V1) ∧ (vL V1 g1 = true → (g1 ≠ 0 ∧ g1 ≠ 6) ∧ (vMI E (d - 1) M_X3_isRule [sl g1 0, wi x2] V1 (fun r4 V4 => (r4 = 0 → K (-9223372036854775808) V4) ∧ (¬ (r4 = 0) → vMI E (d - 1) M_X11_isLevel [wi x3] V4 (fun r8 V8 => (¬ r8 = 0 → vMI E (d - 1) M_X3_bestLacking [sl g1 0, wi x2] V8 (fun r12 V12 => (r12 = 0 → K (-9223372036854775808) V12) ∧ (¬ (r12 = 0) → vp_in x3 3 ∧ (K (vJ V12 g1 28 (Int32.toNatClampNeg x3)) V12)))) ∧ (r8 = 0 → K (-9223372036854775808) V8)))))))) : vMJ E d M_X11_without [sl 0 28, wi x1, wi x2, wi x3] V K := by
  intro G A hR
  obtain ⟨L, P, rfl, hS⟩ := hR
  have hx := Xt.refl (V := pl G A L P) (A := A)
  show wpM E d M_X11_without [vr (A 0 28), vi x1, vi x2, vi x3] G _
  refine wpM_of mk_X11_without (Nat.le_of_ble_eq_true rfl) ?_
  refine v_X11_without_0 h0 ?_
  refine ⟨hS.o (s0_28 hS), ?_⟩
  refine wpM.mono (h G A ⟨L, P, rfl, hS⟩) (fun rr1 G1 hr => ?_)
  obtain ⟨A1, W1, w1, ⟨L1, P1, rfl, hS1⟩, hy1, rfl, g1, rfl, h⟩ := hr
  refine ⟨A1 g1 0, rfl, ?_⟩
  have hx1 := Xt.trans hx hy1
  have ee2 : A1 0 28 = A 0 28 := hy1.2 _ _ hS.1.1 (((n0_28 hS1)).trans ((n0_28 hS)).symm)
  try rw [← ee2]
  refine ⟨fun hc => ?_, fun hc => ?_⟩
  · have h := h.1 ((hS1.null (nf_pos _)).mp hc)
    exact qx_j hS1 hx1 h
  · have h := h.2 (hS1.lv0 hc)
    obtain ⟨hw, h⟩ := h
    have hg3 : PG L1 g1 := ⟨hS1.lv0 hc, hw⟩
    refine ⟨hS1.o (sP_0 hg3), ?_⟩
    refine wpM.mono (h G1 A1 ⟨L1, P1, rfl, hS1⟩) (fun rr4 G4 hr => ?_)
    obtain ⟨A4, W4, w4, ⟨L4, P4, rfl, hS4⟩, hy4, rfl, r4, rfl, h⟩ := hr
    refine ⟨r4, rfl, ?_⟩
    have hx4 := Xt.trans hx1 hy4
    have hg5 : PG L4 g1 := PG.up hy4 hg3
    have ee6 : A4 0 28 = A1 0 28 := hy4.2 _ _ hS1.1.1 (((n0_28 hS4)).trans ((n0_28 hS1)).symm)
    try rw [← ee6]
    have ee7 : A4 g1 0 = A1 g1 0 := hy4.2 _ _ hg3.1 (((nP_0 hS4 hg5)).trans ((nP_0 hS1 hg3)).symm)
    try rw [← ee7]
    refine ⟨fun hc => ?_, fun hc => ?_⟩
    · have h := h.1 hc
      exact qx_j hS4 hx4 h
    · have h := h.2 hc
      refine wpM.mono (h G4 A4 ⟨L4, P4, rfl, hS4⟩) (fun rr8 G8 hr => ?_)
      obtain ⟨A8, W8, w8, ⟨L8, P8, rfl, hS8⟩, hy8, rfl, r8, rfl, h⟩ := hr
      refine ⟨r8, rfl, ?_⟩
      have hx8 := Xt.trans hx4 hy8
      have hg9 : PG L8 g1 := PG.up hy8 hg5
      have ee10 : A8 0 28 = A4 0 28 := hy8.2 _ _ hS4.1.1 (((n0_28 hS8)).trans ((n0_28 hS4)).symm)
      try rw [← ee10]
      have ee11 : A8 g1 0 = A4 g1 0 := hy8.2 _ _ hg5.1 (((nP_0 hS8 hg9)).trans ((nP_0 hS4 hg5)).symm)
      try rw [← ee11]
      refine ⟨fun hc => ?_, fun hc => ?_⟩
      · have h := h.1 hc
        refine ⟨hS8.o (sP_0 hg9), ?_⟩
        refine wpM.mono (h G8 A8 ⟨L8, P8, rfl, hS8⟩) (fun rr12 G12 hr => ?_)
        obtain ⟨A12, W12, w12, ⟨L12, P12, rfl, hS12⟩, hy12, rfl, r12, rfl, h⟩ := hr
        refine ⟨r12, rfl, ?_⟩
        have hx12 := Xt.trans hx8 hy12
        have hg13 : PG L12 g1 := PG.up hy12 hg9
        have ee14 : A12 0 28 = A8 0 28 := hy12.2 _ _ hS8.1.1 (((n0_28 hS12)).trans ((n0_28 hS8)).symm)
        try rw [← ee14]
        have ee15 : A12 g1 0 = A8 g1 0 := hy12.2 _ _ hg9.1 (((nP_0 hS12 hg13)).trans ((nP_0 hS8 hg9)).symm)
        try rw [← ee15]
        refine ⟨fun hc => ?_, fun hc => ?_⟩
        · have h := h.1 hc
          exact qx_j hS12 hx12 h
        · have h := h.2 hc
          refine ⟨hS12.o (sP_0 hg13), ?_⟩
          rw [lP_0_15 hS12 hg13]
          refine ⟨hS12.o (sP_28 hg13), ?_⟩
          obtain ⟨hi16, h⟩ := h
          refine ⟨by first | (rw [(nP_28 hS12 hg13)]; exact hi16) | exact (congrArg (vp_in _) (nP_28 hS12 hg13)).mpr hi16 | exact hi16, ?_⟩
          exact qx_j hS12 hx12 h
      · have h := h.2 hc
        exact qx_j hS8 hx8 h
theorem w_X11_relax_0 {E : EE} {d : Nat} {V : VH} {K : Int32 → VH → Prop} {x1 : Int32}  (h0 : 0 < d) (h : vMP E (d - 1) M_X11_scored [sl 0 28, wi x1] V (fun g1 V1 => (vL V1 g1 = true → (g1 ≠ 0 ∧ g1 ≠ 6) ∧ (vMI E (d - 1) M_X1_cheapest [sl 0 10, sl g1 0] V1 (fun r4 V4 => K r4 V4))) ∧ (¬ vL V1 g1 = true → K (-1) V1))) : vMI E d M_X11_relax [sl 0 28, wi x1] V K := by
  intro G A hR
  obtain ⟨L, P, rfl, hS⟩ := hR
  have hx := Xt.refl (V := pl G A L P) (A := A)
  show wpM E d M_X11_relax [vr (A 0 28), vi x1] G _
  refine wpM_of mk_X11_relax (Nat.le_of_ble_eq_true rfl) ?_
  refine v_X11_relax_0 h0 ?_
  refine ⟨hS.o (s0_28 hS), ?_⟩
  refine wpM.mono (h G A ⟨L, P, rfl, hS⟩) (fun rr1 G1 hr => ?_)
  obtain ⟨A1, W1, w1, ⟨L1, P1, rfl, hS1⟩, hy1, rfl, g1, rfl, h⟩ := hr
  refine ⟨A1 g1 0, rfl, ?_⟩
  have hx1 := Xt.trans hx hy1
  have ee2 : A1 0 28 = A 0 28 := hy1.2 _ _ hS.1.1 (((n0_28 hS1)).trans ((n0_28 hS)).symm)
  try rw [← ee2]
  refine ⟨fun hc => ?_, fun hc => ?_⟩
  · have h := h.1 (hS1.lv0 hc)
    obtain ⟨hw, h⟩ := h
    have hg3 : PG L1 g1 := ⟨hS1.lv0 hc, hw⟩
    refine ⟨hS1.o (s0_28 hS1), ?_⟩
    rw [l0_28_4 hS1]
    refine ⟨hS1.o (s0_10 hS1), ?_⟩
    refine wpM.mono (h G1 A1 ⟨L1, P1, rfl, hS1⟩) (fun rr4 G4 hr => ?_)
    obtain ⟨A4, W4, w4, ⟨L4, P4, rfl, hS4⟩, hy4, rfl, r4, rfl, h⟩ := hr
    refine ⟨r4, rfl, ?_⟩
    have hx4 := Xt.trans hx1 hy4
    have hg5 : PG L4 g1 := PG.up hy4 hg3
    have ee6 : A4 0 28 = A1 0 28 := hy4.2 _ _ hS1.1.1 (((n0_28 hS4)).trans ((n0_28 hS1)).symm)
    try rw [← ee6]
    have ee7 : A4 g1 0 = A1 g1 0 := hy4.2 _ _ hg3.1 (((nP_0 hS4 hg5)).trans ((nP_0 hS1 hg3)).symm)
    try rw [← ee7]
    exact qx_i hS4 hx4 h
  · have h := h.2 ((hS1.null (nf_pos _)).mp hc)
    exact qx_i hS1 hx1 h
theorem w_X11_fewest_0 {E : EE} {d : Nat} {V : VH} {K : Int32 → VH → Prop} {x1 : Int32}  (h0 : 0 < d) (h : vMP E (d - 1) M_X11_scored [sl 0 28, wi x1] V (fun g1 V1 => (vL V1 g1 = true → (g1 ≠ 0 ∧ g1 ≠ 6) ∧ (vMI E (d - 1) M_X1_smallest [sl 0 10, sl g1 0] V1 (fun r4 V4 => K r4 V4))) ∧ (¬ vL V1 g1 = true → K (-1) V1))) : vMI E d M_X11_fewest [sl 0 28, wi x1] V K := by
  intro G A hR
  obtain ⟨L, P, rfl, hS⟩ := hR
  have hx := Xt.refl (V := pl G A L P) (A := A)
  show wpM E d M_X11_fewest [vr (A 0 28), vi x1] G _
  refine wpM_of mk_X11_fewest (Nat.le_of_ble_eq_true rfl) ?_
  refine v_X11_fewest_0 h0 ?_
  refine ⟨hS.o (s0_28 hS), ?_⟩
  refine wpM.mono (h G A ⟨L, P, rfl, hS⟩) (fun rr1 G1 hr => ?_)
  obtain ⟨A1, W1, w1, ⟨L1, P1, rfl, hS1⟩, hy1, rfl, g1, rfl, h⟩ := hr
  refine ⟨A1 g1 0, rfl, ?_⟩
  have hx1 := Xt.trans hx hy1
  have ee2 : A1 0 28 = A 0 28 := hy1.2 _ _ hS.1.1 (((n0_28 hS1)).trans ((n0_28 hS)).symm)
  try rw [← ee2]
  refine ⟨fun hc => ?_, fun hc => ?_⟩
  · have h := h.1 (hS1.lv0 hc)
    obtain ⟨hw, h⟩ := h
    have hg3 : PG L1 g1 := ⟨hS1.lv0 hc, hw⟩
    refine ⟨hS1.o (s0_28 hS1), ?_⟩
    rw [l0_28_4 hS1]
    refine ⟨hS1.o (s0_10 hS1), ?_⟩
    refine wpM.mono (h G1 A1 ⟨L1, P1, rfl, hS1⟩) (fun rr4 G4 hr => ?_)
    obtain ⟨A4, W4, w4, ⟨L4, P4, rfl, hS4⟩, hy4, rfl, r4, rfl, h⟩ := hr
    refine ⟨r4, rfl, ?_⟩
    have hx4 := Xt.trans hx1 hy4
    have hg5 : PG L4 g1 := PG.up hy4 hg3
    have ee6 : A4 0 28 = A1 0 28 := hy4.2 _ _ hS1.1.1 (((n0_28 hS4)).trans ((n0_28 hS1)).symm)
    try rw [← ee6]
    have ee7 : A4 g1 0 = A1 g1 0 := hy4.2 _ _ hg3.1 (((nP_0 hS4 hg5)).trans ((nP_0 hS1 hg3)).symm)
    try rw [← ee7]
    exact qx_i hS4 hx4 h
  · have h := h.2 ((hS1.null (nf_pos _)).mp hc)
    exact qx_i hS1 hx1 h
theorem w_X11_clash_0 {E : EE} {d : Nat} {V : VH} {K : Int32 → VH → Prop} {x1 : Int32}  (h0 : 0 < d) (h : vMP E (d - 1) M_X11_scored [sl 0 28, wi x1] V (fun g1 V1 => (vL V1 g1 = true → (g1 ≠ 0 ∧ g1 ≠ 6) ∧ (vMI E (d - 1) M_X1_narrowed [sl 0 10, sl g1 0] V1 (fun r4 V4 => K r4 V4))) ∧ (¬ vL V1 g1 = true → K (-1) V1))) : vMI E d M_X11_clash [sl 0 28, wi x1] V K := by
  intro G A hR
  obtain ⟨L, P, rfl, hS⟩ := hR
  have hx := Xt.refl (V := pl G A L P) (A := A)
  show wpM E d M_X11_clash [vr (A 0 28), vi x1] G _
  refine wpM_of mk_X11_clash (Nat.le_of_ble_eq_true rfl) ?_
  refine v_X11_clash_0 h0 ?_
  refine ⟨hS.o (s0_28 hS), ?_⟩
  refine wpM.mono (h G A ⟨L, P, rfl, hS⟩) (fun rr1 G1 hr => ?_)
  obtain ⟨A1, W1, w1, ⟨L1, P1, rfl, hS1⟩, hy1, rfl, g1, rfl, h⟩ := hr
  refine ⟨A1 g1 0, rfl, ?_⟩
  have hx1 := Xt.trans hx hy1
  have ee2 : A1 0 28 = A 0 28 := hy1.2 _ _ hS.1.1 (((n0_28 hS1)).trans ((n0_28 hS)).symm)
  try rw [← ee2]
  refine ⟨fun hc => ?_, fun hc => ?_⟩
  · have h := h.1 (hS1.lv0 hc)
    obtain ⟨hw, h⟩ := h
    have hg3 : PG L1 g1 := ⟨hS1.lv0 hc, hw⟩
    refine ⟨hS1.o (s0_28 hS1), ?_⟩
    rw [l0_28_4 hS1]
    refine ⟨hS1.o (s0_10 hS1), ?_⟩
    refine wpM.mono (h G1 A1 ⟨L1, P1, rfl, hS1⟩) (fun rr4 G4 hr => ?_)
    obtain ⟨A4, W4, w4, ⟨L4, P4, rfl, hS4⟩, hy4, rfl, r4, rfl, h⟩ := hr
    refine ⟨r4, rfl, ?_⟩
    have hx4 := Xt.trans hx1 hy4
    have hg5 : PG L4 g1 := PG.up hy4 hg3
    have ee6 : A4 0 28 = A1 0 28 := hy4.2 _ _ hS1.1.1 (((n0_28 hS4)).trans ((n0_28 hS1)).symm)
    try rw [← ee6]
    have ee7 : A4 g1 0 = A1 g1 0 := hy4.2 _ _ hg3.1 (((nP_0 hS4 hg5)).trans ((nP_0 hS1 hg3)).symm)
    try rw [← ee7]
    exact qx_i hS4 hx4 h
  · have h := h.2 ((hS1.null (nf_pos _)).mp hc)
    exact qx_i hS1 hx1 h
theorem w_X11_near_0 {E : EE} {d : Nat} {V : VH} {K : Int32 → VH → Prop} {x1 : Int32} {x2 : Int32}  (h0 : 0 < d) (h : vMP E (d - 1) M_X11_scored [sl 0 28, wi x1] V (fun g1 V1 => (¬ vL V1 g1 = true → K (-1) V1) ∧ (vL V1 g1 = true → (g1 ≠ 0 ∧ g1 ≠ 6) ∧ (vMI E (d - 1) M_X9_gatherFor [sl g1 19, sl g1 0, wi x2] V1 (fun r4 V4 => (¬ r4 = 0 → vp_in 0 (vN V4 g1 20) ∧ (vMI E (d - 1) M_X3_costTo [sl g1 0, wi (vI V4 g1 20 (Int32.toNatClampNeg 0))] V4 (fun r9 V9 => vwp E d M_X11_near 46 [some (sl 0 28), some (wi x1), some (wi x2), some (sl g1 0), some (wi (vI V4 g1 20 (Int32.toNatClampNeg 0))), some (wi r9), some (wi 1), none] [] V9 (zi K)))) ∧ (r4 = 0 → K (-1) V4)))))) : vMI E d M_X11_near [sl 0 28, wi x1, wi x2] V K := by
  intro G A hR
  obtain ⟨L, P, rfl, hS⟩ := hR
  have hx := Xt.refl (V := pl G A L P) (A := A)
  show wpM E d M_X11_near [vr (A 0 28), vi x1, vi x2] G _
  refine wpM_of mk_X11_near (Nat.le_of_ble_eq_true rfl) ?_
  refine v_X11_near_0 h0 ?_
  refine ⟨hS.o (s0_28 hS), ?_⟩
  refine wpM.mono (h G A ⟨L, P, rfl, hS⟩) (fun rr1 G1 hr => ?_)
  obtain ⟨A1, W1, w1, ⟨L1, P1, rfl, hS1⟩, hy1, rfl, g1, rfl, h⟩ := hr
  refine ⟨A1 g1 0, rfl, ?_⟩
  have hx1 := Xt.trans hx hy1
  have ee2 : A1 0 28 = A 0 28 := hy1.2 _ _ hS.1.1 (((n0_28 hS1)).trans ((n0_28 hS)).symm)
  try rw [← ee2]
  refine ⟨fun hc => ?_, fun hc => ?_⟩
  · have h := h.1 ((hS1.null (nf_pos _)).mp hc)
    exact qx_i hS1 hx1 h
  · have h := h.2 (hS1.lv0 hc)
    obtain ⟨hw, h⟩ := h
    have hg3 : PG L1 g1 := ⟨hS1.lv0 hc, hw⟩
    refine ⟨hS1.o (sP_0 hg3), ?_⟩
    rw [lP_0_6 hS1 hg3]
    refine ⟨hS1.o (sP_19 hg3), ?_⟩
    refine wpM.mono (h G1 A1 ⟨L1, P1, rfl, hS1⟩) (fun rr4 G4 hr => ?_)
    obtain ⟨A4, W4, w4, ⟨L4, P4, rfl, hS4⟩, hy4, rfl, r4, rfl, h⟩ := hr
    refine ⟨r4, rfl, ?_⟩
    have hx4 := Xt.trans hx1 hy4
    have hg5 : PG L4 g1 := PG.up hy4 hg3
    have ee6 : A4 0 28 = A1 0 28 := hy4.2 _ _ hS1.1.1 (((n0_28 hS4)).trans ((n0_28 hS1)).symm)
    try rw [← ee6]
    have ee7 : A4 g1 0 = A1 g1 0 := hy4.2 _ _ hg3.1 (((nP_0 hS4 hg5)).trans ((nP_0 hS1 hg3)).symm)
    try rw [← ee7]
    refine ⟨fun hc => ?_, fun hc => ?_⟩
    · have h := h.1 hc
      refine ⟨hS4.o (sP_0 hg5), ?_⟩
      rw [lP_0_6 hS4 hg5]
      refine ⟨hS4.o (sP_19 hg5), ?_⟩
      rw [lP_19_2 hS4 hg5]
      refine ⟨hS4.o (sP_20 hg5), ?_⟩
      obtain ⟨hi8, h⟩ := h
      refine ⟨hi8, ?_⟩
      refine wpM.mono (h G4 A4 ⟨L4, P4, rfl, hS4⟩) (fun rr9 G9 hr => ?_)
      obtain ⟨A9, W9, w9, ⟨L9, P9, rfl, hS9⟩, hy9, rfl, r9, rfl, h⟩ := hr
      refine ⟨r9, rfl, ?_⟩
      have hx9 := Xt.trans hx4 hy9
      have hg10 : PG L9 g1 := PG.up hy9 hg5
      have ee11 : A9 0 28 = A4 0 28 := hy9.2 _ _ hS4.1.1 (((n0_28 hS9)).trans ((n0_28 hS4)).symm)
      try rw [← ee11]
      have ee12 : A9 g1 0 = A4 g1 0 := hy9.2 _ _ hg5.1 (((nP_0 hS9 hg10)).trans ((nP_0 hS4 hg5)).symm)
      try rw [← ee12]
      exact wp.mono (h G9 A9 ⟨L9, P9, rfl, hS9⟩) (fun r G' q => qx_trans hx9 q)
    · have h := h.2 hc
      exact qx_i hS4 hx4 h
theorem w_X11_frontPlan_0 {E : EE} {d : Nat} {V : VH} {K : Int32 → VH → Prop} {x1 : Int32} {x2 : Int32}  (h0 : 0 < d) (h : vMP E (d - 1) M_X11_scored [sl 0 28, wi x1] V (fun g1 V1 => (¬ vL V1 g1 = true → K 0 V1) ∧ (vL V1 g1 = true → (g1 ≠ 0 ∧ g1 ≠ 6) ∧ ((x2 < 0 → K 0 V1) ∧ (¬ (x2 < 0) → vMI E (d - 1) M_X9_walkFront [sl g1 19, sl g1 0, wi x2] V1 (fun r4 V4 => (r4 ≤ x2 → K 0 V4) ∧ (¬ (r4 ≤ x2) → vMI E (d - 1) M_X3_moveTo [sl g1 0, wi (vI V4 g1 19 4)] V4 (fun r8 V8 => (r8 = 0 → K 0 V8) ∧ (¬ (r8 = 0) → K 1 V8))))))))) : vMI E d M_X11_frontPlan [sl 0 28, wi x1, wi x2] V K := by
  intro G A hR
  obtain ⟨L, P, rfl, hS⟩ := hR
  have hx := Xt.refl (V := pl G A L P) (A := A)
  show wpM E d M_X11_frontPlan [vr (A 0 28), vi x1, vi x2] G _
  refine wpM_of mk_X11_frontPlan (Nat.le_of_ble_eq_true rfl) ?_
  refine v_X11_frontPlan_0 h0 ?_
  refine ⟨hS.o (s0_28 hS), ?_⟩
  refine wpM.mono (h G A ⟨L, P, rfl, hS⟩) (fun rr1 G1 hr => ?_)
  obtain ⟨A1, W1, w1, ⟨L1, P1, rfl, hS1⟩, hy1, rfl, g1, rfl, h⟩ := hr
  refine ⟨A1 g1 0, rfl, ?_⟩
  have hx1 := Xt.trans hx hy1
  have ee2 : A1 0 28 = A 0 28 := hy1.2 _ _ hS.1.1 (((n0_28 hS1)).trans ((n0_28 hS)).symm)
  try rw [← ee2]
  refine ⟨fun hc => ?_, fun hc => ?_⟩
  · have h := h.1 ((hS1.null (nf_pos _)).mp hc)
    exact qx_i hS1 hx1 h
  · have h := h.2 (hS1.lv0 hc)
    obtain ⟨hw, h⟩ := h
    have hg3 : PG L1 g1 := ⟨hS1.lv0 hc, hw⟩
    refine ⟨fun hc => ?_, fun hc => ?_⟩
    · have h := h.1 hc
      exact qx_i hS1 hx1 h
    · have h := h.2 hc
      refine ⟨hS1.o (sP_0 hg3), ?_⟩
      rw [lP_0_6 hS1 hg3]
      refine ⟨hS1.o (sP_19 hg3), ?_⟩
      refine wpM.mono (h G1 A1 ⟨L1, P1, rfl, hS1⟩) (fun rr4 G4 hr => ?_)
      obtain ⟨A4, W4, w4, ⟨L4, P4, rfl, hS4⟩, hy4, rfl, r4, rfl, h⟩ := hr
      refine ⟨r4, rfl, ?_⟩
      have hx4 := Xt.trans hx1 hy4
      have hg5 : PG L4 g1 := PG.up hy4 hg3
      have ee6 : A4 0 28 = A1 0 28 := hy4.2 _ _ hS1.1.1 (((n0_28 hS4)).trans ((n0_28 hS1)).symm)
      try rw [← ee6]
      have ee7 : A4 g1 0 = A1 g1 0 := hy4.2 _ _ hg3.1 (((nP_0 hS4 hg5)).trans ((nP_0 hS1 hg3)).symm)
      try rw [← ee7]
      refine ⟨fun hc => ?_, fun hc => ?_⟩
      · have h := h.1 hc
        exact qx_i hS4 hx4 h
      · have h := h.2 hc
        refine ⟨hS4.o (sP_0 hg5), ?_⟩
        rw [lP_0_6 hS4 hg5]
        refine ⟨hS4.o (sP_19 hg5), ?_⟩
        refine wpM.mono (h G4 A4 ⟨L4, P4, rfl, hS4⟩) (fun rr8 G8 hr => ?_)
        obtain ⟨A8, W8, w8, ⟨L8, P8, rfl, hS8⟩, hy8, rfl, r8, rfl, h⟩ := hr
        refine ⟨r8, rfl, ?_⟩
        have hx8 := Xt.trans hx4 hy8
        have hg9 : PG L8 g1 := PG.up hy8 hg5
        have ee10 : A8 0 28 = A4 0 28 := hy8.2 _ _ hS4.1.1 (((n0_28 hS8)).trans ((n0_28 hS4)).symm)
        try rw [← ee10]
        have ee11 : A8 g1 0 = A4 g1 0 := hy8.2 _ _ hg5.1 (((nP_0 hS8 hg9)).trans ((nP_0 hS4 hg5)).symm)
        try rw [← ee11]
        refine ⟨fun hc => ?_, fun hc => ?_⟩
        · have h := h.1 hc
          exact qx_i hS8 hx8 h
        · have h := h.2 hc
          exact qx_i hS8 hx8 h
theorem w_X11_frontAt_0 {E : EE} {d : Nat} {V : VH} {K : Int64 → VH → Prop} {x1 : Int32} {x2 : Int32} {x3 : Int32}  (h0 : 0 < d) (h : vMP E (d - 1) M_X11_scored [sl 0 28, wi x1] V (fun g1 V1 => (¬ vL V1 g1 = true → K (-9223372036854775808) V1) ∧ (vL V1 g1 = true → (g1 ≠ 0 ∧ g1 ≠ 6) ∧ ((x2 < 0 → K (-9223372036854775808) V1) ∧ (¬ (x2 < 0) → vMI E (d - 1) M_X11_isLevel [wi x3] V1 (fun r4 V4 => (r4 = 0 → K (-9223372036854775808) V4) ∧ (¬ (r4 = 0) → vMI E (d - 1) M_X9_walkFront [sl g1 19, sl g1 0, wi x2] V4 (fun r8 V8 => (x2 < r8 → (¬ x3 = 0 → vMJ E (d - 1) M_X9_scoreOf [sl g1 19, wi (vI V8 g1 19 4), wi x3] V8 (fun r12 V12 => K r12 V12)) ∧ (x3 = 0 → K (Int32.toInt64 (vI V8 g1 19 5)) V8)) ∧ (¬ (x2 < r8) → K (-9223372036854775808) V8))))))))) : vMJ E d M_X11_frontAt [sl 0 28, wi x1, wi x2, wi x3] V K := by
  intro G A hR
  obtain ⟨L, P, rfl, hS⟩ := hR
  have hx := Xt.refl (V := pl G A L P) (A := A)
  show wpM E d M_X11_frontAt [vr (A 0 28), vi x1, vi x2, vi x3] G _
  refine wpM_of mk_X11_frontAt (Nat.le_of_ble_eq_true rfl) ?_
  refine v_X11_frontAt_0 h0 ?_
  refine ⟨hS.o (s0_28 hS), ?_⟩
  refine wpM.mono (h G A ⟨L, P, rfl, hS⟩) (fun rr1 G1 hr => ?_)
  obtain ⟨A1, W1, w1, ⟨L1, P1, rfl, hS1⟩, hy1, rfl, g1, rfl, h⟩ := hr
  refine ⟨A1 g1 0, rfl, ?_⟩
  have hx1 := Xt.trans hx hy1
  have ee2 : A1 0 28 = A 0 28 := hy1.2 _ _ hS.1.1 (((n0_28 hS1)).trans ((n0_28 hS)).symm)
  try rw [← ee2]
  refine ⟨fun hc => ?_, fun hc => ?_⟩
  · have h := h.1 ((hS1.null (nf_pos _)).mp hc)
    exact qx_j hS1 hx1 h
  · have h := h.2 (hS1.lv0 hc)
    obtain ⟨hw, h⟩ := h
    have hg3 : PG L1 g1 := ⟨hS1.lv0 hc, hw⟩
    refine ⟨fun hc => ?_, fun hc => ?_⟩
    · have h := h.1 hc
      exact qx_j hS1 hx1 h
    · have h := h.2 hc
      refine wpM.mono (h G1 A1 ⟨L1, P1, rfl, hS1⟩) (fun rr4 G4 hr => ?_)
      obtain ⟨A4, W4, w4, ⟨L4, P4, rfl, hS4⟩, hy4, rfl, r4, rfl, h⟩ := hr
      refine ⟨r4, rfl, ?_⟩
      have hx4 := Xt.trans hx1 hy4
      have hg5 : PG L4 g1 := PG.up hy4 hg3
      have ee6 : A4 0 28 = A1 0 28 := hy4.2 _ _ hS1.1.1 (((n0_28 hS4)).trans ((n0_28 hS1)).symm)
      try rw [← ee6]
      have ee7 : A4 g1 0 = A1 g1 0 := hy4.2 _ _ hg3.1 (((nP_0 hS4 hg5)).trans ((nP_0 hS1 hg3)).symm)
      try rw [← ee7]
      refine ⟨fun hc => ?_, fun hc => ?_⟩
      · have h := h.1 hc
        exact qx_j hS4 hx4 h
      · have h := h.2 hc
        refine ⟨hS4.o (sP_0 hg5), ?_⟩
        rw [lP_0_6 hS4 hg5]
        refine ⟨hS4.o (sP_19 hg5), ?_⟩
        refine wpM.mono (h G4 A4 ⟨L4, P4, rfl, hS4⟩) (fun rr8 G8 hr => ?_)
        obtain ⟨A8, W8, w8, ⟨L8, P8, rfl, hS8⟩, hy8, rfl, r8, rfl, h⟩ := hr
        refine ⟨r8, rfl, ?_⟩
        have hx8 := Xt.trans hx4 hy8
        have hg9 : PG L8 g1 := PG.up hy8 hg5
        have ee10 : A8 0 28 = A4 0 28 := hy8.2 _ _ hS4.1.1 (((n0_28 hS8)).trans ((n0_28 hS4)).symm)
        try rw [← ee10]
        have ee11 : A8 g1 0 = A4 g1 0 := hy8.2 _ _ hg5.1 (((nP_0 hS8 hg9)).trans ((nP_0 hS4 hg5)).symm)
        try rw [← ee11]
        refine ⟨fun hc => ?_, fun hc => ?_⟩
        · have h := h.1 hc
          refine ⟨fun hc => ?_, fun hc => ?_⟩
          · have h := h.1 hc
            refine ⟨hS8.o (sP_0 hg9), ?_⟩
            rw [lP_0_6 hS8 hg9]
            refine ⟨hS8.o (sP_19 hg9), ?_⟩
            refine wpM.mono (h G8 A8 ⟨L8, P8, rfl, hS8⟩) (fun rr12 G12 hr => ?_)
            obtain ⟨A12, W12, w12, ⟨L12, P12, rfl, hS12⟩, hy12, rfl, r12, rfl, h⟩ := hr
            refine ⟨r12, rfl, ?_⟩
            have hx12 := Xt.trans hx8 hy12
            have hg13 : PG L12 g1 := PG.up hy12 hg9
            have ee14 : A12 0 28 = A8 0 28 := hy12.2 _ _ hS8.1.1 (((n0_28 hS12)).trans ((n0_28 hS8)).symm)
            try rw [← ee14]
            have ee15 : A12 g1 0 = A8 g1 0 := hy12.2 _ _ hg9.1 (((nP_0 hS12 hg13)).trans ((nP_0 hS8 hg9)).symm)
            try rw [← ee15]
            exact qx_j hS12 hx12 h
          · have h := h.2 hc
            refine ⟨hS8.o (sP_0 hg9), ?_⟩
            rw [lP_0_6 hS8 hg9]
            refine ⟨hS8.o (sP_19 hg9), ?_⟩
            exact qx_j hS8 hx8 h
        · have h := h.2 hc
          exact qx_j hS8 hx8 h
theorem w_X11_front_0 {E : EE} {d : Nat} {V : VH} {K : Int32 → VH → Prop} {x1 : Int32}  (h0 : 0 < d) (h : vMP E (d - 1) M_X11_scored [sl 0 28, wi x1] V (fun g1 V1 => (vL V1 g1 = true → (g1 ≠ 0 ∧ g1 ≠ 6) ∧ (vMI E (d - 1) M_X9_walkFront [sl g1 19, sl g1 0, wi (-1)] V1 (fun r4 V4 => K r4 V4))) ∧ (¬ vL V1 g1 = true → K (-1) V1))) : vMI E d M_X11_front [sl 0 28, wi x1] V K := by
  intro G A hR
  obtain ⟨L, P, rfl, hS⟩ := hR
  have hx := Xt.refl (V := pl G A L P) (A := A)
  show wpM E d M_X11_front [vr (A 0 28), vi x1] G _
  refine wpM_of mk_X11_front (Nat.le_of_ble_eq_true rfl) ?_
  refine v_X11_front_0 h0 ?_
  refine ⟨hS.o (s0_28 hS), ?_⟩
  refine wpM.mono (h G A ⟨L, P, rfl, hS⟩) (fun rr1 G1 hr => ?_)
  obtain ⟨A1, W1, w1, ⟨L1, P1, rfl, hS1⟩, hy1, rfl, g1, rfl, h⟩ := hr
  refine ⟨A1 g1 0, rfl, ?_⟩
  have hx1 := Xt.trans hx hy1
  have ee2 : A1 0 28 = A 0 28 := hy1.2 _ _ hS.1.1 (((n0_28 hS1)).trans ((n0_28 hS)).symm)
  try rw [← ee2]
  refine ⟨fun hc => ?_, fun hc => ?_⟩
  · have h := h.1 (hS1.lv0 hc)
    obtain ⟨hw, h⟩ := h
    have hg3 : PG L1 g1 := ⟨hS1.lv0 hc, hw⟩
    refine ⟨hS1.o (sP_0 hg3), ?_⟩
    rw [lP_0_6 hS1 hg3]
    refine ⟨hS1.o (sP_19 hg3), ?_⟩
    refine wpM.mono (h G1 A1 ⟨L1, P1, rfl, hS1⟩) (fun rr4 G4 hr => ?_)
    obtain ⟨A4, W4, w4, ⟨L4, P4, rfl, hS4⟩, hy4, rfl, r4, rfl, h⟩ := hr
    refine ⟨r4, rfl, ?_⟩
    have hx4 := Xt.trans hx1 hy4
    have hg5 : PG L4 g1 := PG.up hy4 hg3
    have ee6 : A4 0 28 = A1 0 28 := hy4.2 _ _ hS1.1.1 (((n0_28 hS4)).trans ((n0_28 hS1)).symm)
    try rw [← ee6]
    have ee7 : A4 g1 0 = A1 g1 0 := hy4.2 _ _ hg3.1 (((nP_0 hS4 hg5)).trans ((nP_0 hS1 hg3)).symm)
    try rw [← ee7]
    exact qx_i hS4 hx4 h
  · have h := h.2 ((hS1.null (nf_pos _)).mp hc)
    exact qx_i hS1 hx1 h
theorem w_X11_mend_0 {E : EE} {d : Nat} {V : VH} {K : Int32 → VH → Prop} {x1 : Int32} {x2 : Int32}  (h0 : 0 < d) (h : vMP E (d - 1) M_X11_scored [sl 0 28, wi x1] V (fun g1 V1 => (vL V1 g1 = true → (g1 ≠ 0 ∧ g1 ≠ 6) ∧ (vMI E (d - 1) M_X9_gather [sl g1 19, sl g1 0, wi (x2 ^^^ (-1))] V1 (fun r4 V4 => vMI E (d - 1) M_X9_keepBest [sl g1 19] V4 (fun r8 V8 => (r8 ≤ 0 → K 0 V8) ∧ (¬ (r8 ≤ 0) → vp_in 0 (vN V8 g1 20) ∧ (vMI E (d - 1) M_X3_moveTo [sl g1 0, wi (vI V8 g1 20 (Int32.toNatClampNeg 0))] V8 (fun r13 V13 => (r13 = 0 → K 0 V13) ∧ (¬ (r13 = 0) → K 1 V13)))))))) ∧ (¬ vL V1 g1 = true → K (-1) V1))) : vMI E d M_X11_mend [sl 0 28, wi x1, wi x2] V K := by
  intro G A hR
  obtain ⟨L, P, rfl, hS⟩ := hR
  have hx := Xt.refl (V := pl G A L P) (A := A)
  show wpM E d M_X11_mend [vr (A 0 28), vi x1, vi x2] G _
  refine wpM_of mk_X11_mend (Nat.le_of_ble_eq_true rfl) ?_
  refine v_X11_mend_0 h0 ?_
  refine ⟨hS.o (s0_28 hS), ?_⟩
  refine wpM.mono (h G A ⟨L, P, rfl, hS⟩) (fun rr1 G1 hr => ?_)
  obtain ⟨A1, W1, w1, ⟨L1, P1, rfl, hS1⟩, hy1, rfl, g1, rfl, h⟩ := hr
  refine ⟨A1 g1 0, rfl, ?_⟩
  have hx1 := Xt.trans hx hy1
  have ee2 : A1 0 28 = A 0 28 := hy1.2 _ _ hS.1.1 (((n0_28 hS1)).trans ((n0_28 hS)).symm)
  try rw [← ee2]
  refine ⟨fun hc => ?_, fun hc => ?_⟩
  · have h := h.1 (hS1.lv0 hc)
    obtain ⟨hw, h⟩ := h
    have hg3 : PG L1 g1 := ⟨hS1.lv0 hc, hw⟩
    refine ⟨hS1.o (sP_0 hg3), ?_⟩
    rw [lP_0_6 hS1 hg3]
    refine ⟨hS1.o (sP_19 hg3), ?_⟩
    refine wpM.mono (h G1 A1 ⟨L1, P1, rfl, hS1⟩) (fun rr4 G4 hr => ?_)
    obtain ⟨A4, W4, w4, ⟨L4, P4, rfl, hS4⟩, hy4, rfl, r4, rfl, h⟩ := hr
    refine ⟨r4, rfl, ?_⟩
    have hx4 := Xt.trans hx1 hy4
    have hg5 : PG L4 g1 := PG.up hy4 hg3
    have ee6 : A4 0 28 = A1 0 28 := hy4.2 _ _ hS1.1.1 (((n0_28 hS4)).trans ((n0_28 hS1)).symm)
    try rw [← ee6]
    have ee7 : A4 g1 0 = A1 g1 0 := hy4.2 _ _ hg3.1 (((nP_0 hS4 hg5)).trans ((nP_0 hS1 hg3)).symm)
    try rw [← ee7]
    refine ⟨hS4.o (sP_0 hg5), ?_⟩
    rw [lP_0_6 hS4 hg5]
    refine ⟨hS4.o (sP_19 hg5), ?_⟩
    refine wpM.mono (h G4 A4 ⟨L4, P4, rfl, hS4⟩) (fun rr8 G8 hr => ?_)
    obtain ⟨A8, W8, w8, ⟨L8, P8, rfl, hS8⟩, hy8, rfl, r8, rfl, h⟩ := hr
    refine ⟨r8, rfl, ?_⟩
    have hx8 := Xt.trans hx4 hy8
    have hg9 : PG L8 g1 := PG.up hy8 hg5
    have ee10 : A8 0 28 = A4 0 28 := hy8.2 _ _ hS4.1.1 (((n0_28 hS8)).trans ((n0_28 hS4)).symm)
    try rw [← ee10]
    have ee11 : A8 g1 0 = A4 g1 0 := hy8.2 _ _ hg5.1 (((nP_0 hS8 hg9)).trans ((nP_0 hS4 hg5)).symm)
    try rw [← ee11]
    refine ⟨fun hc => ?_, fun hc => ?_⟩
    · have h := h.1 hc
      exact qx_i hS8 hx8 h
    · have h := h.2 hc
      refine ⟨hS8.o (sP_0 hg9), ?_⟩
      rw [lP_0_6 hS8 hg9]
      refine ⟨hS8.o (sP_19 hg9), ?_⟩
      rw [lP_19_2 hS8 hg9]
      refine ⟨hS8.o (sP_20 hg9), ?_⟩
      obtain ⟨hi12, h⟩ := h
      refine ⟨hi12, ?_⟩
      refine wpM.mono (h G8 A8 ⟨L8, P8, rfl, hS8⟩) (fun rr13 G13 hr => ?_)
      obtain ⟨A13, W13, w13, ⟨L13, P13, rfl, hS13⟩, hy13, rfl, r13, rfl, h⟩ := hr
      refine ⟨r13, rfl, ?_⟩
      have hx13 := Xt.trans hx8 hy13
      have hg14 : PG L13 g1 := PG.up hy13 hg9
      have ee15 : A13 0 28 = A8 0 28 := hy13.2 _ _ hS8.1.1 (((n0_28 hS13)).trans ((n0_28 hS8)).symm)
      try rw [← ee15]
      have ee16 : A13 g1 0 = A8 g1 0 := hy13.2 _ _ hg9.1 (((nP_0 hS13 hg14)).trans ((nP_0 hS8 hg9)).symm)
      try rw [← ee16]
      refine ⟨fun hc => ?_, fun hc => ?_⟩
      · have h := h.1 hc
        exact qx_i hS13 hx13 h
      · have h := h.2 hc
        exact qx_i hS13 hx13 h
  · have h := h.2 ((hS1.null (nf_pos _)).mp hc)
    exact qx_i hS1 hx1 h
theorem w_X11_choices_0 {E : EE} {d : Nat} {V : VH} {K : Int32 → VH → Prop} {x1 : Int32} {x2 : Int32}  (h0 : 0 < d) (h : vMP E (d - 1) M_X11_scored [sl 0 28, wi x1] V (fun g1 V1 => (¬ vL V1 g1 = true → K (-1) V1) ∧ (vL V1 g1 = true → (g1 ≠ 0 ∧ g1 ≠ 6) ∧ (vMI E (d - 1) M_X7_isVar [sl g1 5, wi x2] V1 (fun r4 V4 => (¬ r4 = 0 → vMI E (d - 1) M_X9_gatherFor [sl g1 19, sl g1 0, wi 1] V4 (fun r8 V8 => vMI E (d - 1) M_X9_differentValues [sl g1 19, sl g1 5, wi x2] V8 (fun r12 V12 => K r12 V12))) ∧ (r4 = 0 → K (-1) V4)))))) : vMI E d M_X11_choices [sl 0 28, wi x1, wi x2] V K := by
  intro G A hR
  obtain ⟨L, P, rfl, hS⟩ := hR
  have hx := Xt.refl (V := pl G A L P) (A := A)
  show wpM E d M_X11_choices [vr (A 0 28), vi x1, vi x2] G _
  refine wpM_of mk_X11_choices (Nat.le_of_ble_eq_true rfl) ?_
  refine v_X11_choices_0 h0 ?_
  refine ⟨hS.o (s0_28 hS), ?_⟩
  refine wpM.mono (h G A ⟨L, P, rfl, hS⟩) (fun rr1 G1 hr => ?_)
  obtain ⟨A1, W1, w1, ⟨L1, P1, rfl, hS1⟩, hy1, rfl, g1, rfl, h⟩ := hr
  refine ⟨A1 g1 0, rfl, ?_⟩
  have hx1 := Xt.trans hx hy1
  have ee2 : A1 0 28 = A 0 28 := hy1.2 _ _ hS.1.1 (((n0_28 hS1)).trans ((n0_28 hS)).symm)
  try rw [← ee2]
  refine ⟨fun hc => ?_, fun hc => ?_⟩
  · have h := h.1 ((hS1.null (nf_pos _)).mp hc)
    exact qx_i hS1 hx1 h
  · have h := h.2 (hS1.lv0 hc)
    obtain ⟨hw, h⟩ := h
    have hg3 : PG L1 g1 := ⟨hS1.lv0 hc, hw⟩
    refine ⟨hS1.o (sP_0 hg3), ?_⟩
    rw [lP_0_4 hS1 hg3]
    refine ⟨hS1.o (sP_5 hg3), ?_⟩
    refine wpM.mono (h G1 A1 ⟨L1, P1, rfl, hS1⟩) (fun rr4 G4 hr => ?_)
    obtain ⟨A4, W4, w4, ⟨L4, P4, rfl, hS4⟩, hy4, rfl, r4, rfl, h⟩ := hr
    refine ⟨r4, rfl, ?_⟩
    have hx4 := Xt.trans hx1 hy4
    have hg5 : PG L4 g1 := PG.up hy4 hg3
    have ee6 : A4 0 28 = A1 0 28 := hy4.2 _ _ hS1.1.1 (((n0_28 hS4)).trans ((n0_28 hS1)).symm)
    try rw [← ee6]
    have ee7 : A4 g1 0 = A1 g1 0 := hy4.2 _ _ hg3.1 (((nP_0 hS4 hg5)).trans ((nP_0 hS1 hg3)).symm)
    try rw [← ee7]
    refine ⟨fun hc => ?_, fun hc => ?_⟩
    · have h := h.1 hc
      refine ⟨hS4.o (sP_0 hg5), ?_⟩
      rw [lP_0_6 hS4 hg5]
      refine ⟨hS4.o (sP_19 hg5), ?_⟩
      refine wpM.mono (h G4 A4 ⟨L4, P4, rfl, hS4⟩) (fun rr8 G8 hr => ?_)
      obtain ⟨A8, W8, w8, ⟨L8, P8, rfl, hS8⟩, hy8, rfl, r8, rfl, h⟩ := hr
      refine ⟨r8, rfl, ?_⟩
      have hx8 := Xt.trans hx4 hy8
      have hg9 : PG L8 g1 := PG.up hy8 hg5
      have ee10 : A8 0 28 = A4 0 28 := hy8.2 _ _ hS4.1.1 (((n0_28 hS8)).trans ((n0_28 hS4)).symm)
      try rw [← ee10]
      have ee11 : A8 g1 0 = A4 g1 0 := hy8.2 _ _ hg5.1 (((nP_0 hS8 hg9)).trans ((nP_0 hS4 hg5)).symm)
      try rw [← ee11]
      refine ⟨hS8.o (sP_0 hg9), ?_⟩
      rw [lP_0_6 hS8 hg9]
      rw [lP_0_4 hS8 hg9]
      refine ⟨hS8.o (sP_19 hg9), ?_⟩
      refine wpM.mono (h G8 A8 ⟨L8, P8, rfl, hS8⟩) (fun rr12 G12 hr => ?_)
      obtain ⟨A12, W12, w12, ⟨L12, P12, rfl, hS12⟩, hy12, rfl, r12, rfl, h⟩ := hr
      refine ⟨r12, rfl, ?_⟩
      have hx12 := Xt.trans hx8 hy12
      have hg13 : PG L12 g1 := PG.up hy12 hg9
      have ee14 : A12 0 28 = A8 0 28 := hy12.2 _ _ hS8.1.1 (((n0_28 hS12)).trans ((n0_28 hS8)).symm)
      try rw [← ee14]
      have ee15 : A12 g1 0 = A8 g1 0 := hy12.2 _ _ hg9.1 (((nP_0 hS12 hg13)).trans ((nP_0 hS8 hg9)).symm)
      try rw [← ee15]
      exact qx_i hS12 hx12 h
    · have h := h.2 hc
      exact qx_i hS4 hx4 h
theorem w_X11_has_0 {E : EE} {d : Nat} {V : VH} {K : Int32 → VH → Prop} {x1 : Int32} {x2 : Int32} {x3 : Int32} {x4 : Int32}  (h0 : 0 < d) (h : vMP E (d - 1) M_X11_scored [sl 0 28, wi x1] V (fun g1 V1 => (¬ vL V1 g1 = true → K (-1) V1) ∧ (vL V1 g1 = true → (g1 ≠ 0 ∧ g1 ≠ 6) ∧ (vMI E (d - 1) M_X7_isVar [sl g1 5, wi x2] V1 (fun r4 V4 => (¬ r4 = 0 → vMI E (d - 1) M_X9_gatherFor [sl g1 19, sl g1 0, wi x4] V4 (fun r8 V8 => vMI E (d - 1) M_X7_placeOfValue [sl g1 5, wi x2, wi x3] V8 (fun r12 V12 => vMI E (d - 1) M_X9_keepValue [sl g1 19, sl g1 5, wi x2, wi r12] V12 (fun r18 V18 => vMV E (d - 1) M_X11_show [sl 0 28, wj (Int32.toInt64 r18), wj (Int32.toInt64 r8)] V18 (fun V22 => K r18 V22))))) ∧ (r4 = 0 → K (-1) V4)))))) : vMI E d M_X11_has [sl 0 28, wi x1, wi x2, wi x3, wi x4] V K := by
  intro G A hR
  obtain ⟨L, P, rfl, hS⟩ := hR
  have hx := Xt.refl (V := pl G A L P) (A := A)
  show wpM E d M_X11_has [vr (A 0 28), vi x1, vi x2, vi x3, vi x4] G _
  refine wpM_of mk_X11_has (Nat.le_of_ble_eq_true rfl) ?_
  refine v_X11_has_0 h0 ?_
  refine ⟨hS.o (s0_28 hS), ?_⟩
  refine wpM.mono (h G A ⟨L, P, rfl, hS⟩) (fun rr1 G1 hr => ?_)
  obtain ⟨A1, W1, w1, ⟨L1, P1, rfl, hS1⟩, hy1, rfl, g1, rfl, h⟩ := hr
  refine ⟨A1 g1 0, rfl, ?_⟩
  have hx1 := Xt.trans hx hy1
  have ee2 : A1 0 28 = A 0 28 := hy1.2 _ _ hS.1.1 (((n0_28 hS1)).trans ((n0_28 hS)).symm)
  try rw [← ee2]
  refine ⟨fun hc => ?_, fun hc => ?_⟩
  · have h := h.1 ((hS1.null (nf_pos _)).mp hc)
    exact qx_i hS1 hx1 h
  · have h := h.2 (hS1.lv0 hc)
    obtain ⟨hw, h⟩ := h
    have hg3 : PG L1 g1 := ⟨hS1.lv0 hc, hw⟩
    refine ⟨hS1.o (sP_0 hg3), ?_⟩
    rw [lP_0_4 hS1 hg3]
    refine ⟨hS1.o (sP_5 hg3), ?_⟩
    refine wpM.mono (h G1 A1 ⟨L1, P1, rfl, hS1⟩) (fun rr4 G4 hr => ?_)
    obtain ⟨A4, W4, w4, ⟨L4, P4, rfl, hS4⟩, hy4, rfl, r4, rfl, h⟩ := hr
    refine ⟨r4, rfl, ?_⟩
    have hx4 := Xt.trans hx1 hy4
    have hg5 : PG L4 g1 := PG.up hy4 hg3
    have ee6 : A4 0 28 = A1 0 28 := hy4.2 _ _ hS1.1.1 (((n0_28 hS4)).trans ((n0_28 hS1)).symm)
    try rw [← ee6]
    have ee7 : A4 g1 0 = A1 g1 0 := hy4.2 _ _ hg3.1 (((nP_0 hS4 hg5)).trans ((nP_0 hS1 hg3)).symm)
    try rw [← ee7]
    refine ⟨fun hc => ?_, fun hc => ?_⟩
    · have h := h.1 hc
      refine ⟨hS4.o (sP_0 hg5), ?_⟩
      rw [lP_0_6 hS4 hg5]
      refine ⟨hS4.o (sP_19 hg5), ?_⟩
      refine wpM.mono (h G4 A4 ⟨L4, P4, rfl, hS4⟩) (fun rr8 G8 hr => ?_)
      obtain ⟨A8, W8, w8, ⟨L8, P8, rfl, hS8⟩, hy8, rfl, r8, rfl, h⟩ := hr
      refine ⟨r8, rfl, ?_⟩
      have hx8 := Xt.trans hx4 hy8
      have hg9 : PG L8 g1 := PG.up hy8 hg5
      have ee10 : A8 0 28 = A4 0 28 := hy8.2 _ _ hS4.1.1 (((n0_28 hS8)).trans ((n0_28 hS4)).symm)
      try rw [← ee10]
      have ee11 : A8 g1 0 = A4 g1 0 := hy8.2 _ _ hg5.1 (((nP_0 hS8 hg9)).trans ((nP_0 hS4 hg5)).symm)
      try rw [← ee11]
      refine ⟨hS8.o (sP_0 hg9), ?_⟩
      rw [lP_0_6 hS8 hg9]
      rw [lP_0_4 hS8 hg9]
      refine ⟨hS8.o (sP_5 hg9), ?_⟩
      refine wpM.mono (h G8 A8 ⟨L8, P8, rfl, hS8⟩) (fun rr12 G12 hr => ?_)
      obtain ⟨A12, W12, w12, ⟨L12, P12, rfl, hS12⟩, hy12, rfl, r12, rfl, h⟩ := hr
      refine ⟨r12, rfl, ?_⟩
      have hx12 := Xt.trans hx8 hy12
      have hg13 : PG L12 g1 := PG.up hy12 hg9
      have ee14 : A12 0 28 = A8 0 28 := hy12.2 _ _ hS8.1.1 (((n0_28 hS12)).trans ((n0_28 hS8)).symm)
      try rw [← ee14]
      have ee15 : A12 g1 0 = A8 g1 0 := hy12.2 _ _ hg9.1 (((nP_0 hS12 hg13)).trans ((nP_0 hS8 hg9)).symm)
      try rw [← ee15]
      have ee16 : A12 g1 19 = A8 g1 19 := hy12.2 _ _ hg9.1 (((nP_19 hS12 hg13)).trans ((nP_19 hS8 hg9)).symm)
      try rw [← ee16]
      have ee17 : A12 g1 5 = A8 g1 5 := hy12.2 _ _ hg9.1 (((nP_5 hS12 hg13)).trans ((nP_5 hS8 hg9)).symm)
      try rw [← ee17]
      refine ⟨hS12.o (sP_19 hg13), ?_⟩
      refine wpM.mono (h G12 A12 ⟨L12, P12, rfl, hS12⟩) (fun rr18 G18 hr => ?_)
      obtain ⟨A18, W18, w18, ⟨L18, P18, rfl, hS18⟩, hy18, rfl, r18, rfl, h⟩ := hr
      refine ⟨r18, rfl, ?_⟩
      have hx18 := Xt.trans hx12 hy18
      have hg19 : PG L18 g1 := PG.up hy18 hg13
      have ee20 : A18 0 28 = A12 0 28 := hy18.2 _ _ hS12.1.1 (((n0_28 hS18)).trans ((n0_28 hS12)).symm)
      try rw [← ee20]
      have ee21 : A18 g1 0 = A12 g1 0 := hy18.2 _ _ hg13.1 (((nP_0 hS18 hg19)).trans ((nP_0 hS12 hg13)).symm)
      try rw [← ee21]
      refine ⟨hS18.o (s0_28 hS18), ?_⟩
      refine wpM.mono (h G18 A18 ⟨L18, P18, rfl, hS18⟩) (fun rr22 G22 hr => ?_)
      obtain ⟨A22, W22, w22, ⟨L22, P22, rfl, hS22⟩, hy22, rfl, rfl, h⟩ := hr
      refine ⟨rfl, ?_⟩
      have hx22 := Xt.trans hx18 hy22
      have hg23 : PG L22 g1 := PG.up hy22 hg19
      have ee24 : A22 0 28 = A18 0 28 := hy22.2 _ _ hS18.1.1 (((n0_28 hS22)).trans ((n0_28 hS18)).symm)
      try rw [← ee24]
      have ee25 : A22 g1 0 = A18 g1 0 := hy22.2 _ _ hg19.1 (((nP_0 hS22 hg23)).trans ((nP_0 hS18 hg19)).symm)
      try rw [← ee25]
      exact qx_i hS22 hx22 h
    · have h := h.2 hc
      exact qx_i hS4 hx4 h
theorem w_X11_feasibleAt_0 {E : EE} {d : Nat} {V : VH} {K : Int32 → VH → Prop} {x1 : Int32} {x2 : Int32}  (h0 : 0 < d) (h : vMP E (d - 1) M_X11_scored [sl 0 28, wi x1] V (fun g1 V1 => (¬ vL V1 g1 = true → K 0 V1) ∧ (vL V1 g1 = true → (g1 ≠ 0 ∧ g1 ≠ 6) ∧ ((x2 < 0 → K 0 V1) ∧ (¬ (x2 < 0) → vMI E (d - 1) M_X9_gatherFor [sl g1 19, sl g1 0, wi 0] V1 (fun r4 V4 => (r4 ≤ x2 → K 0 V4) ∧ (¬ (r4 ≤ x2) → vp_in x2 (vN V4 g1 20) ∧ (vMI E (d - 1) M_X3_moveTo [sl g1 0, wi (vI V4 g1 20 (Int32.toNatClampNeg x2))] V4 (fun r9 V9 => (r9 = 0 → K 0 V9) ∧ (¬ (r9 = 0) → K 1 V9)))))))))) : vMI E d M_X11_feasibleAt [sl 0 28, wi x1, wi x2] V K := by
  intro G A hR
  obtain ⟨L, P, rfl, hS⟩ := hR
  have hx := Xt.refl (V := pl G A L P) (A := A)
  show wpM E d M_X11_feasibleAt [vr (A 0 28), vi x1, vi x2] G _
  refine wpM_of mk_X11_feasibleAt (Nat.le_of_ble_eq_true rfl) ?_
  refine v_X11_feasibleAt_0 h0 ?_
  refine ⟨hS.o (s0_28 hS), ?_⟩
  refine wpM.mono (h G A ⟨L, P, rfl, hS⟩) (fun rr1 G1 hr => ?_)
  obtain ⟨A1, W1, w1, ⟨L1, P1, rfl, hS1⟩, hy1, rfl, g1, rfl, h⟩ := hr
  refine ⟨A1 g1 0, rfl, ?_⟩
  have hx1 := Xt.trans hx hy1
  have ee2 : A1 0 28 = A 0 28 := hy1.2 _ _ hS.1.1 (((n0_28 hS1)).trans ((n0_28 hS)).symm)
  try rw [← ee2]
  refine ⟨fun hc => ?_, fun hc => ?_⟩
  · have h := h.1 ((hS1.null (nf_pos _)).mp hc)
    exact qx_i hS1 hx1 h
  · have h := h.2 (hS1.lv0 hc)
    obtain ⟨hw, h⟩ := h
    have hg3 : PG L1 g1 := ⟨hS1.lv0 hc, hw⟩
    refine ⟨fun hc => ?_, fun hc => ?_⟩
    · have h := h.1 hc
      exact qx_i hS1 hx1 h
    · have h := h.2 hc
      refine ⟨hS1.o (sP_0 hg3), ?_⟩
      rw [lP_0_6 hS1 hg3]
      refine ⟨hS1.o (sP_19 hg3), ?_⟩
      refine wpM.mono (h G1 A1 ⟨L1, P1, rfl, hS1⟩) (fun rr4 G4 hr => ?_)
      obtain ⟨A4, W4, w4, ⟨L4, P4, rfl, hS4⟩, hy4, rfl, r4, rfl, h⟩ := hr
      refine ⟨r4, rfl, ?_⟩
      have hx4 := Xt.trans hx1 hy4
      have hg5 : PG L4 g1 := PG.up hy4 hg3
      have ee6 : A4 0 28 = A1 0 28 := hy4.2 _ _ hS1.1.1 (((n0_28 hS4)).trans ((n0_28 hS1)).symm)
      try rw [← ee6]
      have ee7 : A4 g1 0 = A1 g1 0 := hy4.2 _ _ hg3.1 (((nP_0 hS4 hg5)).trans ((nP_0 hS1 hg3)).symm)
      try rw [← ee7]
      refine ⟨fun hc => ?_, fun hc => ?_⟩
      · have h := h.1 hc
        exact qx_i hS4 hx4 h
      · have h := h.2 hc
        refine ⟨hS4.o (sP_0 hg5), ?_⟩
        rw [lP_0_6 hS4 hg5]
        refine ⟨hS4.o (sP_19 hg5), ?_⟩
        rw [lP_19_2 hS4 hg5]
        refine ⟨hS4.o (sP_20 hg5), ?_⟩
        obtain ⟨hi8, h⟩ := h
        refine ⟨hi8, ?_⟩
        refine wpM.mono (h G4 A4 ⟨L4, P4, rfl, hS4⟩) (fun rr9 G9 hr => ?_)
        obtain ⟨A9, W9, w9, ⟨L9, P9, rfl, hS9⟩, hy9, rfl, r9, rfl, h⟩ := hr
        refine ⟨r9, rfl, ?_⟩
        have hx9 := Xt.trans hx4 hy9
        have hg10 : PG L9 g1 := PG.up hy9 hg5
        have ee11 : A9 0 28 = A4 0 28 := hy9.2 _ _ hS4.1.1 (((n0_28 hS9)).trans ((n0_28 hS4)).symm)
        try rw [← ee11]
        have ee12 : A9 g1 0 = A4 g1 0 := hy9.2 _ _ hg5.1 (((nP_0 hS9 hg10)).trans ((nP_0 hS4 hg5)).symm)
        try rw [← ee12]
        refine ⟨fun hc => ?_, fun hc => ?_⟩
        · have h := h.1 hc
          exact qx_i hS9 hx9 h
        · have h := h.2 hc
          exact qx_i hS9 hx9 h
theorem w_X11_feasibles_0 {E : EE} {d : Nat} {V : VH} {K : Int32 → VH → Prop} {x1 : Int32}  (h0 : 0 < d) (h : vMP E (d - 1) M_X11_scored [sl 0 28, wi x1] V (fun g1 V1 => (vL V1 g1 = true → (g1 ≠ 0 ∧ g1 ≠ 6) ∧ (vMI E (d - 1) M_X9_gatherFor [sl g1 19, sl g1 0, wi 0] V1 (fun r4 V4 => K r4 V4))) ∧ (¬ vL V1 g1 = true → K (-1) V1))) : vMI E d M_X11_feasibles [sl 0 28, wi x1] V K := by
  intro G A hR
  obtain ⟨L, P, rfl, hS⟩ := hR
  have hx := Xt.refl (V := pl G A L P) (A := A)
  show wpM E d M_X11_feasibles [vr (A 0 28), vi x1] G _
  refine wpM_of mk_X11_feasibles (Nat.le_of_ble_eq_true rfl) ?_
  refine v_X11_feasibles_0 h0 ?_
  refine ⟨hS.o (s0_28 hS), ?_⟩
  refine wpM.mono (h G A ⟨L, P, rfl, hS⟩) (fun rr1 G1 hr => ?_)
  obtain ⟨A1, W1, w1, ⟨L1, P1, rfl, hS1⟩, hy1, rfl, g1, rfl, h⟩ := hr
  refine ⟨A1 g1 0, rfl, ?_⟩
  have hx1 := Xt.trans hx hy1
  have ee2 : A1 0 28 = A 0 28 := hy1.2 _ _ hS.1.1 (((n0_28 hS1)).trans ((n0_28 hS)).symm)
  try rw [← ee2]
  refine ⟨fun hc => ?_, fun hc => ?_⟩
  · have h := h.1 (hS1.lv0 hc)
    obtain ⟨hw, h⟩ := h
    have hg3 : PG L1 g1 := ⟨hS1.lv0 hc, hw⟩
    refine ⟨hS1.o (sP_0 hg3), ?_⟩
    rw [lP_0_6 hS1 hg3]
    refine ⟨hS1.o (sP_19 hg3), ?_⟩
    refine wpM.mono (h G1 A1 ⟨L1, P1, rfl, hS1⟩) (fun rr4 G4 hr => ?_)
    obtain ⟨A4, W4, w4, ⟨L4, P4, rfl, hS4⟩, hy4, rfl, r4, rfl, h⟩ := hr
    refine ⟨r4, rfl, ?_⟩
    have hx4 := Xt.trans hx1 hy4
    have hg5 : PG L4 g1 := PG.up hy4 hg3
    have ee6 : A4 0 28 = A1 0 28 := hy4.2 _ _ hS1.1.1 (((n0_28 hS4)).trans ((n0_28 hS1)).symm)
    try rw [← ee6]
    have ee7 : A4 g1 0 = A1 g1 0 := hy4.2 _ _ hg3.1 (((nP_0 hS4 hg5)).trans ((nP_0 hS1 hg3)).symm)
    try rw [← ee7]
    exact qx_i hS4 hx4 h
  · have h := h.2 ((hS1.null (nf_pos _)).mp hc)
    exact qx_i hS1 hx1 h
theorem w_X11_bestAt_0 {E : EE} {d : Nat} {V : VH} {K : Int32 → VH → Prop} {x1 : Int32} {x2 : Int32}  (h0 : 0 < d) (h : vMP E (d - 1) M_X11_scored [sl 0 28, wi x1] V (fun g1 V1 => (¬ vL V1 g1 = true → K 0 V1) ∧ (vL V1 g1 = true → (g1 ≠ 0 ∧ g1 ≠ 6) ∧ ((x2 < 0 → K 0 V1) ∧ (¬ (x2 < 0) → vMI E (d - 1) M_X9_gatherFor [sl g1 19, sl g1 0, wi 1] V1 (fun r4 V4 => (r4 ≤ x2 → K 0 V4) ∧ (¬ (r4 ≤ x2) → vp_in x2 (vN V4 g1 20) ∧ (vMI E (d - 1) M_X3_moveTo [sl g1 0, wi (vI V4 g1 20 (Int32.toNatClampNeg x2))] V4 (fun r9 V9 => (r9 = 0 → K 0 V9) ∧ (¬ (r9 = 0) → K 1 V9)))))))))) : vMI E d M_X11_bestAt [sl 0 28, wi x1, wi x2] V K := by
  intro G A hR
  obtain ⟨L, P, rfl, hS⟩ := hR
  have hx := Xt.refl (V := pl G A L P) (A := A)
  show wpM E d M_X11_bestAt [vr (A 0 28), vi x1, vi x2] G _
  refine wpM_of mk_X11_bestAt (Nat.le_of_ble_eq_true rfl) ?_
  refine v_X11_bestAt_0 h0 ?_
  refine ⟨hS.o (s0_28 hS), ?_⟩
  refine wpM.mono (h G A ⟨L, P, rfl, hS⟩) (fun rr1 G1 hr => ?_)
  obtain ⟨A1, W1, w1, ⟨L1, P1, rfl, hS1⟩, hy1, rfl, g1, rfl, h⟩ := hr
  refine ⟨A1 g1 0, rfl, ?_⟩
  have hx1 := Xt.trans hx hy1
  have ee2 : A1 0 28 = A 0 28 := hy1.2 _ _ hS.1.1 (((n0_28 hS1)).trans ((n0_28 hS)).symm)
  try rw [← ee2]
  refine ⟨fun hc => ?_, fun hc => ?_⟩
  · have h := h.1 ((hS1.null (nf_pos _)).mp hc)
    exact qx_i hS1 hx1 h
  · have h := h.2 (hS1.lv0 hc)
    obtain ⟨hw, h⟩ := h
    have hg3 : PG L1 g1 := ⟨hS1.lv0 hc, hw⟩
    refine ⟨fun hc => ?_, fun hc => ?_⟩
    · have h := h.1 hc
      exact qx_i hS1 hx1 h
    · have h := h.2 hc
      refine ⟨hS1.o (sP_0 hg3), ?_⟩
      rw [lP_0_6 hS1 hg3]
      refine ⟨hS1.o (sP_19 hg3), ?_⟩
      refine wpM.mono (h G1 A1 ⟨L1, P1, rfl, hS1⟩) (fun rr4 G4 hr => ?_)
      obtain ⟨A4, W4, w4, ⟨L4, P4, rfl, hS4⟩, hy4, rfl, r4, rfl, h⟩ := hr
      refine ⟨r4, rfl, ?_⟩
      have hx4 := Xt.trans hx1 hy4
      have hg5 : PG L4 g1 := PG.up hy4 hg3
      have ee6 : A4 0 28 = A1 0 28 := hy4.2 _ _ hS1.1.1 (((n0_28 hS4)).trans ((n0_28 hS1)).symm)
      try rw [← ee6]
      have ee7 : A4 g1 0 = A1 g1 0 := hy4.2 _ _ hg3.1 (((nP_0 hS4 hg5)).trans ((nP_0 hS1 hg3)).symm)
      try rw [← ee7]
      refine ⟨fun hc => ?_, fun hc => ?_⟩
      · have h := h.1 hc
        exact qx_i hS4 hx4 h
      · have h := h.2 hc
        refine ⟨hS4.o (sP_0 hg5), ?_⟩
        rw [lP_0_6 hS4 hg5]
        refine ⟨hS4.o (sP_19 hg5), ?_⟩
        rw [lP_19_2 hS4 hg5]
        refine ⟨hS4.o (sP_20 hg5), ?_⟩
        obtain ⟨hi8, h⟩ := h
        refine ⟨hi8, ?_⟩
        refine wpM.mono (h G4 A4 ⟨L4, P4, rfl, hS4⟩) (fun rr9 G9 hr => ?_)
        obtain ⟨A9, W9, w9, ⟨L9, P9, rfl, hS9⟩, hy9, rfl, r9, rfl, h⟩ := hr
        refine ⟨r9, rfl, ?_⟩
        have hx9 := Xt.trans hx4 hy9
        have hg10 : PG L9 g1 := PG.up hy9 hg5
        have ee11 : A9 0 28 = A4 0 28 := hy9.2 _ _ hS4.1.1 (((n0_28 hS9)).trans ((n0_28 hS4)).symm)
        try rw [← ee11]
        have ee12 : A9 g1 0 = A4 g1 0 := hy9.2 _ _ hg5.1 (((nP_0 hS9 hg10)).trans ((nP_0 hS4 hg5)).symm)
        try rw [← ee12]
        refine ⟨fun hc => ?_, fun hc => ?_⟩
        · have h := h.1 hc
          exact qx_i hS9 hx9 h
        · have h := h.2 hc
          exact qx_i hS9 hx9 h
theorem w_X11_bests_0 {E : EE} {d : Nat} {V : VH} {K : Int32 → VH → Prop} {x1 : Int32}  (h0 : 0 < d) (h : vMP E (d - 1) M_X11_scored [sl 0 28, wi x1] V (fun g1 V1 => (vL V1 g1 = true → (g1 ≠ 0 ∧ g1 ≠ 6) ∧ (vMI E (d - 1) M_X9_gatherFor [sl g1 19, sl g1 0, wi 1] V1 (fun r4 V4 => K r4 V4))) ∧ (¬ vL V1 g1 = true → K (-1) V1))) : vMI E d M_X11_bests [sl 0 28, wi x1] V K := by
  intro G A hR
  obtain ⟨L, P, rfl, hS⟩ := hR
  have hx := Xt.refl (V := pl G A L P) (A := A)
  show wpM E d M_X11_bests [vr (A 0 28), vi x1] G _
  refine wpM_of mk_X11_bests (Nat.le_of_ble_eq_true rfl) ?_
  refine v_X11_bests_0 h0 ?_
  refine ⟨hS.o (s0_28 hS), ?_⟩
  refine wpM.mono (h G A ⟨L, P, rfl, hS⟩) (fun rr1 G1 hr => ?_)
  obtain ⟨A1, W1, w1, ⟨L1, P1, rfl, hS1⟩, hy1, rfl, g1, rfl, h⟩ := hr
  refine ⟨A1 g1 0, rfl, ?_⟩
  have hx1 := Xt.trans hx hy1
  have ee2 : A1 0 28 = A 0 28 := hy1.2 _ _ hS.1.1 (((n0_28 hS1)).trans ((n0_28 hS)).symm)
  try rw [← ee2]
  refine ⟨fun hc => ?_, fun hc => ?_⟩
  · have h := h.1 (hS1.lv0 hc)
    obtain ⟨hw, h⟩ := h
    have hg3 : PG L1 g1 := ⟨hS1.lv0 hc, hw⟩
    refine ⟨hS1.o (sP_0 hg3), ?_⟩
    rw [lP_0_6 hS1 hg3]
    refine ⟨hS1.o (sP_19 hg3), ?_⟩
    refine wpM.mono (h G1 A1 ⟨L1, P1, rfl, hS1⟩) (fun rr4 G4 hr => ?_)
    obtain ⟨A4, W4, w4, ⟨L4, P4, rfl, hS4⟩, hy4, rfl, r4, rfl, h⟩ := hr
    refine ⟨r4, rfl, ?_⟩
    have hx4 := Xt.trans hx1 hy4
    have hg5 : PG L4 g1 := PG.up hy4 hg3
    have ee6 : A4 0 28 = A1 0 28 := hy4.2 _ _ hS1.1.1 (((n0_28 hS4)).trans ((n0_28 hS1)).symm)
    try rw [← ee6]
    have ee7 : A4 g1 0 = A1 g1 0 := hy4.2 _ _ hg3.1 (((nP_0 hS4 hg5)).trans ((nP_0 hS1 hg3)).symm)
    try rw [← ee7]
    exact qx_i hS4 hx4 h
  · have h := h.2 ((hS1.null (nf_pos _)).mp hc)
    exact qx_i hS1 hx1 h
theorem w_X11_best_0 {E : EE} {d : Nat} {V : VH} {K : Int64 → VH → Prop} {x1 : Int32} {x2 : Int32}  (h0 : 0 < d) (h : vMP E (d - 1) M_X11_scored [sl 0 28, wi x1] V (fun g1 V1 => (¬ vL V1 g1 = true → K (-9223372036854775808) V1) ∧ (vL V1 g1 = true → (g1 ≠ 0 ∧ g1 ≠ 6) ∧ (vMI E (d - 1) M_X11_isLevel [wi x2] V1 (fun r4 V4 => (r4 = 0 → K (-9223372036854775808) V4) ∧ (¬ (r4 = 0) → vMI E (d - 1) M_X9_gatherFor [sl g1 19, sl g1 0, wi 1] V4 (fun r8 V8 => (¬ r8 = 0 → vp_in 0 (vN V8 g1 20) ∧ (vMJ E (d - 1) M_X9_scoreOf [sl g1 19, wi (vI V8 g1 20 (Int32.toNatClampNeg 0)), wi x2] V8 (fun r13 V13 => K r13 V13))) ∧ (r8 = 0 → K (-9223372036854775808) V8)))))))) : vMJ E d M_X11_best [sl 0 28, wi x1, wi x2] V K := by
  intro G A hR
  obtain ⟨L, P, rfl, hS⟩ := hR
  have hx := Xt.refl (V := pl G A L P) (A := A)
  show wpM E d M_X11_best [vr (A 0 28), vi x1, vi x2] G _
  refine wpM_of mk_X11_best (Nat.le_of_ble_eq_true rfl) ?_
  refine v_X11_best_0 h0 ?_
  refine ⟨hS.o (s0_28 hS), ?_⟩
  refine wpM.mono (h G A ⟨L, P, rfl, hS⟩) (fun rr1 G1 hr => ?_)
  obtain ⟨A1, W1, w1, ⟨L1, P1, rfl, hS1⟩, hy1, rfl, g1, rfl, h⟩ := hr
  refine ⟨A1 g1 0, rfl, ?_⟩
  have hx1 := Xt.trans hx hy1
  have ee2 : A1 0 28 = A 0 28 := hy1.2 _ _ hS.1.1 (((n0_28 hS1)).trans ((n0_28 hS)).symm)
  try rw [← ee2]
  refine ⟨fun hc => ?_, fun hc => ?_⟩
  · have h := h.1 ((hS1.null (nf_pos _)).mp hc)
    exact qx_j hS1 hx1 h
  · have h := h.2 (hS1.lv0 hc)
    obtain ⟨hw, h⟩ := h
    have hg3 : PG L1 g1 := ⟨hS1.lv0 hc, hw⟩
    refine wpM.mono (h G1 A1 ⟨L1, P1, rfl, hS1⟩) (fun rr4 G4 hr => ?_)
    obtain ⟨A4, W4, w4, ⟨L4, P4, rfl, hS4⟩, hy4, rfl, r4, rfl, h⟩ := hr
    refine ⟨r4, rfl, ?_⟩
    have hx4 := Xt.trans hx1 hy4
    have hg5 : PG L4 g1 := PG.up hy4 hg3
    have ee6 : A4 0 28 = A1 0 28 := hy4.2 _ _ hS1.1.1 (((n0_28 hS4)).trans ((n0_28 hS1)).symm)
    try rw [← ee6]
    have ee7 : A4 g1 0 = A1 g1 0 := hy4.2 _ _ hg3.1 (((nP_0 hS4 hg5)).trans ((nP_0 hS1 hg3)).symm)
    try rw [← ee7]
    refine ⟨fun hc => ?_, fun hc => ?_⟩
    · have h := h.1 hc
      exact qx_j hS4 hx4 h
    · have h := h.2 hc
      refine ⟨hS4.o (sP_0 hg5), ?_⟩
      rw [lP_0_6 hS4 hg5]
      refine ⟨hS4.o (sP_19 hg5), ?_⟩
      refine wpM.mono (h G4 A4 ⟨L4, P4, rfl, hS4⟩) (fun rr8 G8 hr => ?_)
      obtain ⟨A8, W8, w8, ⟨L8, P8, rfl, hS8⟩, hy8, rfl, r8, rfl, h⟩ := hr
      refine ⟨r8, rfl, ?_⟩
      have hx8 := Xt.trans hx4 hy8
      have hg9 : PG L8 g1 := PG.up hy8 hg5
      have ee10 : A8 0 28 = A4 0 28 := hy8.2 _ _ hS4.1.1 (((n0_28 hS8)).trans ((n0_28 hS4)).symm)
      try rw [← ee10]
      have ee11 : A8 g1 0 = A4 g1 0 := hy8.2 _ _ hg5.1 (((nP_0 hS8 hg9)).trans ((nP_0 hS4 hg5)).symm)
      try rw [← ee11]
      refine ⟨fun hc => ?_, fun hc => ?_⟩
      · have h := h.1 hc
        refine ⟨hS8.o (sP_0 hg9), ?_⟩
        rw [lP_0_6 hS8 hg9]
        refine ⟨hS8.o (sP_19 hg9), ?_⟩
        rw [lP_19_2 hS8 hg9]
        refine ⟨hS8.o (sP_20 hg9), ?_⟩
        obtain ⟨hi12, h⟩ := h
        refine ⟨hi12, ?_⟩
        refine wpM.mono (h G8 A8 ⟨L8, P8, rfl, hS8⟩) (fun rr13 G13 hr => ?_)
        obtain ⟨A13, W13, w13, ⟨L13, P13, rfl, hS13⟩, hy13, rfl, r13, rfl, h⟩ := hr
        refine ⟨r13, rfl, ?_⟩
        have hx13 := Xt.trans hx8 hy13
        have hg14 : PG L13 g1 := PG.up hy13 hg9
        have ee15 : A13 0 28 = A8 0 28 := hy13.2 _ _ hS8.1.1 (((n0_28 hS13)).trans ((n0_28 hS8)).symm)
        try rw [← ee15]
        have ee16 : A13 g1 0 = A8 g1 0 := hy13.2 _ _ hg9.1 (((nP_0 hS13 hg14)).trans ((nP_0 hS8 hg9)).symm)
        try rw [← ee16]
        exact qx_j hS13 hx13 h
      · have h := h.2 hc
        exact qx_j hS8 hx8 h
theorem w_X11_solve_0 {E : EE} {d : Nat} {V : VH} {K : Int32 → VH → Prop} {x1 : Int32}  (h0 : 0 < d) (h : vMP E (d - 1) M_X11_scored [sl 0 28, wi x1] V (fun g1 V1 => (vL V1 g1 = true → (g1 ≠ 0 ∧ g1 ≠ 6) ∧ (vMI E (d - 1) M_X9_gatherFor [sl g1 19, sl g1 0, wi 1] V1 (fun r4 V4 => (r4 ≤ 0 → K 0 V4) ∧ (¬ (r4 ≤ 0) → vp_in 0 (vN V4 g1 20) ∧ (vMI E (d - 1) M_X3_moveTo [sl g1 0, wi (vI V4 g1 20 (Int32.toNatClampNeg 0))] V4 (fun r9 V9 => (r9 = 0 → K 0 V9) ∧ (¬ (r9 = 0) → K 1 V9))))))) ∧ (¬ vL V1 g1 = true → K (-1) V1))) : vMI E d M_X11_solve [sl 0 28, wi x1] V K := by
  intro G A hR
  obtain ⟨L, P, rfl, hS⟩ := hR
  have hx := Xt.refl (V := pl G A L P) (A := A)
  show wpM E d M_X11_solve [vr (A 0 28), vi x1] G _
  refine wpM_of mk_X11_solve (Nat.le_of_ble_eq_true rfl) ?_
  refine v_X11_solve_0 h0 ?_
  refine ⟨hS.o (s0_28 hS), ?_⟩
  refine wpM.mono (h G A ⟨L, P, rfl, hS⟩) (fun rr1 G1 hr => ?_)
  obtain ⟨A1, W1, w1, ⟨L1, P1, rfl, hS1⟩, hy1, rfl, g1, rfl, h⟩ := hr
  refine ⟨A1 g1 0, rfl, ?_⟩
  have hx1 := Xt.trans hx hy1
  have ee2 : A1 0 28 = A 0 28 := hy1.2 _ _ hS.1.1 (((n0_28 hS1)).trans ((n0_28 hS)).symm)
  try rw [← ee2]
  refine ⟨fun hc => ?_, fun hc => ?_⟩
  · have h := h.1 (hS1.lv0 hc)
    obtain ⟨hw, h⟩ := h
    have hg3 : PG L1 g1 := ⟨hS1.lv0 hc, hw⟩
    refine ⟨hS1.o (sP_0 hg3), ?_⟩
    rw [lP_0_6 hS1 hg3]
    refine ⟨hS1.o (sP_19 hg3), ?_⟩
    refine wpM.mono (h G1 A1 ⟨L1, P1, rfl, hS1⟩) (fun rr4 G4 hr => ?_)
    obtain ⟨A4, W4, w4, ⟨L4, P4, rfl, hS4⟩, hy4, rfl, r4, rfl, h⟩ := hr
    refine ⟨r4, rfl, ?_⟩
    have hx4 := Xt.trans hx1 hy4
    have hg5 : PG L4 g1 := PG.up hy4 hg3
    have ee6 : A4 0 28 = A1 0 28 := hy4.2 _ _ hS1.1.1 (((n0_28 hS4)).trans ((n0_28 hS1)).symm)
    try rw [← ee6]
    have ee7 : A4 g1 0 = A1 g1 0 := hy4.2 _ _ hg3.1 (((nP_0 hS4 hg5)).trans ((nP_0 hS1 hg3)).symm)
    try rw [← ee7]
    refine ⟨fun hc => ?_, fun hc => ?_⟩
    · have h := h.1 hc
      exact qx_i hS4 hx4 h
    · have h := h.2 hc
      refine ⟨hS4.o (sP_0 hg5), ?_⟩
      rw [lP_0_6 hS4 hg5]
      refine ⟨hS4.o (sP_19 hg5), ?_⟩
      rw [lP_19_2 hS4 hg5]
      refine ⟨hS4.o (sP_20 hg5), ?_⟩
      obtain ⟨hi8, h⟩ := h
      refine ⟨hi8, ?_⟩
      refine wpM.mono (h G4 A4 ⟨L4, P4, rfl, hS4⟩) (fun rr9 G9 hr => ?_)
      obtain ⟨A9, W9, w9, ⟨L9, P9, rfl, hS9⟩, hy9, rfl, r9, rfl, h⟩ := hr
      refine ⟨r9, rfl, ?_⟩
      have hx9 := Xt.trans hx4 hy9
      have hg10 : PG L9 g1 := PG.up hy9 hg5
      have ee11 : A9 0 28 = A4 0 28 := hy9.2 _ _ hS4.1.1 (((n0_28 hS9)).trans ((n0_28 hS4)).symm)
      try rw [← ee11]
      have ee12 : A9 g1 0 = A4 g1 0 := hy9.2 _ _ hg5.1 (((nP_0 hS9 hg10)).trans ((nP_0 hS4 hg5)).symm)
      try rw [← ee12]
      refine ⟨fun hc => ?_, fun hc => ?_⟩
      · have h := h.1 hc
        exact qx_i hS9 hx9 h
      · have h := h.2 hc
        exact qx_i hS9 hx9 h
  · have h := h.2 ((hS1.null (nf_pos _)).mp hc)
    exact qx_i hS1 hx1 h
theorem w_X11_hopeless_0 {E : EE} {d : Nat} {V : VH} {K : Int32 → VH → Prop} {x1 : Int32}  (h0 : 0 < d) (h : vMP E (d - 1) M_X11_scored [sl 0 28, wi x1] V (fun g1 V1 => (vL V1 g1 = true → (g1 ≠ 0 ∧ g1 ≠ 6) ∧ (vMI E (d - 1) M_X1_alwaysBroken [sl 0 10, sl g1 0] V1 (fun r4 V4 => K r4 V4))) ∧ (¬ vL V1 g1 = true → K (-1) V1))) : vMI E d M_X11_hopeless [sl 0 28, wi x1] V K := by
  intro G A hR
  obtain ⟨L, P, rfl, hS⟩ := hR
  have hx := Xt.refl (V := pl G A L P) (A := A)
  show wpM E d M_X11_hopeless [vr (A 0 28), vi x1] G _
  refine wpM_of mk_X11_hopeless (Nat.le_of_ble_eq_true rfl) ?_
  refine v_X11_hopeless_0 h0 ?_
  refine ⟨hS.o (s0_28 hS), ?_⟩
  refine wpM.mono (h G A ⟨L, P, rfl, hS⟩) (fun rr1 G1 hr => ?_)
  obtain ⟨A1, W1, w1, ⟨L1, P1, rfl, hS1⟩, hy1, rfl, g1, rfl, h⟩ := hr
  refine ⟨A1 g1 0, rfl, ?_⟩
  have hx1 := Xt.trans hx hy1
  have ee2 : A1 0 28 = A 0 28 := hy1.2 _ _ hS.1.1 (((n0_28 hS1)).trans ((n0_28 hS)).symm)
  try rw [← ee2]
  refine ⟨fun hc => ?_, fun hc => ?_⟩
  · have h := h.1 (hS1.lv0 hc)
    obtain ⟨hw, h⟩ := h
    have hg3 : PG L1 g1 := ⟨hS1.lv0 hc, hw⟩
    refine ⟨hS1.o (s0_28 hS1), ?_⟩
    rw [l0_28_4 hS1]
    refine ⟨hS1.o (s0_10 hS1), ?_⟩
    refine wpM.mono (h G1 A1 ⟨L1, P1, rfl, hS1⟩) (fun rr4 G4 hr => ?_)
    obtain ⟨A4, W4, w4, ⟨L4, P4, rfl, hS4⟩, hy4, rfl, r4, rfl, h⟩ := hr
    refine ⟨r4, rfl, ?_⟩
    have hx4 := Xt.trans hx1 hy4
    have hg5 : PG L4 g1 := PG.up hy4 hg3
    have ee6 : A4 0 28 = A1 0 28 := hy4.2 _ _ hS1.1.1 (((n0_28 hS4)).trans ((n0_28 hS1)).symm)
    try rw [← ee6]
    have ee7 : A4 g1 0 = A1 g1 0 := hy4.2 _ _ hg3.1 (((nP_0 hS4 hg5)).trans ((nP_0 hS1 hg3)).symm)
    try rw [← ee7]
    exact qx_i hS4 hx4 h
  · have h := h.2 ((hS1.null (nf_pos _)).mp hc)
    exact qx_i hS1 hx1 h
theorem w_X11_isLeft_0 {E : EE} {d : Nat} {V : VH} {K : Int32 → VH → Prop} {x1 : Int32} {x2 : Int32} {x3 : Int32}  (h0 : 0 < d) (h : vMP E (d - 1) M_X11_scored [sl 0 28, wi x1] V (fun g1 V1 => (¬ vL V1 g1 = true → K 0 V1) ∧ (vL V1 g1 = true → (g1 ≠ 0 ∧ g1 ≠ 6) ∧ (vMI E (d - 1) M_X7_isVar [sl g1 5, wi x2] V1 (fun r4 V4 => (r4 = 0 → K 0 V4) ∧ (¬ (r4 = 0) → (x3 < 0 → K 0 V4) ∧ (¬ (x3 < 0) → vp_in x2 12 ∧ ((x3 < (vI V4 g1 6 (Int32.toNatClampNeg x2)) → vMI E (d - 1) M_X1_workOut [sl 0 10, sl g1 0] V4 (fun r9 V9 => vp_in x2 12 ∧ (((((vI V9 0 11 (Int32.toNatClampNeg x2)) >>> (x3 &&& 31)) &&& 1) = 0 → K 0 V9) ∧ (¬ ((((vI V9 0 11 (Int32.toNatClampNeg x2)) >>> (x3 &&& 31)) &&& 1) = 0) → K 1 V9)))) ∧ (¬ (x3 < (vI V4 g1 6 (Int32.toNatClampNeg x2))) → K 0 V4))))))))) : vMI E d M_X11_isLeft [sl 0 28, wi x1, wi x2, wi x3] V K := by
  intro G A hR
  obtain ⟨L, P, rfl, hS⟩ := hR
  have hx := Xt.refl (V := pl G A L P) (A := A)
  show wpM E d M_X11_isLeft [vr (A 0 28), vi x1, vi x2, vi x3] G _
  refine wpM_of mk_X11_isLeft (Nat.le_of_ble_eq_true rfl) ?_
  refine v_X11_isLeft_0 h0 ?_
  refine ⟨hS.o (s0_28 hS), ?_⟩
  refine wpM.mono (h G A ⟨L, P, rfl, hS⟩) (fun rr1 G1 hr => ?_)
  obtain ⟨A1, W1, w1, ⟨L1, P1, rfl, hS1⟩, hy1, rfl, g1, rfl, h⟩ := hr
  refine ⟨A1 g1 0, rfl, ?_⟩
  have hx1 := Xt.trans hx hy1
  have ee2 : A1 0 28 = A 0 28 := hy1.2 _ _ hS.1.1 (((n0_28 hS1)).trans ((n0_28 hS)).symm)
  try rw [← ee2]
  refine ⟨fun hc => ?_, fun hc => ?_⟩
  · have h := h.1 ((hS1.null (nf_pos _)).mp hc)
    exact qx_i hS1 hx1 h
  · have h := h.2 (hS1.lv0 hc)
    obtain ⟨hw, h⟩ := h
    have hg3 : PG L1 g1 := ⟨hS1.lv0 hc, hw⟩
    refine ⟨hS1.o (sP_0 hg3), ?_⟩
    rw [lP_0_4 hS1 hg3]
    refine ⟨hS1.o (sP_5 hg3), ?_⟩
    refine wpM.mono (h G1 A1 ⟨L1, P1, rfl, hS1⟩) (fun rr4 G4 hr => ?_)
    obtain ⟨A4, W4, w4, ⟨L4, P4, rfl, hS4⟩, hy4, rfl, r4, rfl, h⟩ := hr
    refine ⟨r4, rfl, ?_⟩
    have hx4 := Xt.trans hx1 hy4
    have hg5 : PG L4 g1 := PG.up hy4 hg3
    have ee6 : A4 0 28 = A1 0 28 := hy4.2 _ _ hS1.1.1 (((n0_28 hS4)).trans ((n0_28 hS1)).symm)
    try rw [← ee6]
    have ee7 : A4 g1 0 = A1 g1 0 := hy4.2 _ _ hg3.1 (((nP_0 hS4 hg5)).trans ((nP_0 hS1 hg3)).symm)
    try rw [← ee7]
    refine ⟨fun hc => ?_, fun hc => ?_⟩
    · have h := h.1 hc
      exact qx_i hS4 hx4 h
    · have h := h.2 hc
      refine ⟨fun hc => ?_, fun hc => ?_⟩
      · have h := h.1 hc
        exact qx_i hS4 hx4 h
      · have h := h.2 hc
        refine ⟨hS4.o (sP_0 hg5), ?_⟩
        rw [lP_0_4 hS4 hg5]
        refine ⟨hS4.o (sP_5 hg5), ?_⟩
        rw [lP_5_2 hS4 hg5]
        refine ⟨hS4.o (sP_6 hg5), ?_⟩
        obtain ⟨hi8, h⟩ := h
        refine ⟨by first | (rw [(nP_6 hS4 hg5)]; exact hi8) | exact (congrArg (vp_in _) (nP_6 hS4 hg5)).mpr hi8 | exact hi8, ?_⟩
        refine ⟨fun hc => ?_, fun hc => ?_⟩
        · have h := h.1 hc
          refine ⟨hS4.o (s0_28 hS4), ?_⟩
          rw [l0_28_4 hS4]
          refine ⟨hS4.o (s0_10 hS4), ?_⟩
          refine wpM.mono (h G4 A4 ⟨L4, P4, rfl, hS4⟩) (fun rr9 G9 hr => ?_)
          obtain ⟨A9, W9, w9, ⟨L9, P9, rfl, hS9⟩, hy9, rfl, r9, rfl, h⟩ := hr
          refine ⟨r9, rfl, ?_⟩
          have hx9 := Xt.trans hx4 hy9
          have hg10 : PG L9 g1 := PG.up hy9 hg5
          have ee11 : A9 0 28 = A4 0 28 := hy9.2 _ _ hS4.1.1 (((n0_28 hS9)).trans ((n0_28 hS4)).symm)
          try rw [← ee11]
          have ee12 : A9 g1 0 = A4 g1 0 := hy9.2 _ _ hg5.1 (((nP_0 hS9 hg10)).trans ((nP_0 hS4 hg5)).symm)
          try rw [← ee12]
          refine ⟨hS9.o (s0_28 hS9), ?_⟩
          rw [l0_28_4 hS9]
          refine ⟨hS9.o (s0_10 hS9), ?_⟩
          rw [l0_10_0 hS9]
          refine ⟨hS9.o (s0_11 hS9), ?_⟩
          obtain ⟨hi13, h⟩ := h
          refine ⟨by first | (rw [(n0_11 hS9)]; exact hi13) | exact (congrArg (vp_in _) (n0_11 hS9)).mpr hi13 | exact hi13, ?_⟩
          refine ⟨fun hc => ?_, fun hc => ?_⟩
          · have h := h.1 hc
            exact qx_i hS9 hx9 h
          · have h := h.2 hc
            exact qx_i hS9 hx9 h
        · have h := h.2 hc
          exact qx_i hS4 hx4 h
theorem w_X11_reach_0 {E : EE} {d : Nat} {V : VH} {K : Int32 → VH → Prop} {x1 : Int32}  (h0 : 0 < d) (h : vMP E (d - 1) M_X11_scored [sl 0 28, wi x1] V (fun g1 V1 => (vL V1 g1 = true → (g1 ≠ 0 ∧ g1 ≠ 6) ∧ (vMI E (d - 1) M_X1_workOut [sl 0 10, sl g1 0] V1 (fun r4 V4 => K r4 V4))) ∧ (¬ vL V1 g1 = true → K (-1) V1))) : vMI E d M_X11_reach [sl 0 28, wi x1] V K := by
  intro G A hR
  obtain ⟨L, P, rfl, hS⟩ := hR
  have hx := Xt.refl (V := pl G A L P) (A := A)
  show wpM E d M_X11_reach [vr (A 0 28), vi x1] G _
  refine wpM_of mk_X11_reach (Nat.le_of_ble_eq_true rfl) ?_
  refine v_X11_reach_0 h0 ?_
  refine ⟨hS.o (s0_28 hS), ?_⟩
  refine wpM.mono (h G A ⟨L, P, rfl, hS⟩) (fun rr1 G1 hr => ?_)
  obtain ⟨A1, W1, w1, ⟨L1, P1, rfl, hS1⟩, hy1, rfl, g1, rfl, h⟩ := hr
  refine ⟨A1 g1 0, rfl, ?_⟩
  have hx1 := Xt.trans hx hy1
  have ee2 : A1 0 28 = A 0 28 := hy1.2 _ _ hS.1.1 (((n0_28 hS1)).trans ((n0_28 hS)).symm)
  try rw [← ee2]
  refine ⟨fun hc => ?_, fun hc => ?_⟩
  · have h := h.1 (hS1.lv0 hc)
    obtain ⟨hw, h⟩ := h
    have hg3 : PG L1 g1 := ⟨hS1.lv0 hc, hw⟩
    refine ⟨hS1.o (s0_28 hS1), ?_⟩
    rw [l0_28_4 hS1]
    refine ⟨hS1.o (s0_10 hS1), ?_⟩
    refine wpM.mono (h G1 A1 ⟨L1, P1, rfl, hS1⟩) (fun rr4 G4 hr => ?_)
    obtain ⟨A4, W4, w4, ⟨L4, P4, rfl, hS4⟩, hy4, rfl, r4, rfl, h⟩ := hr
    refine ⟨r4, rfl, ?_⟩
    have hx4 := Xt.trans hx1 hy4
    have hg5 : PG L4 g1 := PG.up hy4 hg3
    have ee6 : A4 0 28 = A1 0 28 := hy4.2 _ _ hS1.1.1 (((n0_28 hS4)).trans ((n0_28 hS1)).symm)
    try rw [← ee6]
    have ee7 : A4 g1 0 = A1 g1 0 := hy4.2 _ _ hg3.1 (((nP_0 hS4 hg5)).trans ((nP_0 hS1 hg3)).symm)
    try rw [← ee7]
    exact qx_i hS4 hx4 h
  · have h := h.2 ((hS1.null (nf_pos _)).mp hc)
    exact qx_i hS1 hx1 h
theorem w_X11_feasible_0 {E : EE} {d : Nat} {V : VH} {K : Int32 → VH → Prop} {x1 : Int32}  (h0 : 0 < d) (h : vMP E (d - 1) M_X11_known [sl 0 28, wi x1] V (fun g1 V1 => (vL V1 g1 = true → (g1 ≠ 0 ∧ g1 ≠ 6) ∧ (vMI E (d - 1) M_X2_weighAll [sl g1 9, sl g1 5, wi (vI V1 g1 0 8), sl g1 23, sl g1 27, wi 0] V1 (fun r4 V4 => (¬ (r4 &&& (vI V4 g1 9 0)) = 0 → K 0 V4) ∧ ((r4 &&& (vI V4 g1 9 0)) = 0 → K 1 V4)))) ∧ (¬ vL V1 g1 = true → K 0 V1))) : vMI E d M_X11_feasible [sl 0 28, wi x1] V K := by
  intro G A hR
  obtain ⟨L, P, rfl, hS⟩ := hR
  have hx := Xt.refl (V := pl G A L P) (A := A)
  show wpM E d M_X11_feasible [vr (A 0 28), vi x1] G _
  refine wpM_of mk_X11_feasible (Nat.le_of_ble_eq_true rfl) ?_
  refine v_X11_feasible_0 h0 ?_
  refine ⟨hS.o (s0_28 hS), ?_⟩
  refine wpM.mono (h G A ⟨L, P, rfl, hS⟩) (fun rr1 G1 hr => ?_)
  obtain ⟨A1, W1, w1, ⟨L1, P1, rfl, hS1⟩, hy1, rfl, g1, rfl, h⟩ := hr
  refine ⟨A1 g1 0, rfl, ?_⟩
  have hx1 := Xt.trans hx hy1
  have ee2 : A1 0 28 = A 0 28 := hy1.2 _ _ hS.1.1 (((n0_28 hS1)).trans ((n0_28 hS)).symm)
  try rw [← ee2]
  refine ⟨fun hc => ?_, fun hc => ?_⟩
  · have h := h.1 (hS1.lv0 hc)
    obtain ⟨hw, h⟩ := h
    have hg3 : PG L1 g1 := ⟨hS1.lv0 hc, hw⟩
    refine ⟨hS1.o (sP_0 hg3), ?_⟩
    rw [lP_0_5 hS1 hg3]
    rw [lP_0_4 hS1 hg3]
    rw [lP_0_7 hS1 hg3]
    rw [lP_0_14 hS1 hg3]
    refine ⟨hS1.o (sP_9 hg3), ?_⟩
    refine wpM.mono (h G1 A1 ⟨L1, P1, rfl, hS1⟩) (fun rr4 G4 hr => ?_)
    obtain ⟨A4, W4, w4, ⟨L4, P4, rfl, hS4⟩, hy4, rfl, r4, rfl, h⟩ := hr
    refine ⟨r4, rfl, ?_⟩
    have hx4 := Xt.trans hx1 hy4
    have hg5 : PG L4 g1 := PG.up hy4 hg3
    have ee6 : A4 0 28 = A1 0 28 := hy4.2 _ _ hS1.1.1 (((n0_28 hS4)).trans ((n0_28 hS1)).symm)
    try rw [← ee6]
    have ee7 : A4 g1 0 = A1 g1 0 := hy4.2 _ _ hg3.1 (((nP_0 hS4 hg5)).trans ((nP_0 hS1 hg3)).symm)
    try rw [← ee7]
    refine ⟨hS4.o (sP_0 hg5), ?_⟩
    rw [lP_0_5 hS4 hg5]
    refine ⟨hS4.o (sP_9 hg5), ?_⟩
    refine ⟨fun hc => ?_, fun hc => ?_⟩
    · have h := h.1 hc
      exact qx_i hS4 hx4 h
    · have h := h.2 hc
      exact qx_i hS4 hx4 h
  · have h := h.2 ((hS1.null (nf_pos _)).mp hc)
    exact qx_i hS1 hx1 h
theorem w_X11_score_0 {E : EE} {d : Nat} {V : VH} {K : Int64 → VH → Prop} {x1 : Int32} {x2 : Int32}  (h0 : 0 < d) (h : vMP E (d - 1) M_X11_known [sl 0 28, wi x1] V (fun g1 V1 => (¬ vL V1 g1 = true → K (-9223372036854775808) V1) ∧ (vL V1 g1 = true → (g1 ≠ 0 ∧ g1 ≠ 6) ∧ (vMI E (d - 1) M_X11_isLevel [wi x2] V1 (fun r4 V4 => (¬ r4 = 0 → vMI E (d - 1) M_X2_weighAll [sl g1 9, sl g1 5, wi (vI V4 g1 0 8), sl g1 23, sl g1 27, wi 0] V4 (fun r8 V8 => vp_in x2 3 ∧ (K (vJ V8 g1 27 (Int32.toNatClampNeg x2)) V8))) ∧ (r4 = 0 → K (-9223372036854775808) V4)))))) : vMJ E d M_X11_score [sl 0 28, wi x1, wi x2] V K := by
  intro G A hR
  obtain ⟨L, P, rfl, hS⟩ := hR
  have hx := Xt.refl (V := pl G A L P) (A := A)
  show wpM E d M_X11_score [vr (A 0 28), vi x1, vi x2] G _
  refine wpM_of mk_X11_score (Nat.le_of_ble_eq_true rfl) ?_
  refine v_X11_score_0 h0 ?_
  refine ⟨hS.o (s0_28 hS), ?_⟩
  refine wpM.mono (h G A ⟨L, P, rfl, hS⟩) (fun rr1 G1 hr => ?_)
  obtain ⟨A1, W1, w1, ⟨L1, P1, rfl, hS1⟩, hy1, rfl, g1, rfl, h⟩ := hr
  refine ⟨A1 g1 0, rfl, ?_⟩
  have hx1 := Xt.trans hx hy1
  have ee2 : A1 0 28 = A 0 28 := hy1.2 _ _ hS.1.1 (((n0_28 hS1)).trans ((n0_28 hS)).symm)
  try rw [← ee2]
  refine ⟨fun hc => ?_, fun hc => ?_⟩
  · have h := h.1 ((hS1.null (nf_pos _)).mp hc)
    exact qx_j hS1 hx1 h
  · have h := h.2 (hS1.lv0 hc)
    obtain ⟨hw, h⟩ := h
    have hg3 : PG L1 g1 := ⟨hS1.lv0 hc, hw⟩
    refine wpM.mono (h G1 A1 ⟨L1, P1, rfl, hS1⟩) (fun rr4 G4 hr => ?_)
    obtain ⟨A4, W4, w4, ⟨L4, P4, rfl, hS4⟩, hy4, rfl, r4, rfl, h⟩ := hr
    refine ⟨r4, rfl, ?_⟩
    have hx4 := Xt.trans hx1 hy4
    have hg5 : PG L4 g1 := PG.up hy4 hg3
    have ee6 : A4 0 28 = A1 0 28 := hy4.2 _ _ hS1.1.1 (((n0_28 hS4)).trans ((n0_28 hS1)).symm)
    try rw [← ee6]
    have ee7 : A4 g1 0 = A1 g1 0 := hy4.2 _ _ hg3.1 (((nP_0 hS4 hg5)).trans ((nP_0 hS1 hg3)).symm)
    try rw [← ee7]
    refine ⟨fun hc => ?_, fun hc => ?_⟩
    · have h := h.1 hc
      refine ⟨hS4.o (sP_0 hg5), ?_⟩
      rw [lP_0_5 hS4 hg5]
      rw [lP_0_4 hS4 hg5]
      rw [lP_0_7 hS4 hg5]
      rw [lP_0_14 hS4 hg5]
      refine ⟨hS4.o (sP_9 hg5), ?_⟩
      refine wpM.mono (h G4 A4 ⟨L4, P4, rfl, hS4⟩) (fun rr8 G8 hr => ?_)
      obtain ⟨A8, W8, w8, ⟨L8, P8, rfl, hS8⟩, hy8, rfl, r8, rfl, h⟩ := hr
      refine ⟨r8, rfl, ?_⟩
      have hx8 := Xt.trans hx4 hy8
      have hg9 : PG L8 g1 := PG.up hy8 hg5
      have ee10 : A8 0 28 = A4 0 28 := hy8.2 _ _ hS4.1.1 (((n0_28 hS8)).trans ((n0_28 hS4)).symm)
      try rw [← ee10]
      have ee11 : A8 g1 0 = A4 g1 0 := hy8.2 _ _ hg5.1 (((nP_0 hS8 hg9)).trans ((nP_0 hS4 hg5)).symm)
      try rw [← ee11]
      refine ⟨hS8.o (sP_0 hg9), ?_⟩
      rw [lP_0_14 hS8 hg9]
      refine ⟨hS8.o (sP_27 hg9), ?_⟩
      obtain ⟨hi12, h⟩ := h
      refine ⟨by first | (rw [(nP_27 hS8 hg9)]; exact hi12) | exact (congrArg (vp_in _) (nP_27 hS8 hg9)).mpr hi12 | exact hi12, ?_⟩
      exact qx_j hS8 hx8 h
    · have h := h.2 hc
      exact qx_j hS4 hx4 h

