theorem w_X12_has_0 {E : EE} {d : Nat} {V : VH} {K : Int32 → VH → Prop} {x1 : Int32} {x2 : Int32} {x3 : Int32} {x4 : Int32}  (h0 : 0 < d) (h : vMI E (d - 1) M_X12_isVar [sl 6 0, wi x1, wi x2] V (fun r1 V1 => (¬ r1 = 0 → vMV E (d - 1) M_X12_know [sl 6 0, wi x1] V1 (fun V3 => vMI E (d - 1) M_X12_firstBest [sl 6 0, wi x1, wi (-1), wi 0] V3 (fun r5 V5 => vMI E (d - 1) M_X12_placeOf [sl 6 0, wi x1, wi x2, wi x3] V5 (fun r7 V7 => vwp E d M_X12_has 43 [some (sl 6 0), some (wi x1), some (wi x2), some (wi x3), some (wi x4), some (wi r5), some (wi r7), some (wi 0), some (wi 0), some (wi 0)] [] V7 (zi K))))) ∧ (r1 = 0 → K (-1) V1))) : vMI E d M_X12_has [sl 6 0, wi x1, wi x2, wi x3, wi x4] V K := by
  intro G A hR
  obtain ⟨L, P, rfl, hS⟩ := hR
  have hx := Xt.refl (V := pl G A L P) (A := A)
  show wpM E d M_X12_has [vr (A 6 0), vi x1, vi x2, vi x3, vi x4] G _
  refine wpM_of mk_X12_has (Nat.le_of_ble_eq_true rfl) ?_
  refine v_X12_has_0 h0 ?_
  refine ⟨hS.o (s6_0 hS), ?_⟩
  refine wpM.mono (h G A ⟨L, P, rfl, hS⟩) (fun rr1 G1 hr => ?_)
  obtain ⟨A1, W1, w1, ⟨L1, P1, rfl, hS1⟩, hy1, rfl, r1, rfl, h⟩ := hr
  refine ⟨r1, rfl, ?_⟩
  have hx1 := Xt.trans hx hy1
  have ee2 : A1 6 0 = A 6 0 := hy1.2 _ _ hS.1.2.1 (((n6_0 hS1)).trans ((n6_0 hS)).symm)
  try rw [← ee2]
  refine ⟨fun hc => ?_, fun hc => ?_⟩
  · have h := h.1 hc
    refine ⟨hS1.o (s6_0 hS1), ?_⟩
    refine wpM.mono (h G1 A1 ⟨L1, P1, rfl, hS1⟩) (fun rr3 G3 hr => ?_)
    obtain ⟨A3, W3, w3, ⟨L3, P3, rfl, hS3⟩, hy3, rfl, rfl, h⟩ := hr
    refine ⟨rfl, ?_⟩
    have hx3 := Xt.trans hx1 hy3
    have ee4 : A3 6 0 = A1 6 0 := hy3.2 _ _ hS1.1.2.1 (((n6_0 hS3)).trans ((n6_0 hS1)).symm)
    try rw [← ee4]
    refine ⟨hS3.o (s6_0 hS3), ?_⟩
    refine wpM.mono (h G3 A3 ⟨L3, P3, rfl, hS3⟩) (fun rr5 G5 hr => ?_)
    obtain ⟨A5, W5, w5, ⟨L5, P5, rfl, hS5⟩, hy5, rfl, r5, rfl, h⟩ := hr
    refine ⟨r5, rfl, ?_⟩
    have hx5 := Xt.trans hx3 hy5
    have ee6 : A5 6 0 = A3 6 0 := hy5.2 _ _ hS3.1.2.1 (((n6_0 hS5)).trans ((n6_0 hS3)).symm)
    try rw [← ee6]
    refine ⟨hS5.o (s6_0 hS5), ?_⟩
    refine wpM.mono (h G5 A5 ⟨L5, P5, rfl, hS5⟩) (fun rr7 G7 hr => ?_)
    obtain ⟨A7, W7, w7, ⟨L7, P7, rfl, hS7⟩, hy7, rfl, r7, rfl, h⟩ := hr
    refine ⟨r7, rfl, ?_⟩
    have hx7 := Xt.trans hx5 hy7
    have ee8 : A7 6 0 = A5 6 0 := hy7.2 _ _ hS5.1.2.1 (((n6_0 hS7)).trans ((n6_0 hS5)).symm)
    try rw [← ee8]
    exact wp.mono (h G7 A7 ⟨L7, P7, rfl, hS7⟩) (fun r G' q => qx_trans hx7 q)
  · have h := h.2 hc
    exact qx_i hS1 hx1 h
theorem w_X12_feasibleAt_0 {E : EE} {d : Nat} {V : VH} {K : Int32 → VH → Prop} {x1 : Int32} {x2 : Int32}  (h0 : 0 < d) (h : vMI E (d - 1) M_X12_planAt [sl 6 0, wi x1, wi x2, wi 0] V (fun r1 V1 => bz r1 ∧ K r1 V1)) : vMI E d M_X12_feasibleAt [sl 6 0, wi x1, wi x2] V K := by
  intro G A hR
  obtain ⟨L, P, rfl, hS⟩ := hR
  have hx := Xt.refl (V := pl G A L P) (A := A)
  show wpM E d M_X12_feasibleAt [vr (A 6 0), vi x1, vi x2] G _
  refine wpM_of mk_X12_feasibleAt (Nat.le_of_ble_eq_true rfl) ?_
  refine v_X12_feasibleAt_0 h0 ?_
  refine ⟨hS.o (s6_0 hS), ?_⟩
  refine wpM.mono (h G A ⟨L, P, rfl, hS⟩) (fun rr1 G1 hr => ?_)
  obtain ⟨A1, W1, w1, ⟨L1, P1, rfl, hS1⟩, hy1, rfl, r1, rfl, h⟩ := hr
  refine ⟨r1, rfl, ?_⟩
  have hx1 := Xt.trans hx hy1
  have ee2 : A1 6 0 = A 6 0 := hy1.2 _ _ hS.1.2.1 (((n6_0 hS1)).trans ((n6_0 hS)).symm)
  try rw [← ee2]
  exact ⟨bz_ok h.1, qx_i hS1 hx1 h.2⟩
theorem w_X12_planAt_0 {E : EE} {d : Nat} {V : VH} {K : Int32 → VH → Prop} {x1 : Int32} {x2 : Int32} {x3 : Int32}  (h0 : 0 < d) (h : vMI E (d - 1) M_X12_isProblem [sl 6 0, wi x1] V (fun r1 V1 => (r1 = 0 → K 0 V1) ∧ (¬ (r1 = 0) → (0 ≤ x2 → vMV E (d - 1) M_X12_know [sl 6 0, wi x1] V1 (fun V3 => (x3 = 0 → vwp E d M_X12_planAt 34 [some (sl 6 0), some (wi x1), some (wi x2), some (wi x3), none, none, none] [wi (-1)] V3 (zi K)) ∧ (¬ (x3 = 0) → vMI E (d - 1) M_X12_firstBest [sl 6 0, wi x1, wi (-1), wi 0] V3 (fun r5 V5 => vwp E d M_X12_planAt 34 [some (sl 6 0), some (wi x1), some (wi x2), some (wi x3), none, none, none] [wi r5] V5 (zi K))))) ∧ (¬ (0 ≤ x2) → K 0 V1)))) : vMI E d M_X12_planAt [sl 6 0, wi x1, wi x2, wi x3] V K := by
  intro G A hR
  obtain ⟨L, P, rfl, hS⟩ := hR
  have hx := Xt.refl (V := pl G A L P) (A := A)
  show wpM E d M_X12_planAt [vr (A 6 0), vi x1, vi x2, vi x3] G _
  refine wpM_of mk_X12_planAt (Nat.le_of_ble_eq_true rfl) ?_
  refine v_X12_planAt_0 h0 ?_
  refine ⟨hS.o (s6_0 hS), ?_⟩
  refine wpM.mono (h G A ⟨L, P, rfl, hS⟩) (fun rr1 G1 hr => ?_)
  obtain ⟨A1, W1, w1, ⟨L1, P1, rfl, hS1⟩, hy1, rfl, r1, rfl, h⟩ := hr
  refine ⟨r1, rfl, ?_⟩
  have hx1 := Xt.trans hx hy1
  have ee2 : A1 6 0 = A 6 0 := hy1.2 _ _ hS.1.2.1 (((n6_0 hS1)).trans ((n6_0 hS)).symm)
  try rw [← ee2]
  refine ⟨fun hc => ?_, fun hc => ?_⟩
  · have h := h.1 hc
    exact qx_i hS1 hx1 h
  · have h := h.2 hc
    refine ⟨fun hc => ?_, fun hc => ?_⟩
    · have h := h.1 hc
      refine ⟨hS1.o (s6_0 hS1), ?_⟩
      refine wpM.mono (h G1 A1 ⟨L1, P1, rfl, hS1⟩) (fun rr3 G3 hr => ?_)
      obtain ⟨A3, W3, w3, ⟨L3, P3, rfl, hS3⟩, hy3, rfl, rfl, h⟩ := hr
      refine ⟨rfl, ?_⟩
      have hx3 := Xt.trans hx1 hy3
      have ee4 : A3 6 0 = A1 6 0 := hy3.2 _ _ hS1.1.2.1 (((n6_0 hS3)).trans ((n6_0 hS1)).symm)
      try rw [← ee4]
      refine ⟨fun hc => ?_, fun hc => ?_⟩
      · have h := h.1 hc
        exact wp.mono (h G3 A3 ⟨L3, P3, rfl, hS3⟩) (fun r G' q => qx_trans hx3 q)
      · have h := h.2 hc
        refine ⟨hS3.o (s6_0 hS3), ?_⟩
        refine wpM.mono (h G3 A3 ⟨L3, P3, rfl, hS3⟩) (fun rr5 G5 hr => ?_)
        obtain ⟨A5, W5, w5, ⟨L5, P5, rfl, hS5⟩, hy5, rfl, r5, rfl, h⟩ := hr
        refine ⟨r5, rfl, ?_⟩
        have hx5 := Xt.trans hx3 hy5
        have ee6 : A5 6 0 = A3 6 0 := hy5.2 _ _ hS3.1.2.1 (((n6_0 hS5)).trans ((n6_0 hS3)).symm)
        try rw [← ee6]
        exact wp.mono (h G5 A5 ⟨L5, P5, rfl, hS5⟩) (fun r G' q => qx_trans hx5 q)
    · have h := h.2 hc
      exact qx_i hS1 hx1 h
theorem w_X12_feasibles_0 {E : EE} {d : Nat} {V : VH} {K : Int32 → VH → Prop} {x1 : Int32}  (h0 : 0 < d) (h : vMI E (d - 1) M_X12_isProblem [sl 6 0, wi x1] V (fun r1 V1 => (¬ r1 = 0 → vMV E (d - 1) M_X12_know [sl 6 0, wi x1] V1 (fun V3 => vwp E d M_X12_feasibles 19 [some (sl 6 0), some (wi x1), some (wi 0), some (wi 0)] [] V3 (zi K))) ∧ (r1 = 0 → K (-1) V1))) : vMI E d M_X12_feasibles [sl 6 0, wi x1] V K := by
  intro G A hR
  obtain ⟨L, P, rfl, hS⟩ := hR
  have hx := Xt.refl (V := pl G A L P) (A := A)
  show wpM E d M_X12_feasibles [vr (A 6 0), vi x1] G _
  refine wpM_of mk_X12_feasibles (Nat.le_of_ble_eq_true rfl) ?_
  refine v_X12_feasibles_0 h0 ?_
  refine ⟨hS.o (s6_0 hS), ?_⟩
  refine wpM.mono (h G A ⟨L, P, rfl, hS⟩) (fun rr1 G1 hr => ?_)
  obtain ⟨A1, W1, w1, ⟨L1, P1, rfl, hS1⟩, hy1, rfl, r1, rfl, h⟩ := hr
  refine ⟨r1, rfl, ?_⟩
  have hx1 := Xt.trans hx hy1
  have ee2 : A1 6 0 = A 6 0 := hy1.2 _ _ hS.1.2.1 (((n6_0 hS1)).trans ((n6_0 hS)).symm)
  try rw [← ee2]
  refine ⟨fun hc => ?_, fun hc => ?_⟩
  · have h := h.1 hc
    refine ⟨hS1.o (s6_0 hS1), ?_⟩
    refine wpM.mono (h G1 A1 ⟨L1, P1, rfl, hS1⟩) (fun rr3 G3 hr => ?_)
    obtain ⟨A3, W3, w3, ⟨L3, P3, rfl, hS3⟩, hy3, rfl, rfl, h⟩ := hr
    refine ⟨rfl, ?_⟩
    have hx3 := Xt.trans hx1 hy3
    have ee4 : A3 6 0 = A1 6 0 := hy3.2 _ _ hS1.1.2.1 (((n6_0 hS3)).trans ((n6_0 hS1)).symm)
    try rw [← ee4]
    exact wp.mono (h G3 A3 ⟨L3, P3, rfl, hS3⟩) (fun r G' q => qx_trans hx3 q)
  · have h := h.2 hc
    exact qx_i hS1 hx1 h
theorem w_X12_bestAt_0 {E : EE} {d : Nat} {V : VH} {K : Int32 → VH → Prop} {x1 : Int32} {x2 : Int32}  (h0 : 0 < d) (h : vMI E (d - 1) M_X12_planAt [sl 6 0, wi x1, wi x2, wi 1] V (fun r1 V1 => bz r1 ∧ K r1 V1)) : vMI E d M_X12_bestAt [sl 6 0, wi x1, wi x2] V K := by
  intro G A hR
  obtain ⟨L, P, rfl, hS⟩ := hR
  have hx := Xt.refl (V := pl G A L P) (A := A)
  show wpM E d M_X12_bestAt [vr (A 6 0), vi x1, vi x2] G _
  refine wpM_of mk_X12_bestAt (Nat.le_of_ble_eq_true rfl) ?_
  refine v_X12_bestAt_0 h0 ?_
  refine ⟨hS.o (s6_0 hS), ?_⟩
  refine wpM.mono (h G A ⟨L, P, rfl, hS⟩) (fun rr1 G1 hr => ?_)
  obtain ⟨A1, W1, w1, ⟨L1, P1, rfl, hS1⟩, hy1, rfl, r1, rfl, h⟩ := hr
  refine ⟨r1, rfl, ?_⟩
  have hx1 := Xt.trans hx hy1
  have ee2 : A1 6 0 = A 6 0 := hy1.2 _ _ hS.1.2.1 (((n6_0 hS1)).trans ((n6_0 hS)).symm)
  try rw [← ee2]
  exact ⟨bz_ok h.1, qx_i hS1 hx1 h.2⟩
theorem w_X12_bests_0 {E : EE} {d : Nat} {V : VH} {K : Int32 → VH → Prop} {x1 : Int32}  (h0 : 0 < d) (h : vMI E (d - 1) M_X12_isProblem [sl 6 0, wi x1] V (fun r1 V1 => (¬ r1 = 0 → vMV E (d - 1) M_X12_know [sl 6 0, wi x1] V1 (fun V3 => vMI E (d - 1) M_X12_firstBest [sl 6 0, wi x1, wi (-1), wi 0] V3 (fun r5 V5 => vwp E d M_X12_bests 28 [some (sl 6 0), some (wi x1), some (wi r5), some (wi 0), some (wi 0)] [] V5 (zi K)))) ∧ (r1 = 0 → K (-1) V1))) : vMI E d M_X12_bests [sl 6 0, wi x1] V K := by
  intro G A hR
  obtain ⟨L, P, rfl, hS⟩ := hR
  have hx := Xt.refl (V := pl G A L P) (A := A)
  show wpM E d M_X12_bests [vr (A 6 0), vi x1] G _
  refine wpM_of mk_X12_bests (Nat.le_of_ble_eq_true rfl) ?_
  refine v_X12_bests_0 h0 ?_
  refine ⟨hS.o (s6_0 hS), ?_⟩
  refine wpM.mono (h G A ⟨L, P, rfl, hS⟩) (fun rr1 G1 hr => ?_)
  obtain ⟨A1, W1, w1, ⟨L1, P1, rfl, hS1⟩, hy1, rfl, r1, rfl, h⟩ := hr
  refine ⟨r1, rfl, ?_⟩
  have hx1 := Xt.trans hx hy1
  have ee2 : A1 6 0 = A 6 0 := hy1.2 _ _ hS.1.2.1 (((n6_0 hS1)).trans ((n6_0 hS)).symm)
  try rw [← ee2]
  refine ⟨fun hc => ?_, fun hc => ?_⟩
  · have h := h.1 hc
    refine ⟨hS1.o (s6_0 hS1), ?_⟩
    refine wpM.mono (h G1 A1 ⟨L1, P1, rfl, hS1⟩) (fun rr3 G3 hr => ?_)
    obtain ⟨A3, W3, w3, ⟨L3, P3, rfl, hS3⟩, hy3, rfl, rfl, h⟩ := hr
    refine ⟨rfl, ?_⟩
    have hx3 := Xt.trans hx1 hy3
    have ee4 : A3 6 0 = A1 6 0 := hy3.2 _ _ hS1.1.2.1 (((n6_0 hS3)).trans ((n6_0 hS1)).symm)
    try rw [← ee4]
    refine ⟨hS3.o (s6_0 hS3), ?_⟩
    refine wpM.mono (h G3 A3 ⟨L3, P3, rfl, hS3⟩) (fun rr5 G5 hr => ?_)
    obtain ⟨A5, W5, w5, ⟨L5, P5, rfl, hS5⟩, hy5, rfl, r5, rfl, h⟩ := hr
    refine ⟨r5, rfl, ?_⟩
    have hx5 := Xt.trans hx3 hy5
    have ee6 : A5 6 0 = A3 6 0 := hy5.2 _ _ hS3.1.2.1 (((n6_0 hS5)).trans ((n6_0 hS3)).symm)
    try rw [← ee6]
    exact wp.mono (h G5 A5 ⟨L5, P5, rfl, hS5⟩) (fun r G' q => qx_trans hx5 q)
  · have h := h.2 hc
    exact qx_i hS1 hx1 h
theorem w_X12_best_0 {E : EE} {d : Nat} {V : VH} {K : Int64 → VH → Prop} {x1 : Int32} {x2 : Int32}  (h0 : 0 < d) (h : vMI E (d - 1) M_X12_isProblem [sl 6 0, wi x1] V (fun r1 V1 => (r1 = 0 → K (-9223372036854775808) V1) ∧ (¬ (r1 = 0) → vMI E (d - 1) M_X12_isLevel [wi x2] V1 (fun r3 V3 => (¬ r3 = 0 → vMV E (d - 1) M_X12_know [sl 6 0, wi x1] V3 (fun V5 => vMI E (d - 1) M_X12_firstBest [sl 6 0, wi x1, wi (-1), wi 0] V5 (fun r7 V7 => (0 ≤ r7 → vp_in ((20000 * x2) + r7) 60000 ∧ (K (vJ V7 6 45 (Int32.toNatClampNeg ((20000 * x2) + r7))) V7)) ∧ (¬ (0 ≤ r7) → K (-9223372036854775808) V7)))) ∧ (r3 = 0 → K (-9223372036854775808) V3))))) : vMJ E d M_X12_best [sl 6 0, wi x1, wi x2] V K := by
  intro G A hR
  obtain ⟨L, P, rfl, hS⟩ := hR
  have hx := Xt.refl (V := pl G A L P) (A := A)
  show wpM E d M_X12_best [vr (A 6 0), vi x1, vi x2] G _
  refine wpM_of mk_X12_best (Nat.le_of_ble_eq_true rfl) ?_
  refine v_X12_best_0 h0 ?_
  refine ⟨hS.o (s6_0 hS), ?_⟩
  refine wpM.mono (h G A ⟨L, P, rfl, hS⟩) (fun rr1 G1 hr => ?_)
  obtain ⟨A1, W1, w1, ⟨L1, P1, rfl, hS1⟩, hy1, rfl, r1, rfl, h⟩ := hr
  refine ⟨r1, rfl, ?_⟩
  have hx1 := Xt.trans hx hy1
  have ee2 : A1 6 0 = A 6 0 := hy1.2 _ _ hS.1.2.1 (((n6_0 hS1)).trans ((n6_0 hS)).symm)
  try rw [← ee2]
  refine ⟨fun hc => ?_, fun hc => ?_⟩
  · have h := h.1 hc
    exact qx_j hS1 hx1 h
  · have h := h.2 hc
    refine wpM.mono (h G1 A1 ⟨L1, P1, rfl, hS1⟩) (fun rr3 G3 hr => ?_)
    obtain ⟨A3, W3, w3, ⟨L3, P3, rfl, hS3⟩, hy3, rfl, r3, rfl, h⟩ := hr
    refine ⟨r3, rfl, ?_⟩
    have hx3 := Xt.trans hx1 hy3
    have ee4 : A3 6 0 = A1 6 0 := hy3.2 _ _ hS1.1.2.1 (((n6_0 hS3)).trans ((n6_0 hS1)).symm)
    try rw [← ee4]
    refine ⟨fun hc => ?_, fun hc => ?_⟩
    · have h := h.1 hc
      refine ⟨hS3.o (s6_0 hS3), ?_⟩
      refine wpM.mono (h G3 A3 ⟨L3, P3, rfl, hS3⟩) (fun rr5 G5 hr => ?_)
      obtain ⟨A5, W5, w5, ⟨L5, P5, rfl, hS5⟩, hy5, rfl, rfl, h⟩ := hr
      refine ⟨rfl, ?_⟩
      have hx5 := Xt.trans hx3 hy5
      have ee6 : A5 6 0 = A3 6 0 := hy5.2 _ _ hS3.1.2.1 (((n6_0 hS5)).trans ((n6_0 hS3)).symm)
      try rw [← ee6]
      refine ⟨hS5.o (s6_0 hS5), ?_⟩
      refine wpM.mono (h G5 A5 ⟨L5, P5, rfl, hS5⟩) (fun rr7 G7 hr => ?_)
      obtain ⟨A7, W7, w7, ⟨L7, P7, rfl, hS7⟩, hy7, rfl, r7, rfl, h⟩ := hr
      refine ⟨r7, rfl, ?_⟩
      have hx7 := Xt.trans hx5 hy7
      have ee8 : A7 6 0 = A5 6 0 := hy7.2 _ _ hS5.1.2.1 (((n6_0 hS7)).trans ((n6_0 hS5)).symm)
      try rw [← ee8]
      refine ⟨fun hc => ?_, fun hc => ?_⟩
      · have h := h.1 hc
        refine ⟨hS7.o (s6_0 hS7), ?_⟩
        rw [l6_0_66 hS7]
        refine ⟨hS7.o (s6_45 hS7), ?_⟩
        obtain ⟨hi9, h⟩ := h
        refine ⟨by first | (rw [(n6_45 hS7)]; exact hi9) | exact (congrArg (vp_in _) (n6_45 hS7)).mpr hi9 | exact hi9, ?_⟩
        exact qx_j hS7 hx7 h
      · have h := h.2 hc
        exact qx_j hS7 hx7 h
    · have h := h.2 hc
      exact qx_j hS3 hx3 h
theorem w_X12_solve_0 {E : EE} {d : Nat} {V : VH} {K : Int32 → VH → Prop} {x1 : Int32}  (h0 : 0 < d) (h : vMI E (d - 1) M_X12_isProblem [sl 6 0, wi x1] V (fun r1 V1 => (¬ r1 = 0 → vMV E (d - 1) M_X12_know [sl 6 0, wi x1] V1 (fun V3 => vMI E (d - 1) M_X12_firstBest [sl 6 0, wi x1, wi (-1), wi 0] V3 (fun r5 V5 => (0 ≤ r5 → vMV E (d - 1) M_X12_putAtHand [sl 6 0, wi x1, wi r5] V5 (fun V7 => K 1 V7)) ∧ (¬ (0 ≤ r5) → K 0 V5)))) ∧ (r1 = 0 → K (-1) V1))) : vMI E d M_X12_solve [sl 6 0, wi x1] V K := by
  intro G A hR
  obtain ⟨L, P, rfl, hS⟩ := hR
  have hx := Xt.refl (V := pl G A L P) (A := A)
  show wpM E d M_X12_solve [vr (A 6 0), vi x1] G _
  refine wpM_of mk_X12_solve (Nat.le_of_ble_eq_true rfl) ?_
  refine v_X12_solve_0 h0 ?_
  refine ⟨hS.o (s6_0 hS), ?_⟩
  refine wpM.mono (h G A ⟨L, P, rfl, hS⟩) (fun rr1 G1 hr => ?_)
  obtain ⟨A1, W1, w1, ⟨L1, P1, rfl, hS1⟩, hy1, rfl, r1, rfl, h⟩ := hr
  refine ⟨r1, rfl, ?_⟩
  have hx1 := Xt.trans hx hy1
  have ee2 : A1 6 0 = A 6 0 := hy1.2 _ _ hS.1.2.1 (((n6_0 hS1)).trans ((n6_0 hS)).symm)
  try rw [← ee2]
  refine ⟨fun hc => ?_, fun hc => ?_⟩
  · have h := h.1 hc
    refine ⟨hS1.o (s6_0 hS1), ?_⟩
    refine wpM.mono (h G1 A1 ⟨L1, P1, rfl, hS1⟩) (fun rr3 G3 hr => ?_)
    obtain ⟨A3, W3, w3, ⟨L3, P3, rfl, hS3⟩, hy3, rfl, rfl, h⟩ := hr
    refine ⟨rfl, ?_⟩
    have hx3 := Xt.trans hx1 hy3
    have ee4 : A3 6 0 = A1 6 0 := hy3.2 _ _ hS1.1.2.1 (((n6_0 hS3)).trans ((n6_0 hS1)).symm)
    try rw [← ee4]
    refine ⟨hS3.o (s6_0 hS3), ?_⟩
    refine wpM.mono (h G3 A3 ⟨L3, P3, rfl, hS3⟩) (fun rr5 G5 hr => ?_)
    obtain ⟨A5, W5, w5, ⟨L5, P5, rfl, hS5⟩, hy5, rfl, r5, rfl, h⟩ := hr
    refine ⟨r5, rfl, ?_⟩
    have hx5 := Xt.trans hx3 hy5
    have ee6 : A5 6 0 = A3 6 0 := hy5.2 _ _ hS3.1.2.1 (((n6_0 hS5)).trans ((n6_0 hS3)).symm)
    try rw [← ee6]
    refine ⟨fun hc => ?_, fun hc => ?_⟩
    · have h := h.1 hc
      refine ⟨hS5.o (s6_0 hS5), ?_⟩
      refine wpM.mono (h G5 A5 ⟨L5, P5, rfl, hS5⟩) (fun rr7 G7 hr => ?_)
      obtain ⟨A7, W7, w7, ⟨L7, P7, rfl, hS7⟩, hy7, rfl, rfl, h⟩ := hr
      refine ⟨rfl, ?_⟩
      have hx7 := Xt.trans hx5 hy7
      have ee8 : A7 6 0 = A5 6 0 := hy7.2 _ _ hS5.1.2.1 (((n6_0 hS7)).trans ((n6_0 hS5)).symm)
      try rw [← ee8]
      exact qx_i hS7 hx7 h
    · have h := h.2 hc
      exact qx_i hS5 hx5 h
  · have h := h.2 hc
    exact qx_i hS1 hx1 h
theorem w_X12_hopeless_0 {E : EE} {d : Nat} {V : VH} {K : Int32 → VH → Prop} {x1 : Int32}  (h0 : 0 < d) (h : vMI E (d - 1) M_X12_isProblem [sl 6 0, wi x1] V (fun r1 V1 => (¬ r1 = 0 → vMV E (d - 1) M_X12_know [sl 6 0, wi x1] V1 (fun V3 => vwp E d M_X12_hopeless 17 [some (sl 6 0), some (wi x1), some (wi 0), none, none] [] V3 (zi K))) ∧ (r1 = 0 → K (-1) V1))) : vMI E d M_X12_hopeless [sl 6 0, wi x1] V K := by
  intro G A hR
  obtain ⟨L, P, rfl, hS⟩ := hR
  have hx := Xt.refl (V := pl G A L P) (A := A)
  show wpM E d M_X12_hopeless [vr (A 6 0), vi x1] G _
  refine wpM_of mk_X12_hopeless (Nat.le_of_ble_eq_true rfl) ?_
  refine v_X12_hopeless_0 h0 ?_
  refine ⟨hS.o (s6_0 hS), ?_⟩
  refine wpM.mono (h G A ⟨L, P, rfl, hS⟩) (fun rr1 G1 hr => ?_)
  obtain ⟨A1, W1, w1, ⟨L1, P1, rfl, hS1⟩, hy1, rfl, r1, rfl, h⟩ := hr
  refine ⟨r1, rfl, ?_⟩
  have hx1 := Xt.trans hx hy1
  have ee2 : A1 6 0 = A 6 0 := hy1.2 _ _ hS.1.2.1 (((n6_0 hS1)).trans ((n6_0 hS)).symm)
  try rw [← ee2]
  refine ⟨fun hc => ?_, fun hc => ?_⟩
  · have h := h.1 hc
    refine ⟨hS1.o (s6_0 hS1), ?_⟩
    refine wpM.mono (h G1 A1 ⟨L1, P1, rfl, hS1⟩) (fun rr3 G3 hr => ?_)
    obtain ⟨A3, W3, w3, ⟨L3, P3, rfl, hS3⟩, hy3, rfl, rfl, h⟩ := hr
    refine ⟨rfl, ?_⟩
    have hx3 := Xt.trans hx1 hy3
    have ee4 : A3 6 0 = A1 6 0 := hy3.2 _ _ hS1.1.2.1 (((n6_0 hS3)).trans ((n6_0 hS1)).symm)
    try rw [← ee4]
    exact wp.mono (h G3 A3 ⟨L3, P3, rfl, hS3⟩) (fun r G' q => qx_trans hx3 q)
  · have h := h.2 hc
    exact qx_i hS1 hx1 h
theorem w_X12_isLeft_0 {E : EE} {d : Nat} {V : VH} {K : Int32 → VH → Prop} {x1 : Int32} {x2 : Int32} {x3 : Int32}  (h0 : 0 < d) (h : vMI E (d - 1) M_X12_isVar [sl 6 0, wi x1, wi x2] V (fun r1 V1 => (r1 = 0 → K 0 V1) ∧ (¬ (r1 = 0) → (x3 < 0 → K 0 V1) ∧ (¬ (x3 < 0) → vp_in ((12 * x1) + x2) 60 ∧ ((x3 < (vI V1 6 16 (Int32.toNatClampNeg ((12 * x1) + x2))) → vMV E (d - 1) M_X12_findLeft [sl 6 0, wi x1] V1 (fun V4 => vp_in ((20 * x2) + x3) 240 ∧ (bz (vI V4 6 46 (Int32.toNatClampNeg ((20 * x2) + x3))) ∧ K (vI V4 6 46 (Int32.toNatClampNeg ((20 * x2) + x3))) V4))) ∧ (¬ (x3 < (vI V1 6 16 (Int32.toNatClampNeg ((12 * x1) + x2)))) → K 0 V1)))))) : vMI E d M_X12_isLeft [sl 6 0, wi x1, wi x2, wi x3] V K := by
  intro G A hR
  obtain ⟨L, P, rfl, hS⟩ := hR
  have hx := Xt.refl (V := pl G A L P) (A := A)
  show wpM E d M_X12_isLeft [vr (A 6 0), vi x1, vi x2, vi x3] G _
  refine wpM_of mk_X12_isLeft (Nat.le_of_ble_eq_true rfl) ?_
  refine v_X12_isLeft_0 h0 ?_
  refine ⟨hS.o (s6_0 hS), ?_⟩
  refine wpM.mono (h G A ⟨L, P, rfl, hS⟩) (fun rr1 G1 hr => ?_)
  obtain ⟨A1, W1, w1, ⟨L1, P1, rfl, hS1⟩, hy1, rfl, r1, rfl, h⟩ := hr
  refine ⟨r1, rfl, ?_⟩
  have hx1 := Xt.trans hx hy1
  have ee2 : A1 6 0 = A 6 0 := hy1.2 _ _ hS.1.2.1 (((n6_0 hS1)).trans ((n6_0 hS)).symm)
  try rw [← ee2]
  refine ⟨fun hc => ?_, fun hc => ?_⟩
  · have h := h.1 hc
    exact qx_i hS1 hx1 h
  · have h := h.2 hc
    refine ⟨fun hc => ?_, fun hc => ?_⟩
    · have h := h.1 hc
      exact qx_i hS1 hx1 h
    · have h := h.2 hc
      refine ⟨hS1.o (s6_0 hS1), ?_⟩
      rw [l6_0_19 hS1]
      refine ⟨hS1.o (s6_16 hS1), ?_⟩
      obtain ⟨hi3, h⟩ := h
      refine ⟨by first | (rw [(n6_16 hS1)]; exact hi3) | exact (congrArg (vp_in _) (n6_16 hS1)).mpr hi3 | exact hi3, ?_⟩
      refine ⟨fun hc => ?_, fun hc => ?_⟩
      · have h := h.1 hc
        refine wpM.mono (h G1 A1 ⟨L1, P1, rfl, hS1⟩) (fun rr4 G4 hr => ?_)
        obtain ⟨A4, W4, w4, ⟨L4, P4, rfl, hS4⟩, hy4, rfl, rfl, h⟩ := hr
        refine ⟨rfl, ?_⟩
        have hx4 := Xt.trans hx1 hy4
        have ee5 : A4 6 0 = A1 6 0 := hy4.2 _ _ hS1.1.2.1 (((n6_0 hS4)).trans ((n6_0 hS1)).symm)
        try rw [← ee5]
        refine ⟨hS4.o (s6_0 hS4), ?_⟩
        rw [l6_0_67 hS4]
        refine ⟨hS4.o (s6_46 hS4), ?_⟩
        obtain ⟨hi6, h⟩ := h
        refine ⟨by first | (rw [(n6_46 hS4)]; exact hi6) | exact (congrArg (vp_in _) (n6_46 hS4)).mpr hi6 | exact hi6, ?_⟩
        exact ⟨bz_ok h.1, qx_i hS4 hx4 h.2⟩
      · have h := h.2 hc
        exact qx_i hS1 hx1 h
theorem w_X12_reach_0 {E : EE} {d : Nat} {V : VH} {K : Int32 → VH → Prop} {x1 : Int32}  (h0 : 0 < d) (h : vMI E (d - 1) M_X12_isProblem [sl 6 0, wi x1] V (fun r1 V1 => (¬ r1 = 0 → vMV E (d - 1) M_X12_findLeft [sl 6 0, wi x1] V1 (fun V3 => vwp E d M_X12_reach 19 [some (sl 6 0), some (wi x1), some (wi 0), some (wi 0), none] [] V3 (zi K))) ∧ (r1 = 0 → K (-1) V1))) : vMI E d M_X12_reach [sl 6 0, wi x1] V K := by
  intro G A hR
  obtain ⟨L, P, rfl, hS⟩ := hR
  have hx := Xt.refl (V := pl G A L P) (A := A)
  show wpM E d M_X12_reach [vr (A 6 0), vi x1] G _
  refine wpM_of mk_X12_reach (Nat.le_of_ble_eq_true rfl) ?_
  refine v_X12_reach_0 h0 ?_
  refine ⟨hS.o (s6_0 hS), ?_⟩
  refine wpM.mono (h G A ⟨L, P, rfl, hS⟩) (fun rr1 G1 hr => ?_)
  obtain ⟨A1, W1, w1, ⟨L1, P1, rfl, hS1⟩, hy1, rfl, r1, rfl, h⟩ := hr
  refine ⟨r1, rfl, ?_⟩
  have hx1 := Xt.trans hx hy1
  have ee2 : A1 6 0 = A 6 0 := hy1.2 _ _ hS.1.2.1 (((n6_0 hS1)).trans ((n6_0 hS)).symm)
  try rw [← ee2]
  refine ⟨fun hc => ?_, fun hc => ?_⟩
  · have h := h.1 hc
    refine ⟨hS1.o (s6_0 hS1), ?_⟩
    refine wpM.mono (h G1 A1 ⟨L1, P1, rfl, hS1⟩) (fun rr3 G3 hr => ?_)
    obtain ⟨A3, W3, w3, ⟨L3, P3, rfl, hS3⟩, hy3, rfl, rfl, h⟩ := hr
    refine ⟨rfl, ?_⟩
    have hx3 := Xt.trans hx1 hy3
    have ee4 : A3 6 0 = A1 6 0 := hy3.2 _ _ hS1.1.2.1 (((n6_0 hS3)).trans ((n6_0 hS1)).symm)
    try rw [← ee4]
    exact wp.mono (h G3 A3 ⟨L3, P3, rfl, hS3⟩) (fun r G' q => qx_trans hx3 q)
  · have h := h.2 hc
    exact qx_i hS1 hx1 h
theorem w_X12_feasible_0 {E : EE} {d : Nat} {V : VH} {K : Int32 → VH → Prop} {x1 : Int32}  (h0 : 0 < d) (h : vMI E (d - 1) M_X12_isProblem [sl 6 0, wi x1] V (fun r1 V1 => (¬ r1 = 0 → vMV E (d - 1) M_X12_know [sl 6 0, wi x1] V1 (fun V3 => vMI E (d - 1) M_X12_handOf [sl 6 0, wi x1] V3 (fun r5 V5 => vMI E (d - 1) M_X12_isFeasible [sl 6 0, wi r5] V5 (fun r7 V7 => bz r7 ∧ K r7 V7)))) ∧ (r1 = 0 → K 0 V1))) : vMI E d M_X12_feasible [sl 6 0, wi x1] V K := by
  intro G A hR
  obtain ⟨L, P, rfl, hS⟩ := hR
  have hx := Xt.refl (V := pl G A L P) (A := A)
  show wpM E d M_X12_feasible [vr (A 6 0), vi x1] G _
  refine wpM_of mk_X12_feasible (Nat.le_of_ble_eq_true rfl) ?_
  refine v_X12_feasible_0 h0 ?_
  refine ⟨hS.o (s6_0 hS), ?_⟩
  refine wpM.mono (h G A ⟨L, P, rfl, hS⟩) (fun rr1 G1 hr => ?_)
  obtain ⟨A1, W1, w1, ⟨L1, P1, rfl, hS1⟩, hy1, rfl, r1, rfl, h⟩ := hr
  refine ⟨r1, rfl, ?_⟩
  have hx1 := Xt.trans hx hy1
  have ee2 : A1 6 0 = A 6 0 := hy1.2 _ _ hS.1.2.1 (((n6_0 hS1)).trans ((n6_0 hS)).symm)
  try rw [← ee2]
  refine ⟨fun hc => ?_, fun hc => ?_⟩
  · have h := h.1 hc
    refine ⟨hS1.o (s6_0 hS1), ?_⟩
    refine wpM.mono (h G1 A1 ⟨L1, P1, rfl, hS1⟩) (fun rr3 G3 hr => ?_)
    obtain ⟨A3, W3, w3, ⟨L3, P3, rfl, hS3⟩, hy3, rfl, rfl, h⟩ := hr
    refine ⟨rfl, ?_⟩
    have hx3 := Xt.trans hx1 hy3
    have ee4 : A3 6 0 = A1 6 0 := hy3.2 _ _ hS1.1.2.1 (((n6_0 hS3)).trans ((n6_0 hS1)).symm)
    try rw [← ee4]
    refine ⟨hS3.o (s6_0 hS3), ?_⟩
    refine wpM.mono (h G3 A3 ⟨L3, P3, rfl, hS3⟩) (fun rr5 G5 hr => ?_)
    obtain ⟨A5, W5, w5, ⟨L5, P5, rfl, hS5⟩, hy5, rfl, r5, rfl, h⟩ := hr
    refine ⟨r5, rfl, ?_⟩
    have hx5 := Xt.trans hx3 hy5
    have ee6 : A5 6 0 = A3 6 0 := hy5.2 _ _ hS3.1.2.1 (((n6_0 hS5)).trans ((n6_0 hS3)).symm)
    try rw [← ee6]
    refine ⟨hS5.o (s6_0 hS5), ?_⟩
    refine wpM.mono (h G5 A5 ⟨L5, P5, rfl, hS5⟩) (fun rr7 G7 hr => ?_)
    obtain ⟨A7, W7, w7, ⟨L7, P7, rfl, hS7⟩, hy7, rfl, r7, rfl, h⟩ := hr
    refine ⟨r7, rfl, ?_⟩
    have hx7 := Xt.trans hx5 hy7
    have ee8 : A7 6 0 = A5 6 0 := hy7.2 _ _ hS5.1.2.1 (((n6_0 hS7)).trans ((n6_0 hS5)).symm)
    try rw [← ee8]
    exact ⟨bz_ok h.1, qx_i hS7 hx7 h.2⟩
  · have h := h.2 hc
    exact qx_i hS1 hx1 h
theorem w_X12_score_0 {E : EE} {d : Nat} {V : VH} {K : Int64 → VH → Prop} {x1 : Int32} {x2 : Int32}  (h0 : 0 < d) (h : vMI E (d - 1) M_X12_isProblem [sl 6 0, wi x1] V (fun r1 V1 => (r1 = 0 → K (-9223372036854775808) V1) ∧ (¬ (r1 = 0) → vMI E (d - 1) M_X12_isLevel [wi x2] V1 (fun r3 V3 => (¬ r3 = 0 → vMV E (d - 1) M_X12_know [sl 6 0, wi x1] V3 (fun V5 => vMI E (d - 1) M_X12_handOf [sl 6 0, wi x1] V5 (fun r7 V7 => vp_in ((20000 * x2) + r7) 60000 ∧ (K (vJ V7 6 45 (Int32.toNatClampNeg ((20000 * x2) + r7))) V7)))) ∧ (r3 = 0 → K (-9223372036854775808) V3))))) : vMJ E d M_X12_score [sl 6 0, wi x1, wi x2] V K := by
  intro G A hR
  obtain ⟨L, P, rfl, hS⟩ := hR
  have hx := Xt.refl (V := pl G A L P) (A := A)
  show wpM E d M_X12_score [vr (A 6 0), vi x1, vi x2] G _
  refine wpM_of mk_X12_score (Nat.le_of_ble_eq_true rfl) ?_
  refine v_X12_score_0 h0 ?_
  refine ⟨hS.o (s6_0 hS), ?_⟩
  refine wpM.mono (h G A ⟨L, P, rfl, hS⟩) (fun rr1 G1 hr => ?_)
  obtain ⟨A1, W1, w1, ⟨L1, P1, rfl, hS1⟩, hy1, rfl, r1, rfl, h⟩ := hr
  refine ⟨r1, rfl, ?_⟩
  have hx1 := Xt.trans hx hy1
  have ee2 : A1 6 0 = A 6 0 := hy1.2 _ _ hS.1.2.1 (((n6_0 hS1)).trans ((n6_0 hS)).symm)
  try rw [← ee2]
  refine ⟨fun hc => ?_, fun hc => ?_⟩
  · have h := h.1 hc
    exact qx_j hS1 hx1 h
  · have h := h.2 hc
    refine wpM.mono (h G1 A1 ⟨L1, P1, rfl, hS1⟩) (fun rr3 G3 hr => ?_)
    obtain ⟨A3, W3, w3, ⟨L3, P3, rfl, hS3⟩, hy3, rfl, r3, rfl, h⟩ := hr
    refine ⟨r3, rfl, ?_⟩
    have hx3 := Xt.trans hx1 hy3
    have ee4 : A3 6 0 = A1 6 0 := hy3.2 _ _ hS1.1.2.1 (((n6_0 hS3)).trans ((n6_0 hS1)).symm)
    try rw [← ee4]
    refine ⟨fun hc => ?_, fun hc => ?_⟩
    · have h := h.1 hc
      refine ⟨hS3.o (s6_0 hS3), ?_⟩
      refine wpM.mono (h G3 A3 ⟨L3, P3, rfl, hS3⟩) (fun rr5 G5 hr => ?_)
      obtain ⟨A5, W5, w5, ⟨L5, P5, rfl, hS5⟩, hy5, rfl, rfl, h⟩ := hr
      refine ⟨rfl, ?_⟩
      have hx5 := Xt.trans hx3 hy5
      have ee6 : A5 6 0 = A3 6 0 := hy5.2 _ _ hS3.1.2.1 (((n6_0 hS5)).trans ((n6_0 hS3)).symm)
      try rw [← ee6]
      refine ⟨hS5.o (s6_0 hS5), ?_⟩
      rw [l6_0_66 hS5]
      refine wpM.mono (h G5 A5 ⟨L5, P5, rfl, hS5⟩) (fun rr7 G7 hr => ?_)
      obtain ⟨A7, W7, w7, ⟨L7, P7, rfl, hS7⟩, hy7, rfl, r7, rfl, h⟩ := hr
      refine ⟨r7, rfl, ?_⟩
      have hx7 := Xt.trans hx5 hy7
      have ee8 : A7 6 0 = A5 6 0 := hy7.2 _ _ hS5.1.2.1 (((n6_0 hS7)).trans ((n6_0 hS5)).symm)
      try rw [← ee8]
      have ee9 : A7 6 45 = A5 6 45 := hy7.2 _ _ hS5.1.2.1 (((n6_45 hS7)).trans ((n6_45 hS5)).symm)
      try rw [← ee9]
      refine ⟨hS7.o (s6_45 hS7), ?_⟩
      obtain ⟨hi10, h⟩ := h
      refine ⟨by first | (rw [(n6_45 hS7)]; exact hi10) | exact (congrArg (vp_in _) (n6_45 hS7)).mpr hi10 | exact hi10, ?_⟩
      exact qx_j hS7 hx7 h
    · have h := h.2 hc
      exact qx_j hS3 hx3 h
theorem w_X12_aim_0 {E : EE} {d : Nat} {V : VH} {K : Int64 → VH → Prop} {x1 : Int32} {x2 : Int32}  (h0 : 0 < d) (h : vMI E (d - 1) M_X12_isProblem [sl 6 0, wi x1] V (fun r1 V1 => (r1 = 0 → K (-9223372036854775808) V1) ∧ (¬ (r1 = 0) → (x2 < 0 → K (-9223372036854775808) V1) ∧ (¬ (x2 < 0) → vMI E (d - 1) M_X12_aimsOf [sl 6 0, wi x1] V1 (fun r3 V3 => (x2 < r3 → vMV E (d - 1) M_X12_know [sl 6 0, wi x1] V3 (fun V5 => vMI E (d - 1) M_X12_handOf [sl 6 0, wi x1] V5 (fun r7 V7 => vp_in ((20000 * x2) + r7) 120000 ∧ (K (Int32.toInt64 (vI V7 6 44 (Int32.toNatClampNeg ((20000 * x2) + r7)))) V7)))) ∧ (¬ (x2 < r3) → K (-9223372036854775808) V3)))))) : vMJ E d M_X12_aim [sl 6 0, wi x1, wi x2] V K := by
  intro G A hR
  obtain ⟨L, P, rfl, hS⟩ := hR
  have hx := Xt.refl (V := pl G A L P) (A := A)
  show wpM E d M_X12_aim [vr (A 6 0), vi x1, vi x2] G _
  refine wpM_of mk_X12_aim (Nat.le_of_ble_eq_true rfl) ?_
  refine v_X12_aim_0 h0 ?_
  refine ⟨hS.o (s6_0 hS), ?_⟩
  refine wpM.mono (h G A ⟨L, P, rfl, hS⟩) (fun rr1 G1 hr => ?_)
  obtain ⟨A1, W1, w1, ⟨L1, P1, rfl, hS1⟩, hy1, rfl, r1, rfl, h⟩ := hr
  refine ⟨r1, rfl, ?_⟩
  have hx1 := Xt.trans hx hy1
  have ee2 : A1 6 0 = A 6 0 := hy1.2 _ _ hS.1.2.1 (((n6_0 hS1)).trans ((n6_0 hS)).symm)
  try rw [← ee2]
  refine ⟨fun hc => ?_, fun hc => ?_⟩
  · have h := h.1 hc
    exact qx_j hS1 hx1 h
  · have h := h.2 hc
    refine ⟨fun hc => ?_, fun hc => ?_⟩
    · have h := h.1 hc
      exact qx_j hS1 hx1 h
    · have h := h.2 hc
      refine ⟨hS1.o (s6_0 hS1), ?_⟩
      refine wpM.mono (h G1 A1 ⟨L1, P1, rfl, hS1⟩) (fun rr3 G3 hr => ?_)
      obtain ⟨A3, W3, w3, ⟨L3, P3, rfl, hS3⟩, hy3, rfl, r3, rfl, h⟩ := hr
      refine ⟨r3, rfl, ?_⟩
      have hx3 := Xt.trans hx1 hy3
      have ee4 : A3 6 0 = A1 6 0 := hy3.2 _ _ hS1.1.2.1 (((n6_0 hS3)).trans ((n6_0 hS1)).symm)
      try rw [← ee4]
      refine ⟨fun hc => ?_, fun hc => ?_⟩
      · have h := h.1 hc
        refine ⟨hS3.o (s6_0 hS3), ?_⟩
        refine wpM.mono (h G3 A3 ⟨L3, P3, rfl, hS3⟩) (fun rr5 G5 hr => ?_)
        obtain ⟨A5, W5, w5, ⟨L5, P5, rfl, hS5⟩, hy5, rfl, rfl, h⟩ := hr
        refine ⟨rfl, ?_⟩
        have hx5 := Xt.trans hx3 hy5
        have ee6 : A5 6 0 = A3 6 0 := hy5.2 _ _ hS3.1.2.1 (((n6_0 hS5)).trans ((n6_0 hS3)).symm)
        try rw [← ee6]
        refine ⟨hS5.o (s6_0 hS5), ?_⟩
        rw [l6_0_65 hS5]
        refine wpM.mono (h G5 A5 ⟨L5, P5, rfl, hS5⟩) (fun rr7 G7 hr => ?_)
        obtain ⟨A7, W7, w7, ⟨L7, P7, rfl, hS7⟩, hy7, rfl, r7, rfl, h⟩ := hr
        refine ⟨r7, rfl, ?_⟩
        have hx7 := Xt.trans hx5 hy7
        have ee8 : A7 6 0 = A5 6 0 := hy7.2 _ _ hS5.1.2.1 (((n6_0 hS7)).trans ((n6_0 hS5)).symm)
        try rw [← ee8]
        have ee9 : A7 6 44 = A5 6 44 := hy7.2 _ _ hS5.1.2.1 (((n6_44 hS7)).trans ((n6_44 hS5)).symm)
        try rw [← ee9]
        refine ⟨hS7.o (s6_44 hS7), ?_⟩
        obtain ⟨hi10, h⟩ := h
        refine ⟨by first | (rw [(n6_44 hS7)]; exact hi10) | exact (congrArg (vp_in _) (n6_44 hS7)).mpr hi10 | exact hi10, ?_⟩
        exact qx_j hS7 hx7 h
      · have h := h.2 hc
        exact qx_j hS3 hx3 h
theorem w_X12_broken_0 {E : EE} {d : Nat} {V : VH} {K : Int32 → VH → Prop} {x1 : Int32} {x2 : Int32}  (h0 : 0 < d) (h : vMI E (d - 1) M_X12_isRule [sl 6 0, wi x1, wi x2] V (fun r1 V1 => (¬ r1 = 0 → vMV E (d - 1) M_X12_know [sl 6 0, wi x1] V1 (fun V3 => vMI E (d - 1) M_X12_handOf [sl 6 0, wi x1] V3 (fun r5 V5 => vp_in ((20000 * x2) + r5) 480000 ∧ (K (vI V5 6 43 (Int32.toNatClampNeg ((20000 * x2) + r5))) V5)))) ∧ (r1 = 0 → K (-1) V1))) : vMI E d M_X12_broken [sl 6 0, wi x1, wi x2] V K := by
  intro G A hR
  obtain ⟨L, P, rfl, hS⟩ := hR
  have hx := Xt.refl (V := pl G A L P) (A := A)
  show wpM E d M_X12_broken [vr (A 6 0), vi x1, vi x2] G _
  refine wpM_of mk_X12_broken (Nat.le_of_ble_eq_true rfl) ?_
  refine v_X12_broken_0 h0 ?_
  refine ⟨hS.o (s6_0 hS), ?_⟩
  refine wpM.mono (h G A ⟨L, P, rfl, hS⟩) (fun rr1 G1 hr => ?_)
  obtain ⟨A1, W1, w1, ⟨L1, P1, rfl, hS1⟩, hy1, rfl, r1, rfl, h⟩ := hr
  refine ⟨r1, rfl, ?_⟩
  have hx1 := Xt.trans hx hy1
  have ee2 : A1 6 0 = A 6 0 := hy1.2 _ _ hS.1.2.1 (((n6_0 hS1)).trans ((n6_0 hS)).symm)
  try rw [← ee2]
  refine ⟨fun hc => ?_, fun hc => ?_⟩
  · have h := h.1 hc
    refine ⟨hS1.o (s6_0 hS1), ?_⟩
    refine wpM.mono (h G1 A1 ⟨L1, P1, rfl, hS1⟩) (fun rr3 G3 hr => ?_)
    obtain ⟨A3, W3, w3, ⟨L3, P3, rfl, hS3⟩, hy3, rfl, rfl, h⟩ := hr
    refine ⟨rfl, ?_⟩
    have hx3 := Xt.trans hx1 hy3
    have ee4 : A3 6 0 = A1 6 0 := hy3.2 _ _ hS1.1.2.1 (((n6_0 hS3)).trans ((n6_0 hS1)).symm)
    try rw [← ee4]
    refine ⟨hS3.o (s6_0 hS3), ?_⟩
    rw [l6_0_64 hS3]
    refine wpM.mono (h G3 A3 ⟨L3, P3, rfl, hS3⟩) (fun rr5 G5 hr => ?_)
    obtain ⟨A5, W5, w5, ⟨L5, P5, rfl, hS5⟩, hy5, rfl, r5, rfl, h⟩ := hr
    refine ⟨r5, rfl, ?_⟩
    have hx5 := Xt.trans hx3 hy5
    have ee6 : A5 6 0 = A3 6 0 := hy5.2 _ _ hS3.1.2.1 (((n6_0 hS5)).trans ((n6_0 hS3)).symm)
    try rw [← ee6]
    have ee7 : A5 6 43 = A3 6 43 := hy5.2 _ _ hS3.1.2.1 (((n6_43 hS5)).trans ((n6_43 hS3)).symm)
    try rw [← ee7]
    refine ⟨hS5.o (s6_43 hS5), ?_⟩
    obtain ⟨hi8, h⟩ := h
    refine ⟨by first | (rw [(n6_43 hS5)]; exact hi8) | exact (congrArg (vp_in _) (n6_43 hS5)).mpr hi8 | exact hi8, ?_⟩
    exact qx_i hS5 hx5 h
  · have h := h.2 hc
    exact qx_i hS1 hx1 h
theorem w_X12_weigh_0 {E : EE} {d : Nat} {V : VH} {K : Int32 → VH → Prop} {x1 : Int32} {x2 : Int32} {x3 : Int32}  (h0 : 0 < d) (h : vMI E (d - 1) M_X12_isVar [sl 6 0, wi x1, wi x2] V (fun r1 V1 => (r1 = 0 → K (-1) V1) ∧ (¬ (r1 = 0) → (x3 < 0 → K (-1) V1) ∧ (¬ (x3 < 0) → (x3 ≤ 1000 → vp_in ((12 * x1) + x2) 60 ∧ (vp_in ((12 * x1) + x2) 60 ∧ (∀ V5 : VH, V5 = wrI V1 6 20 (Int32.toNatClampNeg ((12 * x1) + x2)) x3 → K (vI V1 6 20 (Int32.toNatClampNeg ((12 * x1) + x2))) V5))) ∧ (¬ (x3 ≤ 1000) → K (-1) V1))))) : vMI E d M_X12_weigh [sl 6 0, wi x1, wi x2, wi x3] V K := by
  intro G A hR
  obtain ⟨L, P, rfl, hS⟩ := hR
  have hx := Xt.refl (V := pl G A L P) (A := A)
  show wpM E d M_X12_weigh [vr (A 6 0), vi x1, vi x2, vi x3] G _
  refine wpM_of mk_X12_weigh (Nat.le_of_ble_eq_true rfl) ?_
  refine v_X12_weigh_0 h0 ?_
  refine ⟨hS.o (s6_0 hS), ?_⟩
  refine wpM.mono (h G A ⟨L, P, rfl, hS⟩) (fun rr1 G1 hr => ?_)
  obtain ⟨A1, W1, w1, ⟨L1, P1, rfl, hS1⟩, hy1, rfl, r1, rfl, h⟩ := hr
  refine ⟨r1, rfl, ?_⟩
  have hx1 := Xt.trans hx hy1
  have ee2 : A1 6 0 = A 6 0 := hy1.2 _ _ hS.1.2.1 (((n6_0 hS1)).trans ((n6_0 hS)).symm)
  try rw [← ee2]
  refine ⟨fun hc => ?_, fun hc => ?_⟩
  · have h := h.1 hc
    exact qx_i hS1 hx1 h
  · have h := h.2 hc
    refine ⟨fun hc => ?_, fun hc => ?_⟩
    · have h := h.1 hc
      exact qx_i hS1 hx1 h
    · have h := h.2 hc
      refine ⟨fun hc => ?_, fun hc => ?_⟩
      · have h := h.1 hc
        refine ⟨hS1.o (s6_0 hS1), ?_⟩
        rw [l6_0_23 hS1]
        refine ⟨hS1.o (s6_20 hS1), ?_⟩
        obtain ⟨hi3, h⟩ := h
        refine ⟨by first | (rw [(n6_20 hS1)]; exact hi3) | exact (congrArg (vp_in _) (n6_20 hS1)).mpr hi3 | exact hi3, ?_⟩
        obtain ⟨hi4, h⟩ := h
        refine ⟨by first | (rw [(n6_20 hS1)]; exact hi4) | exact (congrArg (vp_in _) (n6_20 hS1)).mpr hi4 | exact hi4, ?_⟩
        have hS5 : Sh E (sI G1 (A1 6 20) (Int32.toNatClampNeg ((12 * x1) + x2)) x3) A1 L1 P1 := Sh_sI (rfl : sI G1 (A1 6 20) (Int32.toNatClampNeg ((12 * x1) + x2)) x3 = sI G1 (A1 6 20) (Int32.toNatClampNeg ((12 * x1) + x2)) x3) hS1 (s6_20 hS1) (okT_0 rfl)
        have h := h (pl (sI G1 (A1 6 20) (Int32.toNatClampNeg ((12 * x1) + x2)) x3) A1 L1 P1) (pl_sI (rfl : sI G1 (A1 6 20) (Int32.toNatClampNeg ((12 * x1) + x2)) x3 = sI G1 (A1 6 20) (Int32.toNatClampNeg ((12 * x1) + x2)) x3) hS1 (s6_20 hS1))
        have hx5 : Xt (pl G A L P) A (pl (sI G1 (A1 6 20) (Int32.toNatClampNeg ((12 * x1) + x2)) x3) A1 L1 P1) A1 := Xt_sI (rfl : sI G1 (A1 6 20) (Int32.toNatClampNeg ((12 * x1) + x2)) x3 = sI G1 (A1 6 20) (Int32.toNatClampNeg ((12 * x1) + x2)) x3) hx1
        exact qx_i hS5 hx5 h
      · have h := h.2 hc
        exact qx_i hS1 hx1 h
theorem w_X12_pin_0 {E : EE} {d : Nat} {V : VH} {K : Int32 → VH → Prop} {x1 : Int32} {x2 : Int32} {x3 : Int32}  (h0 : 0 < d) (h : vMI E (d - 1) M_X12_isVar [sl 6 0, wi x1, wi x2] V (fun r1 V1 => (¬ r1 = 0 → vp_in ((12 * x1) + x2) 60 ∧ (vp_in ((12 * x1) + x2) 60 ∧ (∀ V5 : VH, V5 = wrI V1 6 21 (Int32.toNatClampNeg ((12 * x1) + x2)) (nz x3) → bz (vI V1 6 21 (Int32.toNatClampNeg ((12 * x1) + x2))) ∧ K (vI V1 6 21 (Int32.toNatClampNeg ((12 * x1) + x2))) V5))) ∧ (r1 = 0 → K 0 V1))) : vMI E d M_X12_pin [sl 6 0, wi x1, wi x2, wi x3] V K := by
  intro G A hR
  obtain ⟨L, P, rfl, hS⟩ := hR
  have hx := Xt.refl (V := pl G A L P) (A := A)
  show wpM E d M_X12_pin [vr (A 6 0), vi x1, vi x2, vi x3] G _
  refine wpM_of mk_X12_pin (Nat.le_of_ble_eq_true rfl) ?_
  refine v_X12_pin_0 h0 ?_
  refine ⟨hS.o (s6_0 hS), ?_⟩
  refine wpM.mono (h G A ⟨L, P, rfl, hS⟩) (fun rr1 G1 hr => ?_)
  obtain ⟨A1, W1, w1, ⟨L1, P1, rfl, hS1⟩, hy1, rfl, r1, rfl, h⟩ := hr
  refine ⟨r1, rfl, ?_⟩
  have hx1 := Xt.trans hx hy1
  have ee2 : A1 6 0 = A 6 0 := hy1.2 _ _ hS.1.2.1 (((n6_0 hS1)).trans ((n6_0 hS)).symm)
  try rw [← ee2]
  refine ⟨fun hc => ?_, fun hc => ?_⟩
  · have h := h.1 hc
    refine ⟨hS1.o (s6_0 hS1), ?_⟩
    rw [l6_0_24 hS1]
    refine ⟨hS1.o (s6_21 hS1), ?_⟩
    obtain ⟨hi3, h⟩ := h
    refine ⟨by first | (rw [(n6_21 hS1)]; exact hi3) | exact (congrArg (vp_in _) (n6_21 hS1)).mpr hi3 | exact hi3, ?_⟩
    obtain ⟨hi4, h⟩ := h
    refine ⟨by first | (rw [(n6_21 hS1)]; exact hi4) | exact (congrArg (vp_in _) (n6_21 hS1)).mpr hi4 | exact hi4, ?_⟩
    have hS5 : Sh E (sI G1 (A1 6 21) (Int32.toNatClampNeg ((12 * x1) + x2)) (nz x3)) A1 L1 P1 := Sh_sI (rfl : sI G1 (A1 6 21) (Int32.toNatClampNeg ((12 * x1) + x2)) (nz x3) = sI G1 (A1 6 21) (Int32.toNatClampNeg ((12 * x1) + x2)) (nz x3)) hS1 (s6_21 hS1) (okT_nz rfl)
    have h := h (pl (sI G1 (A1 6 21) (Int32.toNatClampNeg ((12 * x1) + x2)) (nz x3)) A1 L1 P1) (pl_sI (rfl : sI G1 (A1 6 21) (Int32.toNatClampNeg ((12 * x1) + x2)) (nz x3) = sI G1 (A1 6 21) (Int32.toNatClampNeg ((12 * x1) + x2)) (nz x3)) hS1 (s6_21 hS1))
    have hx5 : Xt (pl G A L P) A (pl (sI G1 (A1 6 21) (Int32.toNatClampNeg ((12 * x1) + x2)) (nz x3)) A1 L1 P1) A1 := Xt_sI (rfl : sI G1 (A1 6 21) (Int32.toNatClampNeg ((12 * x1) + x2)) (nz x3) = sI G1 (A1 6 21) (Int32.toNatClampNeg ((12 * x1) + x2)) (nz x3)) hx1
    exact ⟨bz_ok h.1, qx_i hS5 hx5 h.2⟩
  · have h := h.2 hc
    exact qx_i hS1 hx1 h
theorem w_X12_put_0 {E : EE} {d : Nat} {V : VH} {K : Int32 → VH → Prop} {x1 : Int32} {x2 : Int32} {x3 : Int32}  (h0 : 0 < d) (h : vMI E (d - 1) M_X12_isVar [sl 6 0, wi x1, wi x2] V (fun r1 V1 => (r1 = 0 → K 0 V1) ∧ (¬ (r1 = 0) → vMI E (d - 1) M_X12_placeOf [sl 6 0, wi x1, wi x2, wi x3] V1 (fun r3 V3 => (0 ≤ r3 → vMI E (d - 1) M_X12_placeOf [sl 6 0, wi x1, wi x2, wi x3] V3 (fun r5 V5 => vp_in ((12 * x1) + x2) 60 ∧ (∀ V9 : VH, V9 = wrI V5 6 19 (Int32.toNatClampNeg ((12 * x1) + x2)) r5 → K 1 V9))) ∧ (¬ (0 ≤ r3) → K 0 V3))))) : vMI E d M_X12_put [sl 6 0, wi x1, wi x2, wi x3] V K := by
  intro G A hR
  obtain ⟨L, P, rfl, hS⟩ := hR
  have hx := Xt.refl (V := pl G A L P) (A := A)
  show wpM E d M_X12_put [vr (A 6 0), vi x1, vi x2, vi x3] G _
  refine wpM_of mk_X12_put (Nat.le_of_ble_eq_true rfl) ?_
  refine v_X12_put_0 h0 ?_
  refine ⟨hS.o (s6_0 hS), ?_⟩
  refine wpM.mono (h G A ⟨L, P, rfl, hS⟩) (fun rr1 G1 hr => ?_)
  obtain ⟨A1, W1, w1, ⟨L1, P1, rfl, hS1⟩, hy1, rfl, r1, rfl, h⟩ := hr
  refine ⟨r1, rfl, ?_⟩
  have hx1 := Xt.trans hx hy1
  have ee2 : A1 6 0 = A 6 0 := hy1.2 _ _ hS.1.2.1 (((n6_0 hS1)).trans ((n6_0 hS)).symm)
  try rw [← ee2]
  refine ⟨fun hc => ?_, fun hc => ?_⟩
  · have h := h.1 hc
    exact qx_i hS1 hx1 h
  · have h := h.2 hc
    refine ⟨hS1.o (s6_0 hS1), ?_⟩
    refine wpM.mono (h G1 A1 ⟨L1, P1, rfl, hS1⟩) (fun rr3 G3 hr => ?_)
    obtain ⟨A3, W3, w3, ⟨L3, P3, rfl, hS3⟩, hy3, rfl, r3, rfl, h⟩ := hr
    refine ⟨r3, rfl, ?_⟩
    have hx3 := Xt.trans hx1 hy3
    have ee4 : A3 6 0 = A1 6 0 := hy3.2 _ _ hS1.1.2.1 (((n6_0 hS3)).trans ((n6_0 hS1)).symm)
    try rw [← ee4]
    refine ⟨fun hc => ?_, fun hc => ?_⟩
    · have h := h.1 hc
      refine ⟨hS3.o (s6_0 hS3), ?_⟩
      rw [l6_0_22 hS3]
      refine wpM.mono (h G3 A3 ⟨L3, P3, rfl, hS3⟩) (fun rr5 G5 hr => ?_)
      obtain ⟨A5, W5, w5, ⟨L5, P5, rfl, hS5⟩, hy5, rfl, r5, rfl, h⟩ := hr
      refine ⟨r5, rfl, ?_⟩
      have hx5 := Xt.trans hx3 hy5
      have ee6 : A5 6 0 = A3 6 0 := hy5.2 _ _ hS3.1.2.1 (((n6_0 hS5)).trans ((n6_0 hS3)).symm)
      try rw [← ee6]
      have ee7 : A5 6 19 = A3 6 19 := hy5.2 _ _ hS3.1.2.1 (((n6_19 hS5)).trans ((n6_19 hS3)).symm)
      try rw [← ee7]
      refine ⟨hS5.o (s6_19 hS5), ?_⟩
      obtain ⟨hi8, h⟩ := h
      refine ⟨by first | (rw [(n6_19 hS5)]; exact hi8) | exact (congrArg (vp_in _) (n6_19 hS5)).mpr hi8 | exact hi8, ?_⟩
      have hS9 : Sh E (sI G5 (A5 6 19) (Int32.toNatClampNeg ((12 * x1) + x2)) r5) A5 L5 P5 := Sh_sI (rfl : sI G5 (A5 6 19) (Int32.toNatClampNeg ((12 * x1) + x2)) r5 = sI G5 (A5 6 19) (Int32.toNatClampNeg ((12 * x1) + x2)) r5) hS5 (s6_19 hS5) (okT_0 rfl)
      have h := h (pl (sI G5 (A5 6 19) (Int32.toNatClampNeg ((12 * x1) + x2)) r5) A5 L5 P5) (pl_sI (rfl : sI G5 (A5 6 19) (Int32.toNatClampNeg ((12 * x1) + x2)) r5 = sI G5 (A5 6 19) (Int32.toNatClampNeg ((12 * x1) + x2)) r5) hS5 (s6_19 hS5))
      have hx9 : Xt (pl G A L P) A (pl (sI G5 (A5 6 19) (Int32.toNatClampNeg ((12 * x1) + x2)) r5) A5 L5 P5) A5 := Xt_sI (rfl : sI G5 (A5 6 19) (Int32.toNatClampNeg ((12 * x1) + x2)) r5 = sI G5 (A5 6 19) (Int32.toNatClampNeg ((12 * x1) + x2)) r5) hx5
      exact qx_i hS9 hx9 h
    · have h := h.2 hc
      exact qx_i hS3 hx3 h
theorem w_X12_value_0 {E : EE} {d : Nat} {V : VH} {K : Int64 → VH → Prop} {x1 : Int32} {x2 : Int32}  (h0 : 0 < d) (h : vMI E (d - 1) M_X12_isVar [sl 6 0, wi x1, wi x2] V (fun r1 V1 => (r1 = 0 → K (-9223372036854775808) V1) ∧ (¬ (r1 = 0) → vp_in ((12 * x1) + x2) 60 ∧ (vp_in ((20 * ((12 * x1) + x2)) + (vI V1 6 19 (Int32.toNatClampNeg ((12 * x1) + x2)))) 1200 ∧ (K (Int32.toInt64 (vI V1 6 18 (Int32.toNatClampNeg ((20 * ((12 * x1) + x2)) + (vI V1 6 19 (Int32.toNatClampNeg ((12 * x1) + x2))))))) V1))))) : vMJ E d M_X12_value [sl 6 0, wi x1, wi x2] V K := by
  intro G A hR
  obtain ⟨L, P, rfl, hS⟩ := hR
  have hx := Xt.refl (V := pl G A L P) (A := A)
  show wpM E d M_X12_value [vr (A 6 0), vi x1, vi x2] G _
  refine wpM_of mk_X12_value (Nat.le_of_ble_eq_true rfl) ?_
  refine v_X12_value_0 h0 ?_
  refine ⟨hS.o (s6_0 hS), ?_⟩
  refine wpM.mono (h G A ⟨L, P, rfl, hS⟩) (fun rr1 G1 hr => ?_)
  obtain ⟨A1, W1, w1, ⟨L1, P1, rfl, hS1⟩, hy1, rfl, r1, rfl, h⟩ := hr
  refine ⟨r1, rfl, ?_⟩
  have hx1 := Xt.trans hx hy1
  have ee2 : A1 6 0 = A 6 0 := hy1.2 _ _ hS.1.2.1 (((n6_0 hS1)).trans ((n6_0 hS)).symm)
  try rw [← ee2]
  refine ⟨fun hc => ?_, fun hc => ?_⟩
  · have h := h.1 hc
    exact qx_j hS1 hx1 h
  · have h := h.2 hc
    refine ⟨hS1.o (s6_0 hS1), ?_⟩
    rw [l6_0_21 hS1]
    rw [l6_0_22 hS1]
    refine ⟨hS1.o (s6_19 hS1), ?_⟩
    obtain ⟨hi3, h⟩ := h
    refine ⟨by first | (rw [(n6_19 hS1)]; exact hi3) | exact (congrArg (vp_in _) (n6_19 hS1)).mpr hi3 | exact hi3, ?_⟩
    refine ⟨hS1.o (s6_18 hS1), ?_⟩
    obtain ⟨hi4, h⟩ := h
    refine ⟨by first | (rw [(n6_18 hS1)]; exact hi4) | exact (congrArg (vp_in _) (n6_18 hS1)).mpr hi4 | exact hi4, ?_⟩
    exact qx_j hS1 hx1 h
theorem w_X12_change_0 {E : EE} {d : Nat} {V : VH} {K : Int32 → VH → Prop} {x1 : Int32} {x2 : Int32} {x3 : Int32}  (h0 : 0 < d) (h : vMI E (d - 1) M_X12_isFact [sl 6 0, wi x1, wi x2] V (fun r1 V1 => (r1 = 0 → K 0 V1) ∧ (¬ (r1 = 0) → (x3 < (-9999) → K 0 V1) ∧ (¬ (x3 < (-9999)) → (x3 ≤ 9999 → vp_in ((16 * x1) + x2) 80 ∧ (∀ V4 : VH, V4 = wrI V1 6 15 (Int32.toNatClampNeg ((16 * x1) + x2)) x3 → vp_in x1 5 ∧ (vp_in x1 5 ∧ (∀ V7 : VH, V7 = wrI V4 6 33 (Int32.toNatClampNeg x1) ((vI V4 6 33 (Int32.toNatClampNeg x1)) + 1) → K 1 V7)))) ∧ (¬ (x3 ≤ 9999) → K 0 V1))))) : vMI E d M_X12_change [sl 6 0, wi x1, wi x2, wi x3] V K := by
  intro G A hR
  obtain ⟨L, P, rfl, hS⟩ := hR
  have hx := Xt.refl (V := pl G A L P) (A := A)
  show wpM E d M_X12_change [vr (A 6 0), vi x1, vi x2, vi x3] G _
  refine wpM_of mk_X12_change (Nat.le_of_ble_eq_true rfl) ?_
  refine v_X12_change_0 h0 ?_
  refine ⟨hS.o (s6_0 hS), ?_⟩
  refine wpM.mono (h G A ⟨L, P, rfl, hS⟩) (fun rr1 G1 hr => ?_)
  obtain ⟨A1, W1, w1, ⟨L1, P1, rfl, hS1⟩, hy1, rfl, r1, rfl, h⟩ := hr
  refine ⟨r1, rfl, ?_⟩
  have hx1 := Xt.trans hx hy1
  have ee2 : A1 6 0 = A 6 0 := hy1.2 _ _ hS.1.2.1 (((n6_0 hS1)).trans ((n6_0 hS)).symm)
  try rw [← ee2]
  refine ⟨fun hc => ?_, fun hc => ?_⟩
  · have h := h.1 hc
    exact qx_i hS1 hx1 h
  · have h := h.2 hc
    refine ⟨fun hc => ?_, fun hc => ?_⟩
    · have h := h.1 hc
      exact qx_i hS1 hx1 h
    · have h := h.2 hc
      refine ⟨fun hc => ?_, fun hc => ?_⟩
      · have h := h.1 hc
        refine ⟨hS1.o (s6_0 hS1), ?_⟩
        rw [l6_0_18 hS1]
        refine ⟨hS1.o (s6_15 hS1), ?_⟩
        obtain ⟨hi3, h⟩ := h
        refine ⟨by first | (rw [(n6_15 hS1)]; exact hi3) | exact (congrArg (vp_in _) (n6_15 hS1)).mpr hi3 | exact hi3, ?_⟩
        intro G4 eG4
        have hS4 : Sh E G4 A1 L1 P1 := Sh_sI eG4 hS1 (s6_15 hS1) (okT_0 rfl)
        have h := h (pl G4 A1 L1 P1) (pl_sI eG4 hS1 (s6_15 hS1))
        have hx4 : Xt (pl G A L P) A (pl G4 A1 L1 P1) A1 := Xt_sI eG4 hx1
        rw [l6_0_36 hS4]
        refine ⟨hS4.o (s6_33 hS4), ?_⟩
        obtain ⟨hi5, h⟩ := h
        refine ⟨by first | (rw [(n6_33 hS4)]; exact hi5) | exact (congrArg (vp_in _) (n6_33 hS4)).mpr hi5 | exact hi5, ?_⟩
        obtain ⟨hi6, h⟩ := h
        refine ⟨by first | (rw [(n6_33 hS4)]; exact hi6) | exact (congrArg (vp_in _) (n6_33 hS4)).mpr hi6 | exact hi6, ?_⟩
        intro G7 eG7
        have hS7 : Sh E G7 A1 L1 P1 := Sh_sI eG7 hS4 (s6_33 hS4) (okT_0 rfl)
        have h := h (pl G7 A1 L1 P1) (pl_sI eG7 hS4 (s6_33 hS4))
        have hx7 : Xt (pl G A L P) A (pl G7 A1 L1 P1) A1 := Xt_sI eG7 hx4
        exact qx_i hS7 hx7 h
      · have h := h.2 hc
        exact qx_i hS1 hx1 h
theorem w_X12_fact_0 {E : EE} {d : Nat} {V : VH} {K : Int64 → VH → Prop} {x1 : Int32} {x2 : Int32}  (h0 : 0 < d) (h : vMI E (d - 1) M_X12_isFact [sl 6 0, wi x1, wi x2] V (fun r1 V1 => (r1 = 0 → K (-9223372036854775808) V1) ∧ (¬ (r1 = 0) → vp_in ((16 * x1) + x2) 80 ∧ (K (Int32.toInt64 (vI V1 6 15 (Int32.toNatClampNeg ((16 * x1) + x2)))) V1)))) : vMJ E d M_X12_fact [sl 6 0, wi x1, wi x2] V K := by
  intro G A hR
  obtain ⟨L, P, rfl, hS⟩ := hR
  have hx := Xt.refl (V := pl G A L P) (A := A)
  show wpM E d M_X12_fact [vr (A 6 0), vi x1, vi x2] G _
  refine wpM_of mk_X12_fact (Nat.le_of_ble_eq_true rfl) ?_
  refine v_X12_fact_0 h0 ?_
  refine ⟨hS.o (s6_0 hS), ?_⟩
  refine wpM.mono (h G A ⟨L, P, rfl, hS⟩) (fun rr1 G1 hr => ?_)
  obtain ⟨A1, W1, w1, ⟨L1, P1, rfl, hS1⟩, hy1, rfl, r1, rfl, h⟩ := hr
  refine ⟨r1, rfl, ?_⟩
  have hx1 := Xt.trans hx hy1
  have ee2 : A1 6 0 = A 6 0 := hy1.2 _ _ hS.1.2.1 (((n6_0 hS1)).trans ((n6_0 hS)).symm)
  try rw [← ee2]
  refine ⟨fun hc => ?_, fun hc => ?_⟩
  · have h := h.1 hc
    exact qx_j hS1 hx1 h
  · have h := h.2 hc
    refine ⟨hS1.o (s6_0 hS1), ?_⟩
    rw [l6_0_18 hS1]
    refine ⟨hS1.o (s6_15 hS1), ?_⟩
    obtain ⟨hi3, h⟩ := h
    refine ⟨by first | (rw [(n6_15 hS1)]; exact hi3) | exact (congrArg (vp_in _) (n6_15 hS1)).mpr hi3 | exact hi3, ?_⟩
    exact qx_j hS1 hx1 h
theorem w_X12_rule_0 {E : EE} {d : Nat} {V : VH} {K : Int32 → VH → Prop} {x1 : Int32} {x2 : Int32} {x3 : Int32}  (h0 : 0 < d) (h : vMI E (d - 1) M_X12_isRule [sl 6 0, wi x1, wi x2] V (fun r1 V1 => (¬ r1 = 0 → (x3 = 0 → vwp E d M_X12_rule 20 [some (sl 6 0), some (wi x1), some (wi x2), some (wi x3), none, none] [] V1 (zi K)) ∧ (¬ (x3 = 0) → (¬ x3 = 1 → (¬ x3 = 2 → (x3 = 3 → vMV E (d - 1) M_X12_know [sl 6 0, wi x1] V1 (fun V3 => vwp E d M_X12_rule 154 [some (sl 6 0), some (wi x1), some (wi x2), some (wi x3), some (wi 0), some (wi 0)] [] V3 (zi K))) ∧ (¬ (x3 = 3) → K (-1) V1)) ∧ (x3 = 2 → vp_in ((24 * x1) + x2) 120 ∧ (vwp E d M_X12_rule 71 [some (sl 6 0), some (wi x1), some (wi x2), some (wi x3), some (wi 0), some (wi (vI V1 6 26 (Int32.toNatClampNeg ((24 * x1) + x2))))] [] V1 (zi K)))) ∧ (x3 = 1 → vwp E d M_X12_rule 20 [some (sl 6 0), some (wi x1), some (wi x2), some (wi x3), none, none] [] V1 (zi K)))) ∧ (r1 = 0 → K (-1) V1))) : vMI E d M_X12_rule [sl 6 0, wi x1, wi x2, wi x3] V K := by
  intro G A hR
  obtain ⟨L, P, rfl, hS⟩ := hR
  have hx := Xt.refl (V := pl G A L P) (A := A)
  show wpM E d M_X12_rule [vr (A 6 0), vi x1, vi x2, vi x3] G _
  refine wpM_of mk_X12_rule (Nat.le_of_ble_eq_true rfl) ?_
  refine v_X12_rule_0 h0 ?_
  refine ⟨hS.o (s6_0 hS), ?_⟩
  refine wpM.mono (h G A ⟨L, P, rfl, hS⟩) (fun rr1 G1 hr => ?_)
  obtain ⟨A1, W1, w1, ⟨L1, P1, rfl, hS1⟩, hy1, rfl, r1, rfl, h⟩ := hr
  refine ⟨r1, rfl, ?_⟩
  have hx1 := Xt.trans hx hy1
  have ee2 : A1 6 0 = A 6 0 := hy1.2 _ _ hS.1.2.1 (((n6_0 hS1)).trans ((n6_0 hS)).symm)
  try rw [← ee2]
  refine ⟨fun hc => ?_, fun hc => ?_⟩
  · have h := h.1 hc
    refine ⟨fun hc => ?_, fun hc => ?_⟩
    · have h := h.1 hc
      exact wp.mono (h G1 A1 ⟨L1, P1, rfl, hS1⟩) (fun r G' q => qx_trans hx1 q)
    · have h := h.2 hc
      refine ⟨fun hc => ?_, fun hc => ?_⟩
      · have h := h.1 hc
        refine ⟨fun hc => ?_, fun hc => ?_⟩
        · have h := h.1 hc
          refine ⟨fun hc => ?_, fun hc => ?_⟩
          · have h := h.1 hc
            refine ⟨hS1.o (s6_0 hS1), ?_⟩
            refine wpM.mono (h G1 A1 ⟨L1, P1, rfl, hS1⟩) (fun rr3 G3 hr => ?_)
            obtain ⟨A3, W3, w3, ⟨L3, P3, rfl, hS3⟩, hy3, rfl, rfl, h⟩ := hr
            refine ⟨rfl, ?_⟩
            have hx3 := Xt.trans hx1 hy3
            have ee4 : A3 6 0 = A1 6 0 := hy3.2 _ _ hS1.1.2.1 (((n6_0 hS3)).trans ((n6_0 hS1)).symm)
            try rw [← ee4]
            exact wp.mono (h G3 A3 ⟨L3, P3, rfl, hS3⟩) (fun r G' q => qx_trans hx3 q)
          · have h := h.2 hc
            exact qx_i hS1 hx1 h
        · have h := h.2 hc
          refine ⟨hS1.o (s6_0 hS1), ?_⟩
          rw [l6_0_29 hS1]
          refine ⟨hS1.o (s6_26 hS1), ?_⟩
          obtain ⟨hi5, h⟩ := h
          refine ⟨by first | (rw [(n6_26 hS1)]; exact hi5) | exact (congrArg (vp_in _) (n6_26 hS1)).mpr hi5 | exact hi5, ?_⟩
          exact wp.mono (h G1 A1 ⟨L1, P1, rfl, hS1⟩) (fun r G' q => qx_trans hx1 q)
      · have h := h.2 hc
        exact wp.mono (h G1 A1 ⟨L1, P1, rfl, hS1⟩) (fun r G' q => qx_trans hx1 q)
  · have h := h.2 hc
    exact qx_i hS1 hx1 h
theorem w_X12_range_0 {E : EE} {d : Nat} {V : VH} {K : Int64 → VH → Prop} {x1 : Int32} {x2 : Int32} {x3 : Int32}  (h0 : 0 < d) (h : vMI E (d - 1) M_X12_isVar [sl 6 0, wi x1, wi x2] V (fun r1 V1 => (r1 = 0 → vwp E d M_X12_range 28 [some (sl 6 0), some (wi x1), some (wi x2), some (wi x3)] [] V1 (zj K)) ∧ (¬ (r1 = 0) → (x3 < 0 → vwp E d M_X12_range 28 [some (sl 6 0), some (wi x1), some (wi x2), some (wi x3)] [] V1 (zj K)) ∧ (¬ (x3 < 0) → vp_in ((12 * x1) + x2) 60 ∧ ((x3 < (vI V1 6 16 (Int32.toNatClampNeg ((12 * x1) + x2))) → vp_in ((20 * ((12 * x1) + x2)) + x3) 1200 ∧ (K (Int32.toInt64 (vI V1 6 18 (Int32.toNatClampNeg ((20 * ((12 * x1) + x2)) + x3)))) V1)) ∧ (¬ (x3 < (vI V1 6 16 (Int32.toNatClampNeg ((12 * x1) + x2)))) → vwp E d M_X12_range 28 [some (sl 6 0), some (wi x1), some (wi x2), some (wi x3)] [] V1 (zj K))))))) : vMJ E d M_X12_range [sl 6 0, wi x1, wi x2, wi x3] V K := by
  intro G A hR
  obtain ⟨L, P, rfl, hS⟩ := hR
  have hx := Xt.refl (V := pl G A L P) (A := A)
  show wpM E d M_X12_range [vr (A 6 0), vi x1, vi x2, vi x3] G _
  refine wpM_of mk_X12_range (Nat.le_of_ble_eq_true rfl) ?_
  refine v_X12_range_0 h0 ?_
  refine ⟨hS.o (s6_0 hS), ?_⟩
  refine wpM.mono (h G A ⟨L, P, rfl, hS⟩) (fun rr1 G1 hr => ?_)
  obtain ⟨A1, W1, w1, ⟨L1, P1, rfl, hS1⟩, hy1, rfl, r1, rfl, h⟩ := hr
  refine ⟨r1, rfl, ?_⟩
  have hx1 := Xt.trans hx hy1
  have ee2 : A1 6 0 = A 6 0 := hy1.2 _ _ hS.1.2.1 (((n6_0 hS1)).trans ((n6_0 hS)).symm)
  try rw [← ee2]
  refine ⟨fun hc => ?_, fun hc => ?_⟩
  · have h := h.1 hc
    exact wp.mono (h G1 A1 ⟨L1, P1, rfl, hS1⟩) (fun r G' q => qx_trans hx1 q)
  · have h := h.2 hc
    refine ⟨fun hc => ?_, fun hc => ?_⟩
    · have h := h.1 hc
      exact wp.mono (h G1 A1 ⟨L1, P1, rfl, hS1⟩) (fun r G' q => qx_trans hx1 q)
    · have h := h.2 hc
      refine ⟨hS1.o (s6_0 hS1), ?_⟩
      rw [l6_0_19 hS1]
      refine ⟨hS1.o (s6_16 hS1), ?_⟩
      obtain ⟨hi3, h⟩ := h
      refine ⟨by first | (rw [(n6_16 hS1)]; exact hi3) | exact (congrArg (vp_in _) (n6_16 hS1)).mpr hi3 | exact hi3, ?_⟩
      refine ⟨fun hc => ?_, fun hc => ?_⟩
      · have h := h.1 hc
        rw [l6_0_21 hS1]
        refine ⟨hS1.o (s6_18 hS1), ?_⟩
        obtain ⟨hi4, h⟩ := h
        refine ⟨by first | (rw [(n6_18 hS1)]; exact hi4) | exact (congrArg (vp_in _) (n6_18 hS1)).mpr hi4 | exact hi4, ?_⟩
        exact qx_j hS1 hx1 h
      · have h := h.2 hc
        exact wp.mono (h G1 A1 ⟨L1, P1, rfl, hS1⟩) (fun r G' q => qx_trans hx1 q)
theorem w_X12_range_28 {E : EE} {d : Nat} {V : VH} {K : Int64 → VH → Prop} {x1 : Int32} {x2 : Int32} {x3 : Int32}  (h : K (-9223372036854775808) V) : vwp E d M_X12_range 28 [some (sl 6 0), some (wi x1), some (wi x2), some (wi x3)] [] V (zj K) := by
  intro G A hR
  obtain ⟨L, P, rfl, hS⟩ := hR
  have hx := Xt.refl (V := pl G A L P) (A := A)
  show wp E d M_X12_range 28 [some (vr (A 6 0)), some (vi x1), some (vi x2), some (vi x3)] [] G _
  refine v_X12_range_28 ?_
  exact qx_j hS hx h
theorem w_X12_shown_0 {E : EE} {d : Nat} {V : VH} {K : Int32 → VH → Prop} {x1 : Int32} {x2 : Int32} {x3 : Int32}  (h0 : 0 < d) (h : vMI E (d - 1) M_X12_isProblem [sl 6 0, wi x1] V (fun r1 V1 => (r1 = 0 → K (-1) V1) ∧ (¬ (r1 = 0) → (x2 < 0 → K (-1) V1) ∧ (¬ (x2 < 0) → vp_in x1 5 ∧ (((vI V1 6 11 (Int32.toNatClampNeg x1)) ≤ x2 → K (-1) V1) ∧ (¬ ((vI V1 6 11 (Int32.toNatClampNeg x1)) ≤ x2) → (0 ≤ x3 → vp_in ((64 * x1) + x2) 320 ∧ (vp_in x1 5 ∧ (((vI V1 6 11 (Int32.toNatClampNeg x1)) ≤ (x2 + 1) → vp_in x1 5 ∧ (vwp E d M_X12_shown 75 [some (sl 6 0), some (wi x1), some (wi x2), some (wi x3), some (wi (vI V1 6 10 (Int32.toNatClampNeg ((64 * x1) + x2)))), none, none, none, none, none] [wi (vI V1 6 9 (Int32.toNatClampNeg x1))] V1 (zi K))) ∧ (¬ ((vI V1 6 11 (Int32.toNatClampNeg x1)) ≤ (x2 + 1)) → vp_in (((64 * x1) + x2) + 1) 320 ∧ (vwp E d M_X12_shown 75 [some (sl 6 0), some (wi x1), some (wi x2), some (wi x3), some (wi (vI V1 6 10 (Int32.toNatClampNeg ((64 * x1) + x2)))), none, none, none, none, none] [wi (vI V1 6 10 (Int32.toNatClampNeg (((64 * x1) + x2) + 1)))] V1 (zi K)))))) ∧ (¬ (0 ≤ x3) → K (-1) V1))))))) : vMI E d M_X12_shown [sl 6 0, wi x1, wi x2, wi x3] V K := by
  intro G A hR
  obtain ⟨L, P, rfl, hS⟩ := hR
  have hx := Xt.refl (V := pl G A L P) (A := A)
  show wpM E d M_X12_shown [vr (A 6 0), vi x1, vi x2, vi x3] G _
  refine wpM_of mk_X12_shown (Nat.le_of_ble_eq_true rfl) ?_
  refine v_X12_shown_0 h0 ?_
  refine ⟨hS.o (s6_0 hS), ?_⟩
  refine wpM.mono (h G A ⟨L, P, rfl, hS⟩) (fun rr1 G1 hr => ?_)
  obtain ⟨A1, W1, w1, ⟨L1, P1, rfl, hS1⟩, hy1, rfl, r1, rfl, h⟩ := hr
  refine ⟨r1, rfl, ?_⟩
  have hx1 := Xt.trans hx hy1
  have ee2 : A1 6 0 = A 6 0 := hy1.2 _ _ hS.1.2.1 (((n6_0 hS1)).trans ((n6_0 hS)).symm)
  try rw [← ee2]
  refine ⟨fun hc => ?_, fun hc => ?_⟩
  · have h := h.1 hc
    exact qx_i hS1 hx1 h
  · have h := h.2 hc
    refine ⟨fun hc => ?_, fun hc => ?_⟩
    · have h := h.1 hc
      exact qx_i hS1 hx1 h
    · have h := h.2 hc
      refine ⟨hS1.o (s6_0 hS1), ?_⟩
      rw [l6_0_14 hS1]
      refine ⟨hS1.o (s6_11 hS1), ?_⟩
      obtain ⟨hi3, h⟩ := h
      refine ⟨by first | (rw [(n6_11 hS1)]; exact hi3) | exact (congrArg (vp_in _) (n6_11 hS1)).mpr hi3 | exact hi3, ?_⟩
      refine ⟨fun hc => ?_, fun hc => ?_⟩
      · have h := h.1 hc
        exact qx_i hS1 hx1 h
      · have h := h.2 hc
        refine ⟨fun hc => ?_, fun hc => ?_⟩
        · have h := h.1 hc
          rw [l6_0_13 hS1]
          refine ⟨hS1.o (s6_10 hS1), ?_⟩
          obtain ⟨hi4, h⟩ := h
          refine ⟨by first | (rw [(n6_10 hS1)]; exact hi4) | exact (congrArg (vp_in _) (n6_10 hS1)).mpr hi4 | exact hi4, ?_⟩
          obtain ⟨hi5, h⟩ := h
          refine ⟨by first | (rw [(n6_11 hS1)]; exact hi5) | exact (congrArg (vp_in _) (n6_11 hS1)).mpr hi5 | exact hi5, ?_⟩
          refine ⟨fun hc => ?_, fun hc => ?_⟩
          · have h := h.1 hc
            rw [l6_0_12 hS1]
            refine ⟨hS1.o (s6_9 hS1), ?_⟩
            obtain ⟨hi6, h⟩ := h
            refine ⟨by first | (rw [(n6_9 hS1)]; exact hi6) | exact (congrArg (vp_in _) (n6_9 hS1)).mpr hi6 | exact hi6, ?_⟩
            exact wp.mono (h G1 A1 ⟨L1, P1, rfl, hS1⟩) (fun r G' q => qx_trans hx1 q)
          · have h := h.2 hc
            obtain ⟨hi7, h⟩ := h
            refine ⟨by first | (rw [(n6_10 hS1)]; exact hi7) | exact (congrArg (vp_in _) (n6_10 hS1)).mpr hi7 | exact hi7, ?_⟩
            exact wp.mono (h G1 A1 ⟨L1, P1, rfl, hS1⟩) (fun r G' q => qx_trans hx1 q)
        · have h := h.2 hc
          exact qx_i hS1 hx1 h
theorem w_X12_letter_0 {E : EE} {d : Nat} {V : VH} {K : Int32 → VH → Prop} {x1 : Int32} {x2 : Int32} {x3 : Int32} {x4 : Int32}  (h0 : 0 < d) (h : vMI E (d - 1) M_X12_isProblem [sl 6 0, wi x1] V (fun r1 V1 => (r1 = 0 → K (-1) V1) ∧ (¬ (r1 = 0) → (x2 < 0 → K (-1) V1) ∧ (¬ (x2 < 0) → (3 < x2 → K (-1) V1) ∧ (¬ (3 < x2) → (x3 < 0 → K (-1) V1) ∧ (¬ (x3 < 0) → vp_in ((4 * x1) + x2) 20 ∧ ((x3 < (vI V1 6 14 (Int32.toNatClampNeg ((4 * x1) + x2))) → (x4 < 0 → vwp E d M_X12_letter 67 [some (sl 6 0), some (wi x1), some (wi x2), some (wi x3), some (wi x4), some (wi (((96 * x1) + (24 * x2)) + x3))] [] V1 (zi K)) ∧ (¬ (x4 < 0) → vp_in (((96 * x1) + (24 * x2)) + x3) 480 ∧ ((x4 < (vI V1 6 13 (Int32.toNatClampNeg (((96 * x1) + (24 * x2)) + x3))) → vp_in (((96 * x1) + (24 * x2)) + x3) 480 ∧ (vp_in (((20000 * x1) + (vI V1 6 12 (Int32.toNatClampNeg (((96 * x1) + (24 * x2)) + x3)))) + x4) 100000 ∧ (K ((vI V1 6 3 (Int32.toNatClampNeg (((20000 * x1) + (vI V1 6 12 (Int32.toNatClampNeg (((96 * x1) + (24 * x2)) + x3)))) + x4))) &&& 255) V1))) ∧ (¬ (x4 < (vI V1 6 13 (Int32.toNatClampNeg (((96 * x1) + (24 * x2)) + x3)))) → vwp E d M_X12_letter 67 [some (sl 6 0), some (wi x1), some (wi x2), some (wi x3), some (wi x4), some (wi (((96 * x1) + (24 * x2)) + x3))] [] V1 (zi K))))) ∧ (¬ (x3 < (vI V1 6 14 (Int32.toNatClampNeg ((4 * x1) + x2)))) → K (-1) V1)))))))) : vMI E d M_X12_letter [sl 6 0, wi x1, wi x2, wi x3, wi x4] V K := by
  intro G A hR
  obtain ⟨L, P, rfl, hS⟩ := hR
  have hx := Xt.refl (V := pl G A L P) (A := A)
  show wpM E d M_X12_letter [vr (A 6 0), vi x1, vi x2, vi x3, vi x4] G _
  refine wpM_of mk_X12_letter (Nat.le_of_ble_eq_true rfl) ?_
  refine v_X12_letter_0 h0 ?_
  refine ⟨hS.o (s6_0 hS), ?_⟩
  refine wpM.mono (h G A ⟨L, P, rfl, hS⟩) (fun rr1 G1 hr => ?_)
  obtain ⟨A1, W1, w1, ⟨L1, P1, rfl, hS1⟩, hy1, rfl, r1, rfl, h⟩ := hr
  refine ⟨r1, rfl, ?_⟩
  have hx1 := Xt.trans hx hy1
  have ee2 : A1 6 0 = A 6 0 := hy1.2 _ _ hS.1.2.1 (((n6_0 hS1)).trans ((n6_0 hS)).symm)
  try rw [← ee2]
  refine ⟨fun hc => ?_, fun hc => ?_⟩
  · have h := h.1 hc
    exact qx_i hS1 hx1 h
  · have h := h.2 hc
    refine ⟨fun hc => ?_, fun hc => ?_⟩
    · have h := h.1 hc
      exact qx_i hS1 hx1 h
    · have h := h.2 hc
      refine ⟨fun hc => ?_, fun hc => ?_⟩
      · have h := h.1 hc
        exact qx_i hS1 hx1 h
      · have h := h.2 hc
        refine ⟨fun hc => ?_, fun hc => ?_⟩
        · have h := h.1 hc
          exact qx_i hS1 hx1 h
        · have h := h.2 hc
          refine ⟨hS1.o (s6_0 hS1), ?_⟩
          rw [l6_0_17 hS1]
          refine ⟨hS1.o (s6_14 hS1), ?_⟩
          obtain ⟨hi3, h⟩ := h
          refine ⟨by first | (rw [(n6_14 hS1)]; exact hi3) | exact (congrArg (vp_in _) (n6_14 hS1)).mpr hi3 | exact hi3, ?_⟩
          refine ⟨fun hc => ?_, fun hc => ?_⟩
          · have h := h.1 hc
            refine ⟨fun hc => ?_, fun hc => ?_⟩
            · have h := h.1 hc
              exact wp.mono (h G1 A1 ⟨L1, P1, rfl, hS1⟩) (fun r G' q => qx_trans hx1 q)
            · have h := h.2 hc
              rw [l6_0_16 hS1]
              refine ⟨hS1.o (s6_13 hS1), ?_⟩
              obtain ⟨hi4, h⟩ := h
              refine ⟨by first | (rw [(n6_13 hS1)]; exact hi4) | exact (congrArg (vp_in _) (n6_13 hS1)).mpr hi4 | exact hi4, ?_⟩
              refine ⟨fun hc => ?_, fun hc => ?_⟩
              · have h := h.1 hc
                rw [l6_0_6 hS1]
                rw [l6_0_15 hS1]
                refine ⟨hS1.o (s6_12 hS1), ?_⟩
                obtain ⟨hi5, h⟩ := h
                refine ⟨by first | (rw [(n6_12 hS1)]; exact hi5) | exact (congrArg (vp_in _) (n6_12 hS1)).mpr hi5 | exact hi5, ?_⟩
                refine ⟨hS1.o (s6_3 hS1), ?_⟩
                obtain ⟨hi6, h⟩ := h
                refine ⟨by first | (rw [(n6_3 hS1)]; exact hi6) | exact (congrArg (vp_in _) (n6_3 hS1)).mpr hi6 | exact hi6, ?_⟩
                exact qx_i hS1 hx1 h
              · have h := h.2 hc
                exact wp.mono (h G1 A1 ⟨L1, P1, rfl, hS1⟩) (fun r G' q => qx_trans hx1 q)
          · have h := h.2 hc
            exact qx_i hS1 hx1 h
theorem w_X12_find_0 {E : EE} {d : Nat} {V : VH} {K : Int32 → VH → Prop} {x1 : Int32}  (h0 : 0 < d) (h : vMI E (d - 1) M_X12_isProblem [sl 6 0, wi x1] V (fun r1 V1 => (¬ r1 = 0 → ∀ V3 : VH, V3 = wrI V1 6 0 37 1 → ∀ V4 : VH, V4 = wrI V3 6 0 39 (vI V3 6 0 1) → ∀ V5 : VH, V5 = wrI V4 6 0 40 0 → vMV E (d - 1) M_X12_next [sl 6 0] V5 (fun V6 => (¬ (vI V6 6 0 41) = 1 → K (-1) V6) ∧ ((vI V6 6 0 41) = 1 → (¬ (vI V6 6 0 43) = 0 → K (-1) V6) ∧ ((vI V6 6 0 43) = 0 → ((vI V6 6 0 44) = (vI V6 6 0 1) → vMI E (d - 1) M_X12_meaning [sl 6 0, wi x1] V6 (fun r8 V8 => K r8 V8)) ∧ (¬ ((vI V6 6 0 44) = (vI V6 6 0 1)) → K (-1) V6))))) ∧ (r1 = 0 → K (-1) V1))) : vMI E d M_X12_find [sl 6 0, wi x1] V K := by
  intro G A hR
  obtain ⟨L, P, rfl, hS⟩ := hR
  have hx := Xt.refl (V := pl G A L P) (A := A)
  show wpM E d M_X12_find [vr (A 6 0), vi x1] G _
  refine wpM_of mk_X12_find (Nat.le_of_ble_eq_true rfl) ?_
  refine v_X12_find_0 h0 ?_
  refine ⟨hS.o (s6_0 hS), ?_⟩
  refine wpM.mono (h G A ⟨L, P, rfl, hS⟩) (fun rr1 G1 hr => ?_)
  obtain ⟨A1, W1, w1, ⟨L1, P1, rfl, hS1⟩, hy1, rfl, r1, rfl, h⟩ := hr
  refine ⟨r1, rfl, ?_⟩
  have hx1 := Xt.trans hx hy1
  have ee2 : A1 6 0 = A 6 0 := hy1.2 _ _ hS.1.2.1 (((n6_0 hS1)).trans ((n6_0 hS)).symm)
  try rw [← ee2]
  refine ⟨fun hc => ?_, fun hc => ?_⟩
  · have h := h.1 hc
    refine ⟨hS1.o (s6_0 hS1), ?_⟩
    intro G3 eG3
    have hS3 : Sh E G3 A1 L1 P1 := Sh_sI eG3 hS1 (s6_0 hS1) (okT_2 rfl (Or.inr rfl))
    have h := h (pl G3 A1 L1 P1) (pl_sI eG3 hS1 (s6_0 hS1))
    have hx3 : Xt (pl G A L P) A (pl G3 A1 L1 P1) A1 := Xt_sI eG3 hx1
    intro G4 eG4
    have hS4 : Sh E G4 A1 L1 P1 := Sh_sI eG4 hS3 (s6_0 hS3) (okT_0 rfl)
    have h := h (pl G4 A1 L1 P1) (pl_sI eG4 hS3 (s6_0 hS3))
    have hx4 : Xt (pl G A L P) A (pl G4 A1 L1 P1) A1 := Xt_sI eG4 hx3
    intro G5 eG5
    have hS5 : Sh E G5 A1 L1 P1 := Sh_sI eG5 hS4 (s6_0 hS4) (okT_0 rfl)
    have h := h (pl G5 A1 L1 P1) (pl_sI eG5 hS4 (s6_0 hS4))
    have hx5 : Xt (pl G A L P) A (pl G5 A1 L1 P1) A1 := Xt_sI eG5 hx4
    refine wpM.mono (h G5 A1 ⟨L1, P1, rfl, hS5⟩) (fun rr6 G6 hr => ?_)
    obtain ⟨A6, W6, w6, ⟨L6, P6, rfl, hS6⟩, hy6, rfl, rfl, h⟩ := hr
    refine ⟨rfl, ?_⟩
    have hx6 := Xt.trans hx5 hy6
    have ee7 : A6 6 0 = A1 6 0 := hy6.2 _ _ hS5.1.2.1 (((n6_0 hS6)).trans ((n6_0 hS5)).symm)
    try rw [← ee7]
    refine ⟨hS6.o (s6_0 hS6), ?_⟩
    refine ⟨fun hc => ?_, fun hc => ?_⟩
    · have h := h.1 hc
      exact qx_i hS6 hx6 h
    · have h := h.2 hc
      refine ⟨fun hc => ?_, fun hc => ?_⟩
      · have h := h.1 hc
        exact qx_i hS6 hx6 h
      · have h := h.2 hc
        refine ⟨fun hc => ?_, fun hc => ?_⟩
        · have h := h.1 hc
          refine wpM.mono (h G6 A6 ⟨L6, P6, rfl, hS6⟩) (fun rr8 G8 hr => ?_)
          obtain ⟨A8, W8, w8, ⟨L8, P8, rfl, hS8⟩, hy8, rfl, r8, rfl, h⟩ := hr
          refine ⟨r8, rfl, ?_⟩
          have hx8 := Xt.trans hx6 hy8
          have ee9 : A8 6 0 = A6 6 0 := hy8.2 _ _ hS6.1.2.1 (((n6_0 hS8)).trans ((n6_0 hS6)).symm)
          try rw [← ee9]
          exact qx_i hS8 hx8 h
        · have h := h.2 hc
          exact qx_i hS6 hx6 h
  · have h := h.2 hc
    exact qx_i hS1 hx1 h
theorem w_X12_count_0 {E : EE} {d : Nat} {V : VH} {K : Int32 → VH → Prop} {x1 : Int32} {x2 : Int32}  (h0 : 0 < d) (h : vMI E (d - 1) M_X12_isProblem [sl 6 0, wi x1] V (fun r1 V1 => (¬ r1 = 0 → (x2 = 0 → vp_in ((4 * x1) + x2) 20 ∧ (K (vI V1 6 14 (Int32.toNatClampNeg ((4 * x1) + x2))) V1)) ∧ ((x2 = 1 → vp_in ((4 * x1) + x2) 20 ∧ (K (vI V1 6 14 (Int32.toNatClampNeg ((4 * x1) + x2))) V1)) ∧ ((x2 = 2 → vp_in ((4 * x1) + x2) 20 ∧ (K (vI V1 6 14 (Int32.toNatClampNeg ((4 * x1) + x2))) V1)) ∧ ((x2 = 3 → vp_in ((4 * x1) + x2) 20 ∧ (K (vI V1 6 14 (Int32.toNatClampNeg ((4 * x1) + x2))) V1)) ∧ ((x2 = 4 → vp_in x1 5 ∧ (K (vI V1 6 22 (Int32.toNatClampNeg x1)) V1)) ∧ ((x2 = 5 → vp_in x1 5 ∧ (vwp E d M_X12_count 88 [some (sl 6 0), some (wi x1), some (wi x2), some (wi (vI V1 6 22 (Int32.toNatClampNeg x1))), some (wi 0)] [] V1 (zi K))) ∧ ((x2 = 6 → vp_in x1 5 ∧ (K (vI V1 6 23 (Int32.toNatClampNeg x1)) V1)) ∧ ((x2 = 7 → vp_in x1 5 ∧ (K (vI V1 6 29 (Int32.toNatClampNeg x1)) V1)) ∧ ((x2 = 8 → vp_in x1 5 ∧ (K (vI V1 6 4 (Int32.toNatClampNeg x1)) V1)) ∧ ((¬ x2 = 0 → ¬ x2 = 1 → ¬ x2 = 2 → ¬ x2 = 3 → ¬ x2 = 4 → ¬ x2 = 5 → ¬ x2 = 6 → ¬ x2 = 7 → ¬ x2 = 8 → K (-1) V1))))))))))) ∧ (r1 = 0 → K (-1) V1))) : vMI E d M_X12_count [sl 6 0, wi x1, wi x2] V K := by
  intro G A hR
  obtain ⟨L, P, rfl, hS⟩ := hR
  have hx := Xt.refl (V := pl G A L P) (A := A)
  show wpM E d M_X12_count [vr (A 6 0), vi x1, vi x2] G _
  refine wpM_of mk_X12_count (Nat.le_of_ble_eq_true rfl) ?_
  refine v_X12_count_0 h0 ?_
  refine ⟨hS.o (s6_0 hS), ?_⟩
  refine wpM.mono (h G A ⟨L, P, rfl, hS⟩) (fun rr1 G1 hr => ?_)
  obtain ⟨A1, W1, w1, ⟨L1, P1, rfl, hS1⟩, hy1, rfl, r1, rfl, h⟩ := hr
  refine ⟨r1, rfl, ?_⟩
  have hx1 := Xt.trans hx hy1
  have ee2 : A1 6 0 = A 6 0 := hy1.2 _ _ hS.1.2.1 (((n6_0 hS1)).trans ((n6_0 hS)).symm)
  try rw [← ee2]
  refine ⟨fun hc => ?_, fun hc => ?_⟩
  · have h := h.1 hc
    refine ⟨fun hc => ?_, ?_⟩
    · have h := h.1 hc
      refine ⟨hS1.o (s6_0 hS1), ?_⟩
      rw [l6_0_17 hS1]
      refine ⟨hS1.o (s6_14 hS1), ?_⟩
      obtain ⟨hi3, h⟩ := h
      refine ⟨by first | (rw [(n6_14 hS1)]; exact hi3) | exact (congrArg (vp_in _) (n6_14 hS1)).mpr hi3 | exact hi3, ?_⟩
      exact qx_i hS1 hx1 h
    have h := h.2
    refine ⟨fun hc => ?_, ?_⟩
    · have h := h.1 hc
      refine ⟨hS1.o (s6_0 hS1), ?_⟩
      rw [l6_0_17 hS1]
      refine ⟨hS1.o (s6_14 hS1), ?_⟩
      obtain ⟨hi4, h⟩ := h
      refine ⟨by first | (rw [(n6_14 hS1)]; exact hi4) | exact (congrArg (vp_in _) (n6_14 hS1)).mpr hi4 | exact hi4, ?_⟩
      exact qx_i hS1 hx1 h
    have h := h.2
    refine ⟨fun hc => ?_, ?_⟩
    · have h := h.1 hc
      refine ⟨hS1.o (s6_0 hS1), ?_⟩
      rw [l6_0_17 hS1]
      refine ⟨hS1.o (s6_14 hS1), ?_⟩
      obtain ⟨hi5, h⟩ := h
      refine ⟨by first | (rw [(n6_14 hS1)]; exact hi5) | exact (congrArg (vp_in _) (n6_14 hS1)).mpr hi5 | exact hi5, ?_⟩
      exact qx_i hS1 hx1 h
    have h := h.2
    refine ⟨fun hc => ?_, ?_⟩
    · have h := h.1 hc
      refine ⟨hS1.o (s6_0 hS1), ?_⟩
      rw [l6_0_17 hS1]
      refine ⟨hS1.o (s6_14 hS1), ?_⟩
      obtain ⟨hi6, h⟩ := h
      refine ⟨by first | (rw [(n6_14 hS1)]; exact hi6) | exact (congrArg (vp_in _) (n6_14 hS1)).mpr hi6 | exact hi6, ?_⟩
      exact qx_i hS1 hx1 h
    have h := h.2
    refine ⟨fun hc => ?_, ?_⟩
    · have h := h.1 hc
      refine ⟨hS1.o (s6_0 hS1), ?_⟩
      rw [l6_0_25 hS1]
      refine ⟨hS1.o (s6_22 hS1), ?_⟩
      obtain ⟨hi7, h⟩ := h
      refine ⟨by first | (rw [(n6_22 hS1)]; exact hi7) | exact (congrArg (vp_in _) (n6_22 hS1)).mpr hi7 | exact hi7, ?_⟩
      exact qx_i hS1 hx1 h
    have h := h.2
    refine ⟨fun hc => ?_, ?_⟩
    · have h := h.1 hc
      refine ⟨hS1.o (s6_0 hS1), ?_⟩
      rw [l6_0_25 hS1]
      refine ⟨hS1.o (s6_22 hS1), ?_⟩
      obtain ⟨hi8, h⟩ := h
      refine ⟨by first | (rw [(n6_22 hS1)]; exact hi8) | exact (congrArg (vp_in _) (n6_22 hS1)).mpr hi8 | exact hi8, ?_⟩
      exact wp.mono (h G1 A1 ⟨L1, P1, rfl, hS1⟩) (fun r G' q => qx_trans hx1 q)
    have h := h.2
    refine ⟨fun hc => ?_, ?_⟩
    · have h := h.1 hc
      refine ⟨hS1.o (s6_0 hS1), ?_⟩
      rw [l6_0_26 hS1]
      refine ⟨hS1.o (s6_23 hS1), ?_⟩
      obtain ⟨hi9, h⟩ := h
      refine ⟨by first | (rw [(n6_23 hS1)]; exact hi9) | exact (congrArg (vp_in _) (n6_23 hS1)).mpr hi9 | exact hi9, ?_⟩
      exact qx_i hS1 hx1 h
    have h := h.2
    refine ⟨fun hc => ?_, ?_⟩
    · have h := h.1 hc
      refine ⟨hS1.o (s6_0 hS1), ?_⟩
      rw [l6_0_32 hS1]
      refine ⟨hS1.o (s6_29 hS1), ?_⟩
      obtain ⟨hi10, h⟩ := h
      refine ⟨by first | (rw [(n6_29 hS1)]; exact hi10) | exact (congrArg (vp_in _) (n6_29 hS1)).mpr hi10 | exact hi10, ?_⟩
      exact qx_i hS1 hx1 h
    have h := h.2
    refine ⟨fun hc => ?_, ?_⟩
    · have h := h.1 hc
      refine ⟨hS1.o (s6_0 hS1), ?_⟩
      rw [l6_0_7 hS1]
      refine ⟨hS1.o (s6_4 hS1), ?_⟩
      obtain ⟨hi11, h⟩ := h
      refine ⟨by first | (rw [(n6_4 hS1)]; exact hi11) | exact (congrArg (vp_in _) (n6_4 hS1)).mpr hi11 | exact hi11, ?_⟩
      exact qx_i hS1 hx1 h
    have h := h.2
    intro q0 q1 q2 q3 q4 q5 q6 q7 q8
    have h := h q0 q1 q2 q3 q4 q5 q6 q7 q8
    exact qx_i hS1 hx1 h
  · have h := h.2 hc
    exact qx_i hS1 hx1 h
theorem w_X12_drop_0 {E : EE} {d : Nat} {V : VH} {K : Int32 → VH → Prop} {x1 : Int32}  (h0 : 0 < d) (h : vMI E (d - 1) M_X12_isProblem [sl 6 0, wi x1] V (fun r1 V1 => (¬ r1 = 0 → vp_in x1 5 ∧ (∀ V4 : VH, V4 = wrI V1 6 2 (Int32.toNatClampNeg x1) (nz 0) → K 1 V4)) ∧ (r1 = 0 → K 0 V1))) : vMI E d M_X12_drop [sl 6 0, wi x1] V K := by
  intro G A hR
  obtain ⟨L, P, rfl, hS⟩ := hR
  have hx := Xt.refl (V := pl G A L P) (A := A)
  show wpM E d M_X12_drop [vr (A 6 0), vi x1] G _
  refine wpM_of mk_X12_drop (Nat.le_of_ble_eq_true rfl) ?_
  refine v_X12_drop_0 h0 ?_
  refine ⟨hS.o (s6_0 hS), ?_⟩
  refine wpM.mono (h G A ⟨L, P, rfl, hS⟩) (fun rr1 G1 hr => ?_)
  obtain ⟨A1, W1, w1, ⟨L1, P1, rfl, hS1⟩, hy1, rfl, r1, rfl, h⟩ := hr
  refine ⟨r1, rfl, ?_⟩
  have hx1 := Xt.trans hx hy1
  have ee2 : A1 6 0 = A 6 0 := hy1.2 _ _ hS.1.2.1 (((n6_0 hS1)).trans ((n6_0 hS)).symm)
  try rw [← ee2]
  refine ⟨fun hc => ?_, fun hc => ?_⟩
  · have h := h.1 hc
    refine ⟨hS1.o (s6_0 hS1), ?_⟩
    rw [l6_0_5 hS1]
    refine ⟨hS1.o (s6_2 hS1), ?_⟩
    obtain ⟨hi3, h⟩ := h
    refine ⟨by first | (rw [(n6_2 hS1)]; exact hi3) | exact (congrArg (vp_in _) (n6_2 hS1)).mpr hi3 | exact hi3, ?_⟩
    have hS4 : Sh E (sI G1 (A1 6 2) (Int32.toNatClampNeg x1) (nz 0)) A1 L1 P1 := Sh_sI (rfl : sI G1 (A1 6 2) (Int32.toNatClampNeg x1) (nz 0) = sI G1 (A1 6 2) (Int32.toNatClampNeg x1) (nz 0)) hS1 (s6_2 hS1) (okT_nz rfl)
    have h := h (pl (sI G1 (A1 6 2) (Int32.toNatClampNeg x1) (nz 0)) A1 L1 P1) (pl_sI (rfl : sI G1 (A1 6 2) (Int32.toNatClampNeg x1) (nz 0) = sI G1 (A1 6 2) (Int32.toNatClampNeg x1) (nz 0)) hS1 (s6_2 hS1))
    have hx4 : Xt (pl G A L P) A (pl (sI G1 (A1 6 2) (Int32.toNatClampNeg x1) (nz 0)) A1 L1 P1) A1 := Xt_sI (rfl : sI G1 (A1 6 2) (Int32.toNatClampNeg x1) (nz 0) = sI G1 (A1 6 2) (Int32.toNatClampNeg x1) (nz 0)) hx1
    exact qx_i hS4 hx4 h
  · have h := h.2 hc
    exact qx_i hS1 hx1 h
theorem w_X12_fault_0 {E : EE} {d : Nat} {V : VH} {K : Int32 → VH → Prop}   (h : K (vI V 6 0 4) V) : vMI E d M_X12_fault [sl 6 0] V K := by
  intro G A hR
  obtain ⟨L, P, rfl, hS⟩ := hR
  have hx := Xt.refl (V := pl G A L P) (A := A)
  show wpM E d M_X12_fault [vr (A 6 0)] G _
  refine wpM_of mk_X12_fault (Nat.le_of_ble_eq_true rfl) ?_
  refine v_X12_fault_0 ?_
  refine ⟨hS.o (s6_0 hS), ?_⟩
  exact qx_i hS hx h
theorem w_X12_problem_0 {E : EE} {d : Nat} {V : VH} {K : Int32 → VH → Prop}   (h0 : 0 < d) (h : vMI E (d - 1) M_X12_freeSlot [sl 6 0] V (fun r1 V1 => (¬ r1 = 4 → vwp E d M_X12_problem 15 [some (sl 6 0), some (wi r1), some (wi 0)] [] V1 (zi K)) ∧ (r1 = 4 → K (-100000) V1))) : vMI E d M_X12_problem [sl 6 0] V K := by
  intro G A hR
  obtain ⟨L, P, rfl, hS⟩ := hR
  have hx := Xt.refl (V := pl G A L P) (A := A)
  show wpM E d M_X12_problem [vr (A 6 0)] G _
  refine wpM_of mk_X12_problem (Nat.le_of_ble_eq_true rfl) ?_
  refine v_X12_problem_0 h0 ?_
  refine ⟨hS.o (s6_0 hS), ?_⟩
  refine wpM.mono (h G A ⟨L, P, rfl, hS⟩) (fun rr1 G1 hr => ?_)
  obtain ⟨A1, W1, w1, ⟨L1, P1, rfl, hS1⟩, hy1, rfl, r1, rfl, h⟩ := hr
  refine ⟨r1, rfl, ?_⟩
  have hx1 := Xt.trans hx hy1
  have ee2 : A1 6 0 = A 6 0 := hy1.2 _ _ hS.1.2.1 (((n6_0 hS1)).trans ((n6_0 hS)).symm)
  try rw [← ee2]
  refine ⟨fun hc => ?_, fun hc => ?_⟩
  · have h := h.1 hc
    exact wp.mono (h G1 A1 ⟨L1, P1, rfl, hS1⟩) (fun r G' q => qx_trans hx1 q)
  · have h := h.2 hc
    exact qx_i hS1 hx1 h
theorem w_X12_problem_15 {E : EE} {d : Nat} {V : VH} {K : Int32 → VH → Prop} {x1 : Int32} {x2 : Int32}  (h0 : 0 < d) (h : ((vI V 6 0 1) ≤ x2 → vp_in x1 5 ∧ (∀ V2 : VH, V2 = wrI V 6 4 (Int32.toNatClampNeg x1) (vI V 6 0 1) → ∀ V3 : VH, V3 = wrI V2 6 0 1 0 → vMI E (d - 1) M_X12_readProblem [sl 6 0, wi x1] V3 (fun r4 V4 => ∀ V6 : VH, V6 = wrI V4 6 0 4 (vI V4 6 0 45) → (¬ r4 = 0 → vp_in x1 5 ∧ (∀ V8 : VH, V8 = wrI V6 6 2 (Int32.toNatClampNeg x1) (nz 1) → K x1 V8)) ∧ (r4 = 0 → K ((-1) - (vI V6 6 0 46)) V6)))) ∧ (¬ ((vI V 6 0 1) ≤ x2) → vp_in x2 20000 ∧ (vp_in ((20000 * x1) + x2) 100000 ∧ (∀ V11 : VH, V11 = wrI V 6 3 (Int32.toNatClampNeg ((20000 * x1) + x2)) (i2b (vI V 6 1 (Int32.toNatClampNeg x2))) → vwp E d M_X12_problem 15 [some (sl 6 0), some (wi x1), some (wi (x2 + 1))] [] V11 (zi K))))) : vwp E d M_X12_problem 15 [some (sl 6 0), some (wi x1), some (wi x2)] [] V (zi K) := by
  intro G A hR
  obtain ⟨L, P, rfl, hS⟩ := hR
  have hx := Xt.refl (V := pl G A L P) (A := A)
  show wp E d M_X12_problem 15 [some (vr (A 6 0)), some (vi x1), some (vi x2)] [] G _
  refine v_X12_problem_15 h0 ?_
  refine ⟨hS.o (s6_0 hS), ?_⟩
  refine ⟨fun hc => ?_, fun hc => ?_⟩
  · have h := h.1 hc
    rw [l6_0_7 hS]
    refine ⟨hS.o (s6_4 hS), ?_⟩
    obtain ⟨hi1, h⟩ := h
    refine ⟨by first | (rw [(n6_4 hS)]; exact hi1) | exact (congrArg (vp_in _) (n6_4 hS)).mpr hi1 | exact hi1, ?_⟩
    intro G2 eG2
    have hS2 : Sh E G2 A L P := Sh_sI eG2 hS (s6_4 hS) (okT_0 rfl)
    have h := h (pl G2 A L P) (pl_sI eG2 hS (s6_4 hS))
    have hx2 : Xt (pl G A L P) A (pl G2 A L P) A := Xt_sI eG2 hx
    intro G3 eG3
    have hS3 : Sh E G3 A L P := Sh_sI eG3 hS2 (s6_0 hS2) (okT_0 rfl)
    have h := h (pl G3 A L P) (pl_sI eG3 hS2 (s6_0 hS2))
    have hx3 : Xt (pl G A L P) A (pl G3 A L P) A := Xt_sI eG3 hx2
    refine wpM.mono (h G3 A ⟨L, P, rfl, hS3⟩) (fun rr4 G4 hr => ?_)
    obtain ⟨A4, W4, w4, ⟨L4, P4, rfl, hS4⟩, hy4, rfl, r4, rfl, h⟩ := hr
    refine ⟨r4, rfl, ?_⟩
    have hx4 := Xt.trans hx3 hy4
    have ee5 : A4 6 0 = A 6 0 := hy4.2 _ _ hS3.1.2.1 (((n6_0 hS4)).trans ((n6_0 hS3)).symm)
    try rw [← ee5]
    refine ⟨hS4.o (s6_0 hS4), ?_⟩
    intro G6 eG6
    have hS6 : Sh E G6 A4 L4 P4 := Sh_sI eG6 hS4 (s6_0 hS4) (okT_0 rfl)
    have h := h (pl G6 A4 L4 P4) (pl_sI eG6 hS4 (s6_0 hS4))
    have hx6 : Xt (pl G A L P) A (pl G6 A4 L4 P4) A4 := Xt_sI eG6 hx4
    refine ⟨fun hc => ?_, fun hc => ?_⟩
    · have h := h.1 hc
      rw [l6_0_5 hS6]
      refine ⟨hS6.o (s6_2 hS6), ?_⟩
      obtain ⟨hi7, h⟩ := h
      refine ⟨by first | (rw [(n6_2 hS6)]; exact hi7) | exact (congrArg (vp_in _) (n6_2 hS6)).mpr hi7 | exact hi7, ?_⟩
      intro G8 eG8
      have hS8 : Sh E G8 A4 L4 P4 := Sh_sI eG8 hS6 (s6_2 hS6) (okT_nz rfl)
      have h := h (pl G8 A4 L4 P4) (pl_sI eG8 hS6 (s6_2 hS6))
      have hx8 : Xt (pl G A L P) A (pl G8 A4 L4 P4) A4 := Xt_sI eG8 hx6
      exact qx_i hS8 hx8 h
    · have h := h.2 hc
      exact qx_i hS6 hx6 h
  · have h := h.2 hc
    rw [l6_0_6 hS]
    rw [l6_0_0 hS]
    refine ⟨hS.o (s6_1 hS), ?_⟩
    obtain ⟨hi9, h⟩ := h
    refine ⟨by first | (rw [(n6_1 hS)]; exact hi9) | exact (congrArg (vp_in _) (n6_1 hS)).mpr hi9 | exact hi9, ?_⟩
    refine ⟨hS.o (s6_3 hS), ?_⟩
    obtain ⟨hi10, h⟩ := h
    refine ⟨by first | (rw [(n6_3 hS)]; exact hi10) | exact (congrArg (vp_in _) (n6_3 hS)).mpr hi10 | exact hi10, ?_⟩
    intro G11 eG11
    have hS11 : Sh E G11 A L P := Sh_sI eG11 hS (s6_3 hS) (okT_b rfl)
    have h := h (pl G11 A L P) (pl_sI eG11 hS (s6_3 hS))
    have hx11 : Xt (pl G A L P) A (pl G11 A L P) A := Xt_sI eG11 hx
    exact wp.mono (h G11 A ⟨L, P, rfl, hS11⟩) (fun r G' q => qx_trans hx11 q)
theorem w_X12_tapeAt_0 {E : EE} {d : Nat} {V : VH} {K : Int32 → VH → Prop} {x1 : Int32}  (h : (x1 < 0 → vwp E d M_X12_tapeAt 12 [some (sl 6 0), some (wi x1)] [] V (zi K)) ∧ (¬ (x1 < 0) → (x1 < (vI V 6 0 1) → vp_in x1 20000 ∧ (K ((vI V 6 1 (Int32.toNatClampNeg x1)) &&& 255) V)) ∧ (¬ (x1 < (vI V 6 0 1)) → vwp E d M_X12_tapeAt 12 [some (sl 6 0), some (wi x1)] [] V (zi K)))) : vMI E d M_X12_tapeAt [sl 6 0, wi x1] V K := by
  intro G A hR
  obtain ⟨L, P, rfl, hS⟩ := hR
  have hx := Xt.refl (V := pl G A L P) (A := A)
  show wpM E d M_X12_tapeAt [vr (A 6 0), vi x1] G _
  refine wpM_of mk_X12_tapeAt (Nat.le_of_ble_eq_true rfl) ?_
  refine v_X12_tapeAt_0 ?_
  refine ⟨fun hc => ?_, fun hc => ?_⟩
  · have h := h.1 hc
    exact wp.mono (h G A ⟨L, P, rfl, hS⟩) (fun r G' q => qx_trans hx q)
  · have h := h.2 hc
    refine ⟨hS.o (s6_0 hS), ?_⟩
    refine ⟨fun hc => ?_, fun hc => ?_⟩
    · have h := h.1 hc
      rw [l6_0_0 hS]
      refine ⟨hS.o (s6_1 hS), ?_⟩
      obtain ⟨hi1, h⟩ := h
      refine ⟨by first | (rw [(n6_1 hS)]; exact hi1) | exact (congrArg (vp_in _) (n6_1 hS)).mpr hi1 | exact hi1, ?_⟩
      exact qx_i hS hx h
    · have h := h.2 hc
      exact wp.mono (h G A ⟨L, P, rfl, hS⟩) (fun r G' q => qx_trans hx q)
theorem w_X12_tapeAt_12 {E : EE} {d : Nat} {V : VH} {K : Int32 → VH → Prop} {x1 : Int32}  (h : K (-1) V) : vwp E d M_X12_tapeAt 12 [some (sl 6 0), some (wi x1)] [] V (zi K) := by
  intro G A hR
  obtain ⟨L, P, rfl, hS⟩ := hR
  have hx := Xt.refl (V := pl G A L P) (A := A)
  show wp E d M_X12_tapeAt 12 [some (vr (A 6 0)), some (vi x1)] [] G _
  refine v_X12_tapeAt_12 ?_
  exact qx_i hS hx h
theorem w_X12_spoil_0 {E : EE} {d : Nat} {V : VH} {K : Int32 → VH → Prop} {x1 : Int32} {x2 : Int32}  (h : (x1 < 0 → K (-1) V) ∧ (¬ (x1 < 0) → (x1 < (vI V 6 0 1) → vp_in x1 20000 ∧ (vp_in x1 20000 ∧ (∀ V3 : VH, V3 = wrI V 6 1 (Int32.toNatClampNeg x1) (i2b (i2b ((vI V 6 1 (Int32.toNatClampNeg x1)) ^^^ x2))) → vp_in x1 20000 ∧ (K ((vI V3 6 1 (Int32.toNatClampNeg x1)) &&& 255) V3)))) ∧ (¬ (x1 < (vI V 6 0 1)) → K (-1) V))) : vMI E d M_X12_spoil [sl 6 0, wi x1, wi x2] V K := by
  intro G A hR
  obtain ⟨L, P, rfl, hS⟩ := hR
  have hx := Xt.refl (V := pl G A L P) (A := A)
  show wpM E d M_X12_spoil [vr (A 6 0), vi x1, vi x2] G _
  refine wpM_of mk_X12_spoil (Nat.le_of_ble_eq_true rfl) ?_
  refine v_X12_spoil_0 ?_
  refine ⟨fun hc => ?_, fun hc => ?_⟩
  · have h := h.1 hc
    exact qx_i hS hx h
  · have h := h.2 hc
    refine ⟨hS.o (s6_0 hS), ?_⟩
    refine ⟨fun hc => ?_, fun hc => ?_⟩
    · have h := h.1 hc
      rw [l6_0_0 hS]
      refine ⟨hS.o (s6_1 hS), ?_⟩
      obtain ⟨hi1, h⟩ := h
      refine ⟨by first | (rw [(n6_1 hS)]; exact hi1) | exact (congrArg (vp_in _) (n6_1 hS)).mpr hi1 | exact hi1, ?_⟩
      obtain ⟨hi2, h⟩ := h
      refine ⟨by first | (rw [(n6_1 hS)]; exact hi2) | exact (congrArg (vp_in _) (n6_1 hS)).mpr hi2 | exact hi2, ?_⟩
      have hS3 : Sh E (sI G (A 6 1) (Int32.toNatClampNeg x1) (i2b (i2b ((gI G (A 6 1) (Int32.toNatClampNeg x1)) ^^^ x2)))) A L P := Sh_sI (rfl : sI G (A 6 1) (Int32.toNatClampNeg x1) (i2b (i2b ((gI G (A 6 1) (Int32.toNatClampNeg x1)) ^^^ x2))) = sI G (A 6 1) (Int32.toNatClampNeg x1) (i2b (i2b ((gI G (A 6 1) (Int32.toNatClampNeg x1)) ^^^ x2)))) hS (s6_1 hS) (okT_b rfl)
      have h := h (pl (sI G (A 6 1) (Int32.toNatClampNeg x1) (i2b (i2b ((gI G (A 6 1) (Int32.toNatClampNeg x1)) ^^^ x2)))) A L P) (pl_sI (rfl : sI G (A 6 1) (Int32.toNatClampNeg x1) (i2b (i2b ((gI G (A 6 1) (Int32.toNatClampNeg x1)) ^^^ x2))) = sI G (A 6 1) (Int32.toNatClampNeg x1) (i2b (i2b ((gI G (A 6 1) (Int32.toNatClampNeg x1)) ^^^ x2)))) hS (s6_1 hS))
      have hx3 : Xt (pl G A L P) A (pl (sI G (A 6 1) (Int32.toNatClampNeg x1) (i2b (i2b ((gI G (A 6 1) (Int32.toNatClampNeg x1)) ^^^ x2)))) A L P) A := Xt_sI (rfl : sI G (A 6 1) (Int32.toNatClampNeg x1) (i2b (i2b ((gI G (A 6 1) (Int32.toNatClampNeg x1)) ^^^ x2))) = sI G (A 6 1) (Int32.toNatClampNeg x1) (i2b (i2b ((gI G (A 6 1) (Int32.toNatClampNeg x1)) ^^^ x2)))) hx
      obtain ⟨hi4, h⟩ := h
      refine ⟨by first | (rw [(n6_1 hS3)]; exact hi4) | exact (congrArg (vp_in _) (n6_1 hS3)).mpr hi4 | exact hi4, ?_⟩
      exact qx_i hS3 hx3 h
    · have h := h.2 hc
      exact qx_i hS hx h
theorem w_X12_cut_0 {E : EE} {d : Nat} {V : VH} {K : Int32 → VH → Prop} {x1 : Int32}  (h : (x1 < 0 → K (-1) V) ∧ (¬ (x1 < 0) → (x1 ≤ (vI V 6 0 1) → ∀ V1 : VH, V1 = wrI V 6 0 1 x1 → K (vI V 6 0 1) V1) ∧ (¬ (x1 ≤ (vI V 6 0 1)) → K (-1) V))) : vMI E d M_X12_cut [sl 6 0, wi x1] V K := by
  intro G A hR
  obtain ⟨L, P, rfl, hS⟩ := hR
  have hx := Xt.refl (V := pl G A L P) (A := A)
  show wpM E d M_X12_cut [vr (A 6 0), vi x1] G _
  refine wpM_of mk_X12_cut (Nat.le_of_ble_eq_true rfl) ?_
  refine v_X12_cut_0 ?_
  refine ⟨fun hc => ?_, fun hc => ?_⟩
  · have h := h.1 hc
    exact qx_i hS hx h
  · have h := h.2 hc
    refine ⟨hS.o (s6_0 hS), ?_⟩
    refine ⟨fun hc => ?_, fun hc => ?_⟩
    · have h := h.1 hc
      have hS1 : Sh E (sI G (A 6 0) 1 x1) A L P := Sh_sI (rfl : sI G (A 6 0) 1 x1 = sI G (A 6 0) 1 x1) hS (s6_0 hS) (okT_0 rfl)
      have h := h (pl (sI G (A 6 0) 1 x1) A L P) (pl_sI (rfl : sI G (A 6 0) 1 x1 = sI G (A 6 0) 1 x1) hS (s6_0 hS))
      have hx1 : Xt (pl G A L P) A (pl (sI G (A 6 0) 1 x1) A L P) A := Xt_sI (rfl : sI G (A 6 0) 1 x1 = sI G (A 6 0) 1 x1) hx
      exact qx_i hS1 hx1 h
    · have h := h.2 hc
      exact qx_i hS hx h
theorem w_X12_type_0 {E : EE} {d : Nat} {V : VH} {K : Int32 → VH → Prop} {x1 : Int64} {x3 : Int32}  (h : (x3 < 1 → K (-1) V) ∧ (¬ (x3 < 1) → (x3 ≤ 8 → (((vI V 6 0 1) + x3) ≤ 20000 → vwp E d M_X12_type 33 [some (sl 6 0), some (wj x1), none, some (wi x3), some (wi (x3 - 1))] [] V (zi K)) ∧ (¬ (((vI V 6 0 1) + x3) ≤ 20000) → K (-100000) V)) ∧ (¬ (x3 ≤ 8) → K (-1) V))) : vMI E d M_X12_type [sl 6 0, wj x1, wi x3] V K := by
  intro G A hR
  obtain ⟨L, P, rfl, hS⟩ := hR
  have hx := Xt.refl (V := pl G A L P) (A := A)
  show wpM E d M_X12_type [vr (A 6 0), vj x1, vi x3] G _
  refine wpM_of mk_X12_type (Nat.le_of_ble_eq_true rfl) ?_
  refine v_X12_type_0 ?_
  refine ⟨fun hc => ?_, fun hc => ?_⟩
  · have h := h.1 hc
    exact qx_i hS hx h
  · have h := h.2 hc
    refine ⟨fun hc => ?_, fun hc => ?_⟩
    · have h := h.1 hc
      refine ⟨hS.o (s6_0 hS), ?_⟩
      refine ⟨fun hc => ?_, fun hc => ?_⟩
      · have h := h.1 hc
        exact wp.mono (h G A ⟨L, P, rfl, hS⟩) (fun r G' q => qx_trans hx q)
      · have h := h.2 hc
        exact qx_i hS hx h
    · have h := h.2 hc
      exact qx_i hS hx h
theorem w_X12_type_33 {E : EE} {d : Nat} {V : VH} {K : Int32 → VH → Prop} {x1 : Int64} {x3 : Int32} {x4 : Int32}  (h : (x4 < 0 → K (vI V 6 0 1) V) ∧ (¬ (x4 < 0) → vp_in (vI V 6 0 1) 20000 ∧ (∀ V2 : VH, V2 = wrI V 6 1 (Int32.toNatClampNeg (vI V 6 0 1)) (i2b (i2b (Int64.toInt32 (x1 >>> (Int32.toInt64 (8 * x4) &&& 63))))) → ∀ V3 : VH, V3 = wrI V2 6 0 1 ((vI V2 6 0 1) + 1) → vwp E d M_X12_type 33 [some (sl 6 0), some (wj x1), none, some (wi x3), some (wi (x4 + (-1)))] [] V3 (zi K)))) : vwp E d M_X12_type 33 [some (sl 6 0), some (wj x1), none, some (wi x3), some (wi x4)] [] V (zi K) := by
  intro G A hR
  obtain ⟨L, P, rfl, hS⟩ := hR
  have hx := Xt.refl (V := pl G A L P) (A := A)
  show wp E d M_X12_type 33 [some (vr (A 6 0)), some (vj x1), none, some (vi x3), some (vi x4)] [] G _
  refine v_X12_type_33 ?_
  refine ⟨fun hc => ?_, fun hc => ?_⟩
  · have h := h.1 hc
    refine ⟨hS.o (s6_0 hS), ?_⟩
    exact qx_i hS hx h
  · have h := h.2 hc
    refine ⟨hS.o (s6_0 hS), ?_⟩
    rw [l6_0_0 hS]
    refine ⟨hS.o (s6_1 hS), ?_⟩
    obtain ⟨hi1, h⟩ := h
    refine ⟨by first | (rw [(n6_1 hS)]; exact hi1) | exact (congrArg (vp_in _) (n6_1 hS)).mpr hi1 | exact hi1, ?_⟩
    intro G2 eG2
    have hS2 : Sh E G2 A L P := Sh_sI eG2 hS (s6_1 hS) (okT_b rfl)
    have h := h (pl G2 A L P) (pl_sI eG2 hS (s6_1 hS))
    have hx2 : Xt (pl G A L P) A (pl G2 A L P) A := Xt_sI eG2 hx
    intro G3 eG3
    have hS3 : Sh E G3 A L P := Sh_sI eG3 hS2 (s6_0 hS2) (okT_0 rfl)
    have h := h (pl G3 A L P) (pl_sI eG3 hS2 (s6_0 hS2))
    have hx3 : Xt (pl G A L P) A (pl G3 A L P) A := Xt_sI eG3 hx2
    exact wp.mono (h G3 A ⟨L, P, rfl, hS3⟩) (fun r G' q => qx_trans hx3 q)

