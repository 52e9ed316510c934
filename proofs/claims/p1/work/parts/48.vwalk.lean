theorem w_X8_announced_0 {E : EE} {d : Nat} {V : VH} {K : Int32 → VH → Prop} {b1 c1 : Nat} (hB1 : BS (vL V) b1 c1) (h0 : 0 < d) (h : (((vI V b1 c1 1) - 8) < 2 → K (-1) V) ∧ (¬ (((vI V b1 c1 1) - 8) < 2) → vMJ E (d - 1) M_X0_sum [sl b1 c1, wi 0, wi ((vI V b1 c1 1) - 8)] V (fun r1 V1 => vMJ E (d - 1) M_X0_number [sl b1 c1, wi ((vI V b1 c1 1) - 8), wi 8] V1 (fun r5 V5 => (r1 = r5 → vMJ E (d - 1) M_X0_number [sl b1 c1, wi 0, wi 2] V5 (fun r9 V9 => K (Int64.toInt32 r9) V9)) ∧ (¬ (r1 = r5) → K (-1) V5))))) : vMI E d M_X8_announced [sl 0 23, sl b1 c1] V K := by
  intro G A hR
  obtain ⟨L, P, rfl, hS⟩ := hR
  have hx := Xt.refl (V := pl G A L P) (A := A)
  show wpM E d M_X8_announced [vr (A 0 23), vr (A b1 c1)] G _
  refine wpM_of mk_X8_announced (Nat.le_of_ble_eq_true rfl) ?_
  refine v_X8_announced_0 h0 ?_
  refine ⟨hS.o (BS.o hB1), ?_⟩
  refine ⟨fun hc => ?_, fun hc => ?_⟩
  · have h := h.1 hc
    exact qx_i hS hx h
  · have h := h.2 hc
    refine wpM.mono (h G A ⟨L, P, rfl, hS⟩) (fun rr1 G1 hr => ?_)
    obtain ⟨A1, W1, w1, ⟨L1, P1, rfl, hS1⟩, hy1, rfl, r1, rfl, h⟩ := hr
    refine ⟨r1, rfl, ?_⟩
    have hx1 := Xt.trans hx hy1
    have hg2 : BS L1 b1 c1 := BS.up hy1 hB1
    have ee3 : A1 0 23 = A 0 23 := hy1.2 _ _ hS.1.1 (((n0_23 hS1)).trans ((n0_23 hS)).symm)
    try rw [← ee3]
    have ee4 : A1 b1 c1 = A b1 c1 := hy1.2 _ _ hB1.1 (((BS.n hg2 hS1)).trans ((BS.n hB1 hS)).symm)
    try rw [← ee4]
    try rw [show gI G (A1 b1 c1) = gI G (A b1 c1) from by rw [ee4]]
    refine ⟨hS1.o (BS.o hg2), ?_⟩
    refine wpM.mono (h G1 A1 ⟨L1, P1, rfl, hS1⟩) (fun rr5 G5 hr => ?_)
    obtain ⟨A5, W5, w5, ⟨L5, P5, rfl, hS5⟩, hy5, rfl, r5, rfl, h⟩ := hr
    refine ⟨r5, rfl, ?_⟩
    have hx5 := Xt.trans hx1 hy5
    have hg6 : BS L5 b1 c1 := BS.up hy5 hg2
    have ee7 : A5 0 23 = A1 0 23 := hy5.2 _ _ hS1.1.1 (((n0_23 hS5)).trans ((n0_23 hS1)).symm)
    try rw [← ee7]
    have ee8 : A5 b1 c1 = A1 b1 c1 := hy5.2 _ _ hg2.1 (((BS.n hg6 hS5)).trans ((BS.n hg2 hS1)).symm)
    try rw [← ee8]
    refine ⟨fun hc => ?_, fun hc => ?_⟩
    · have h := h.1 hc
      refine ⟨hS5.o (BS.o hg6), ?_⟩
      refine wpM.mono (h G5 A5 ⟨L5, P5, rfl, hS5⟩) (fun rr9 G9 hr => ?_)
      obtain ⟨A9, W9, w9, ⟨L9, P9, rfl, hS9⟩, hy9, rfl, r9, rfl, h⟩ := hr
      refine ⟨r9, rfl, ?_⟩
      have hx9 := Xt.trans hx5 hy9
      have hg10 : BS L9 b1 c1 := BS.up hy9 hg6
      have ee11 : A9 0 23 = A5 0 23 := hy9.2 _ _ hS5.1.1 (((n0_23 hS9)).trans ((n0_23 hS5)).symm)
      try rw [← ee11]
      have ee12 : A9 b1 c1 = A5 b1 c1 := hy9.2 _ _ hg6.1 (((BS.n hg10 hS9)).trans ((BS.n hg6 hS5)).symm)
      try rw [← ee12]
      exact qx_i hS9 hx9 h
    · have h := h.2 hc
      exact qx_i hS5 hx5 h
theorem w_X8_export_0 {E : EE} {d : Nat} {V : VH} {K : VH → Prop} {b1 c1 : Nat} (hB1 : BS (vL V) b1 c1) (h0 : 0 < d) (h : vMV E (d - 1) M_X0_keep [sl b1 c1, wi 0] V (fun V1 => vMV E (d - 1) M_X0_addNumber [sl b1 c1, wj (Int32.toInt64 (vI V1 0 23 1)), wi 2] V1 (fun V5 => vMV E (d - 1) M_X0_addAll [sl b1 c1, sl 0 24, wi 0, wi (vI V5 0 24 1)] V5 (fun V9 => vMJ E (d - 1) M_X0_sum [sl b1 c1, wi 0, wi (vI V9 b1 c1 1)] V9 (fun r13 V13 => vMV E (d - 1) M_X0_addNumber [sl b1 c1, wj r13, wi 8] V13 (fun V17 => K V17)))))) : vMV E d M_X8_export [sl 0 23, sl b1 c1] V K := by
  intro G A hR
  obtain ⟨L, P, rfl, hS⟩ := hR
  have hx := Xt.refl (V := pl G A L P) (A := A)
  show wpM E d M_X8_export [vr (A 0 23), vr (A b1 c1)] G _
  refine wpM_of mk_X8_export (Nat.le_of_ble_eq_true rfl) ?_
  refine v_X8_export_0 h0 ?_
  refine ⟨hS.o (BS.o hB1), ?_⟩
  refine wpM.mono (h G A ⟨L, P, rfl, hS⟩) (fun rr1 G1 hr => ?_)
  obtain ⟨A1, W1, w1, ⟨L1, P1, rfl, hS1⟩, hy1, rfl, rfl, h⟩ := hr
  refine ⟨rfl, ?_⟩
  have hx1 := Xt.trans hx hy1
  have hg2 : BS L1 b1 c1 := BS.up hy1 hB1
  have ee3 : A1 0 23 = A 0 23 := hy1.2 _ _ hS.1.1 (((n0_23 hS1)).trans ((n0_23 hS)).symm)
  try rw [← ee3]
  have ee4 : A1 b1 c1 = A b1 c1 := hy1.2 _ _ hB1.1 (((BS.n hg2 hS1)).trans ((BS.n hB1 hS)).symm)
  try rw [← ee4]
  refine ⟨hS1.o (s0_23 hS1), ?_⟩
  refine ⟨hS1.o (BS.o hg2), ?_⟩
  refine wpM.mono (h G1 A1 ⟨L1, P1, rfl, hS1⟩) (fun rr5 G5 hr => ?_)
  obtain ⟨A5, W5, w5, ⟨L5, P5, rfl, hS5⟩, hy5, rfl, rfl, h⟩ := hr
  refine ⟨rfl, ?_⟩
  have hx5 := Xt.trans hx1 hy5
  have hg6 : BS L5 b1 c1 := BS.up hy5 hg2
  have ee7 : A5 0 23 = A1 0 23 := hy5.2 _ _ hS1.1.1 (((n0_23 hS5)).trans ((n0_23 hS1)).symm)
  try rw [← ee7]
  have ee8 : A5 b1 c1 = A1 b1 c1 := hy5.2 _ _ hg2.1 (((BS.n hg6 hS5)).trans ((BS.n hg2 hS1)).symm)
  try rw [← ee8]
  refine ⟨hS5.o (s0_23 hS5), ?_⟩
  rw [l0_23_0 hS5]
  refine ⟨hS5.o (s0_24 hS5), ?_⟩
  refine ⟨hS5.o (BS.o hg6), ?_⟩
  refine wpM.mono (h G5 A5 ⟨L5, P5, rfl, hS5⟩) (fun rr9 G9 hr => ?_)
  obtain ⟨A9, W9, w9, ⟨L9, P9, rfl, hS9⟩, hy9, rfl, rfl, h⟩ := hr
  refine ⟨rfl, ?_⟩
  have hx9 := Xt.trans hx5 hy9
  have hg10 : BS L9 b1 c1 := BS.up hy9 hg6
  have ee11 : A9 0 23 = A5 0 23 := hy9.2 _ _ hS5.1.1 (((n0_23 hS9)).trans ((n0_23 hS5)).symm)
  try rw [← ee11]
  have ee12 : A9 b1 c1 = A5 b1 c1 := hy9.2 _ _ hg6.1 (((BS.n hg10 hS9)).trans ((BS.n hg6 hS5)).symm)
  try rw [← ee12]
  refine ⟨hS9.o (BS.o hg10), ?_⟩
  refine wpM.mono (h G9 A9 ⟨L9, P9, rfl, hS9⟩) (fun rr13 G13 hr => ?_)
  obtain ⟨A13, W13, w13, ⟨L13, P13, rfl, hS13⟩, hy13, rfl, r13, rfl, h⟩ := hr
  refine ⟨r13, rfl, ?_⟩
  have hx13 := Xt.trans hx9 hy13
  have hg14 : BS L13 b1 c1 := BS.up hy13 hg10
  have ee15 : A13 0 23 = A9 0 23 := hy13.2 _ _ hS9.1.1 (((n0_23 hS13)).trans ((n0_23 hS9)).symm)
  try rw [← ee15]
  have ee16 : A13 b1 c1 = A9 b1 c1 := hy13.2 _ _ hg10.1 (((BS.n hg14 hS13)).trans ((BS.n hg10 hS9)).symm)
  try rw [← ee16]
  refine ⟨hS13.o (BS.o hg14), ?_⟩
  refine wpM.mono (h G13 A13 ⟨L13, P13, rfl, hS13⟩) (fun rr17 G17 hr => ?_)
  obtain ⟨A17, W17, w17, ⟨L17, P17, rfl, hS17⟩, hy17, rfl, rfl, h⟩ := hr
  refine ⟨rfl, ?_⟩
  have hx17 := Xt.trans hx13 hy17
  have hg18 : BS L17 b1 c1 := BS.up hy17 hg14
  have ee19 : A17 0 23 = A13 0 23 := hy17.2 _ _ hS13.1.1 (((n0_23 hS17)).trans ((n0_23 hS13)).symm)
  try rw [← ee19]
  have ee20 : A17 b1 c1 = A13 b1 c1 := hy17.2 _ _ hg14.1 (((BS.n hg18 hS17)).trans ((BS.n hg14 hS13)).symm)
  try rw [← ee20]
  exact qx_v hS17 hx17 h
theorem w_X8_lose_0 {E : EE} {d : Nat} {V : VH} {K : Int32 → VH → Prop} {x1 : Int32}  (h : (0 ≤ (vI V 0 23 4) → (¬ (vI V 0 23 4) = 0 → vp_in ((vI V 0 23 4) - 1) 100 ∧ (vwp E d M_X8_lose 34 [some (sl 0 23), some (wi x1), none] [wi (vI V 0 26 (Int32.toNatClampNeg ((vI V 0 23 4) - 1)))] V (zi K))) ∧ ((vI V 0 23 4) = 0 → vwp E d M_X8_lose 34 [some (sl 0 23), some (wi x1), none] [wi 0] V (zi K))) ∧ (¬ (0 ≤ (vI V 0 23 4)) → K (vI V 0 23 1) V)) : vMI E d M_X8_lose [sl 0 23, wi x1] V K := by
  intro G A hR
  obtain ⟨L, P, rfl, hS⟩ := hR
  have hx := Xt.refl (V := pl G A L P) (A := A)
  show wpM E d M_X8_lose [vr (A 0 23), vi x1] G _
  refine wpM_of mk_X8_lose (Nat.le_of_ble_eq_true rfl) ?_
  refine v_X8_lose_0 ?_
  refine ⟨hS.o (s0_23 hS), ?_⟩
  refine ⟨fun hc => ?_, fun hc => ?_⟩
  · have h := h.1 hc
    refine ⟨fun hc => ?_, fun hc => ?_⟩
    · have h := h.1 hc
      rw [l0_23_2 hS]
      refine ⟨hS.o (s0_26 hS), ?_⟩
      obtain ⟨hi1, h⟩ := h
      refine ⟨by first | (rw [(n0_26 hS)]; exact hi1) | exact (congrArg (vp_in _) (n0_26 hS)).mpr hi1 | exact hi1, ?_⟩
      exact wp.mono (h G A ⟨L, P, rfl, hS⟩) (fun r G' q => qx_trans hx q)
    · have h := h.2 hc
      exact wp.mono (h G A ⟨L, P, rfl, hS⟩) (fun r G' q => qx_trans hx q)
  · have h := h.2 hc
    exact qx_i hS hx h
theorem w_X8_start_0 {E : EE} {d : Nat} {V : VH} {K : Int32 → VH → Prop} {x1 : Int32}  (h : (x1 < 0 → K (-1) V) ∧ (¬ (x1 < 0) → ((vI V 0 23 1) ≤ x1 → K (-1) V) ∧ (¬ ((vI V 0 23 1) ≤ x1) → (x1 < 100 → (¬ x1 = 0 → vp_in (x1 - 1) 100 ∧ (K (vI V 0 26 (Int32.toNatClampNeg (x1 - 1))) V)) ∧ (x1 = 0 → K 0 V)) ∧ (¬ (x1 < 100) → K (-1) V)))) : vMI E d M_X8_start [sl 0 23, wi x1] V K := by
  intro G A hR
  obtain ⟨L, P, rfl, hS⟩ := hR
  have hx := Xt.refl (V := pl G A L P) (A := A)
  show wpM E d M_X8_start [vr (A 0 23), vi x1] G _
  refine wpM_of mk_X8_start (Nat.le_of_ble_eq_true rfl) ?_
  refine v_X8_start_0 ?_
  refine ⟨fun hc => ?_, fun hc => ?_⟩
  · have h := h.1 hc
    exact qx_i hS hx h
  · have h := h.2 hc
    refine ⟨hS.o (s0_23 hS), ?_⟩
    refine ⟨fun hc => ?_, fun hc => ?_⟩
    · have h := h.1 hc
      exact qx_i hS hx h
    · have h := h.2 hc
      refine ⟨fun hc => ?_, fun hc => ?_⟩
      · have h := h.1 hc
        refine ⟨fun hc => ?_, fun hc => ?_⟩
        · have h := h.1 hc
          rw [l0_23_2 hS]
          refine ⟨hS.o (s0_26 hS), ?_⟩
          obtain ⟨hi1, h⟩ := h
          refine ⟨by first | (rw [(n0_26 hS)]; exact hi1) | exact (congrArg (vp_in _) (n0_26 hS)).mpr hi1 | exact hi1, ?_⟩
          exact qx_i hS hx h
        · have h := h.2 hc
          exact qx_i hS hx h
      · have h := h.2 hc
        exact qx_i hS hx h
theorem w_X5_read_0 {E : EE} {d : Nat} {V : VH} {K : Int32 → VH → Prop} {g : Nat} (hg : PG (vL V) g) (h0 : 0 < d) (h : ∀ V1 : VH, V1 = wrP V g → ∀ V2 : VH, V2 = wrQ V1 g → ∀ V3 : VH, V3 = wrI V2 0 7 7 0 → vMV E (d - 1) M_X3_clear [sl g 0] V3 (fun V4 => vMV E (d - 1) M_X10_scan [sl 0 2, sl g 1] V4 (fun V8 => vwp E d M_X5_read 35 [some (sl 0 7), some (sl g 0), some (wi 0), none] [] V8 (zi K)))) : vMI E d M_X5_read [sl 0 7, sl g 0] V K := by
  intro G A hR
  obtain ⟨L, P, rfl, hS⟩ := hR
  have hx := Xt.refl (V := pl G A L P) (A := A)
  show wpM E d M_X5_read [vr (A 0 7), vr (A g 0)] G _
  refine wpM_of mk_X5_read (Nat.le_of_ble_eq_true rfl) ?_
  refine v_X5_read_0 h0 ?_
  refine ⟨hS.o (s0_7 hS), ?_⟩
  intro G1 eG1
  have hS1 : Sh E G1 A L (g, (P).2) := Sh_sP eG1 hS
  have h := h (pl G1 A L (g, (P).2)) (pl_sP eG1)
  have hx1 : Xt (pl G A L P) A (pl G1 A L (g, (P).2)) A := Xt_sR eG1 hx
  refine ⟨hS1.o (sP_0 hg), ?_⟩
  rw [lP_0_5 hS1 hg]
  intro G2 eG2
  have hS2 : Sh E G2 A L (((g, (P).2)).1, g) := Sh_sQ eG2 hS1
  have h := h (pl G2 A L (((g, (P).2)).1, g)) (pl_sQ eG2)
  have hx2 : Xt (pl G A L P) A (pl G2 A L (((g, (P).2)).1, g)) A := Xt_sR eG2 hx1
  intro G3 eG3
  have hS3 : Sh E G3 A L (((g, (P).2)).1, g) := Sh_sI eG3 hS2 (s0_7 hS2) (okT_0 rfl)
  have h := h (pl G3 A L (((g, (P).2)).1, g)) (pl_sI eG3 hS2 (s0_7 hS2))
  have hx3 : Xt (pl G A L P) A (pl G3 A L (((g, (P).2)).1, g)) A := Xt_sI eG3 hx2
  refine wpM.mono (h G3 A ⟨L, (((g, (P).2)).1, g), rfl, hS3⟩) (fun rr4 G4 hr => ?_)
  obtain ⟨A4, W4, w4, ⟨L4, P4, rfl, hS4⟩, hy4, rfl, rfl, h⟩ := hr
  refine ⟨rfl, ?_⟩
  have hx4 := Xt.trans hx3 hy4
  have hg5 : PG L4 g := PG.up hy4 hg
  have ee6 : A4 0 7 = A 0 7 := hy4.2 _ _ hS3.1.1 (((n0_7 hS4)).trans ((n0_7 hS3)).symm)
  try rw [← ee6]
  have ee7 : A4 g 0 = A g 0 := hy4.2 _ _ hg.1 (((nP_0 hS4 hg5)).trans ((nP_0 hS3 hg)).symm)
  try rw [← ee7]
  refine ⟨hS4.o (s0_7 hS4), ?_⟩
  rw [l0_7_0 hS4]
  refine ⟨hS4.o (sP_0 hg5), ?_⟩
  rw [lP_0_1 hS4 hg5]
  refine ⟨hS4.o (s0_2 hS4), ?_⟩
  refine wpM.mono (h G4 A4 ⟨L4, P4, rfl, hS4⟩) (fun rr8 G8 hr => ?_)
  obtain ⟨A8, W8, w8, ⟨L8, P8, rfl, hS8⟩, hy8, rfl, rfl, h⟩ := hr
  refine ⟨rfl, ?_⟩
  have hx8 := Xt.trans hx4 hy8
  have hg9 : PG L8 g := PG.up hy8 hg5
  have ee10 : A8 0 7 = A4 0 7 := hy8.2 _ _ hS4.1.1 (((n0_7 hS8)).trans ((n0_7 hS4)).symm)
  try rw [← ee10]
  have ee11 : A8 g 0 = A4 g 0 := hy8.2 _ _ hg5.1 (((nP_0 hS8 hg9)).trans ((nP_0 hS4 hg5)).symm)
  try rw [← ee11]
  exact wp.mono (h G8 A8 ⟨L8, P8, rfl, hS8⟩) (fun r G' q => qx_trans hx8 q)
theorem w_X5_read_35 {E : EE} {d : Nat} {V : VH} {K : Int32 → VH → Prop} {g : Nat} {x2 : Int32} (hg : PG (vL V) g) (h0 : 0 < d) (h : ((vI V g 1 1) < x2 → K 0 V) ∧ (¬ ((vI V g 1 1) < x2) → (x2 ≤ 0 → vwp E d M_X5_read 65 [some (sl 0 7), some (sl g 0), some (wi x2), none] [] V (zi K)) ∧ (¬ (x2 ≤ 0) → (¬ (vI V 0 2 6) = 0 → vwp E d M_X5_read 65 [some (sl 0 7), some (sl g 0), some (wi x2), none] [] V (zi K)) ∧ ((vI V 0 2 6) = 0 → vMI E (d - 1) M_X5_isWhole [sl 0 7] V (fun r1 V1 => bz r1 ∧ K r1 V1))))) : vwp E d M_X5_read 35 [some (sl 0 7), some (sl g 0), some (wi x2), none] [] V (zi K) := by
  intro G A hR
  obtain ⟨L, P, rfl, hS⟩ := hR
  have hx := Xt.refl (V := pl G A L P) (A := A)
  show wp E d M_X5_read 35 [some (vr (A 0 7)), some (vr (A g 0)), some (vi x2), none] [] G _
  refine v_X5_read_35 h0 ?_
  refine ⟨hS.o (sP_0 hg), ?_⟩
  rw [lP_0_1 hS hg]
  refine ⟨hS.o (sP_1 hg), ?_⟩
  refine ⟨fun hc => ?_, fun hc => ?_⟩
  · have h := h.1 hc
    exact qx_i hS hx h
  · have h := h.2 hc
    refine ⟨fun hc => ?_, fun hc => ?_⟩
    · have h := h.1 hc
      exact wp.mono (h G A ⟨L, P, rfl, hS⟩) (fun r G' q => qx_trans hx q)
    · have h := h.2 hc
      refine ⟨hS.o (s0_7 hS), ?_⟩
      rw [l0_7_0 hS]
      refine ⟨hS.o (s0_2 hS), ?_⟩
      refine ⟨fun hc => ?_, fun hc => ?_⟩
      · have h := h.1 hc
        exact wp.mono (h G A ⟨L, P, rfl, hS⟩) (fun r G' q => qx_trans hx q)
      · have h := h.2 hc
        refine wpM.mono (h G A ⟨L, P, rfl, hS⟩) (fun rr1 G1 hr => ?_)
        obtain ⟨A1, W1, w1, ⟨L1, P1, rfl, hS1⟩, hy1, rfl, r1, rfl, h⟩ := hr
        refine ⟨r1, rfl, ?_⟩
        have hx1 := Xt.trans hx hy1
        have hg2 : PG L1 g := PG.up hy1 hg
        have ee3 : A1 0 7 = A 0 7 := hy1.2 _ _ hS.1.1 (((n0_7 hS1)).trans ((n0_7 hS)).symm)
        try rw [← ee3]
        have ee4 : A1 g 0 = A g 0 := hy1.2 _ _ hg.1 (((nP_0 hS1 hg2)).trans ((nP_0 hS hg)).symm)
        try rw [← ee4]
        exact ⟨bz_ok h.1, qx_i hS1 hx1 h.2⟩
theorem w_X5_read_65 {E : EE} {d : Nat} {V : VH} {K : Int32 → VH → Prop} {g : Nat} {x2 : Int32} (hg : PG (vL V) g) (h0 : 0 < d) (h : vMI E (d - 1) M_X10_is [sl 0 2, wi 0] V (fun r1 V1 => (r1 = 0 → vMI E (d - 1) M_X10_is [sl 0 2, wi 1] V1 (fun r5 V5 => (r5 = 0 → vMI E (d - 1) M_X10_is [sl 0 2, wi 3] V5 (fun r9 V9 => (r9 = 0 → vMI E (d - 1) M_X10_is [sl 0 2, wi 5] V9 (fun r13 V13 => (r13 = 0 → vMI E (d - 1) M_X10_refuse [sl 0 2] V13 (fun r17 V17 => vwp E d M_X5_read 149 [some (sl 0 7), some (sl g 0), some (wi x2), some (wi r17)] [] V17 (zi K))) ∧ (¬ (r13 = 0) → vMI E (d - 1) M_X5_aimStatement [sl 0 7] V13 (fun r21 V21 => vwp E d M_X5_read 149 [some (sl 0 7), some (sl g 0), some (wi x2), some (wi r21)] [] V21 (zi K))))) ∧ (¬ (r9 = 0) → vMI E (d - 1) M_X5_ruleStatement [sl 0 7] V9 (fun r25 V25 => vwp E d M_X5_read 149 [some (sl 0 7), some (sl g 0), some (wi x2), some (wi r25)] [] V25 (zi K))))) ∧ (¬ (r5 = 0) → vMI E (d - 1) M_X5_varStatement [sl 0 7] V5 (fun r29 V29 => vwp E d M_X5_read 149 [some (sl 0 7), some (sl g 0), some (wi x2), some (wi r29)] [] V29 (zi K))))) ∧ (¬ (r1 = 0) → vMI E (d - 1) M_X5_factStatement [sl 0 7] V1 (fun r33 V33 => vwp E d M_X5_read 149 [some (sl 0 7), some (sl g 0), some (wi x2), some (wi r33)] [] V33 (zi K))))) : vwp E d M_X5_read 65 [some (sl 0 7), some (sl g 0), some (wi x2), none] [] V (zi K) := by
  intro G A hR
  obtain ⟨L, P, rfl, hS⟩ := hR
  have hx := Xt.refl (V := pl G A L P) (A := A)
  show wp E d M_X5_read 65 [some (vr (A 0 7)), some (vr (A g 0)), some (vi x2), none] [] G _
  refine v_X5_read_65 h0 ?_
  refine ⟨hS.o (s0_7 hS), ?_⟩
  rw [l0_7_0 hS]
  refine ⟨hS.o (s0_2 hS), ?_⟩
  refine wpM.mono (h G A ⟨L, P, rfl, hS⟩) (fun rr1 G1 hr => ?_)
  obtain ⟨A1, W1, w1, ⟨L1, P1, rfl, hS1⟩, hy1, rfl, r1, rfl, h⟩ := hr
  refine ⟨r1, rfl, ?_⟩
  have hx1 := Xt.trans hx hy1
  have hg2 : PG L1 g := PG.up hy1 hg
  have ee3 : A1 0 7 = A 0 7 := hy1.2 _ _ hS.1.1 (((n0_7 hS1)).trans ((n0_7 hS)).symm)
  try rw [← ee3]
  have ee4 : A1 g 0 = A g 0 := hy1.2 _ _ hg.1 (((nP_0 hS1 hg2)).trans ((nP_0 hS hg)).symm)
  try rw [← ee4]
  refine ⟨fun hc => ?_, fun hc => ?_⟩
  · have h := h.1 hc
    refine ⟨hS1.o (s0_7 hS1), ?_⟩
    rw [l0_7_0 hS1]
    refine ⟨hS1.o (s0_2 hS1), ?_⟩
    refine wpM.mono (h G1 A1 ⟨L1, P1, rfl, hS1⟩) (fun rr5 G5 hr => ?_)
    obtain ⟨A5, W5, w5, ⟨L5, P5, rfl, hS5⟩, hy5, rfl, r5, rfl, h⟩ := hr
    refine ⟨r5, rfl, ?_⟩
    have hx5 := Xt.trans hx1 hy5
    have hg6 : PG L5 g := PG.up hy5 hg2
    have ee7 : A5 0 7 = A1 0 7 := hy5.2 _ _ hS1.1.1 (((n0_7 hS5)).trans ((n0_7 hS1)).symm)
    try rw [← ee7]
    have ee8 : A5 g 0 = A1 g 0 := hy5.2 _ _ hg2.1 (((nP_0 hS5 hg6)).trans ((nP_0 hS1 hg2)).symm)
    try rw [← ee8]
    refine ⟨fun hc => ?_, fun hc => ?_⟩
    · have h := h.1 hc
      refine ⟨hS5.o (s0_7 hS5), ?_⟩
      rw [l0_7_0 hS5]
      refine ⟨hS5.o (s0_2 hS5), ?_⟩
      refine wpM.mono (h G5 A5 ⟨L5, P5, rfl, hS5⟩) (fun rr9 G9 hr => ?_)
      obtain ⟨A9, W9, w9, ⟨L9, P9, rfl, hS9⟩, hy9, rfl, r9, rfl, h⟩ := hr
      refine ⟨r9, rfl, ?_⟩
      have hx9 := Xt.trans hx5 hy9
      have hg10 : PG L9 g := PG.up hy9 hg6
      have ee11 : A9 0 7 = A5 0 7 := hy9.2 _ _ hS5.1.1 (((n0_7 hS9)).trans ((n0_7 hS5)).symm)
      try rw [← ee11]
      have ee12 : A9 g 0 = A5 g 0 := hy9.2 _ _ hg6.1 (((nP_0 hS9 hg10)).trans ((nP_0 hS5 hg6)).symm)
      try rw [← ee12]
      refine ⟨fun hc => ?_, fun hc => ?_⟩
      · have h := h.1 hc
        refine ⟨hS9.o (s0_7 hS9), ?_⟩
        rw [l0_7_0 hS9]
        refine ⟨hS9.o (s0_2 hS9), ?_⟩
        refine wpM.mono (h G9 A9 ⟨L9, P9, rfl, hS9⟩) (fun rr13 G13 hr => ?_)
        obtain ⟨A13, W13, w13, ⟨L13, P13, rfl, hS13⟩, hy13, rfl, r13, rfl, h⟩ := hr
        refine ⟨r13, rfl, ?_⟩
        have hx13 := Xt.trans hx9 hy13
        have hg14 : PG L13 g := PG.up hy13 hg10
        have ee15 : A13 0 7 = A9 0 7 := hy13.2 _ _ hS9.1.1 (((n0_7 hS13)).trans ((n0_7 hS9)).symm)
        try rw [← ee15]
        have ee16 : A13 g 0 = A9 g 0 := hy13.2 _ _ hg10.1 (((nP_0 hS13 hg14)).trans ((nP_0 hS9 hg10)).symm)
        try rw [← ee16]
        refine ⟨fun hc => ?_, fun hc => ?_⟩
        · have h := h.1 hc
          refine ⟨hS13.o (s0_7 hS13), ?_⟩
          rw [l0_7_0 hS13]
          refine ⟨hS13.o (s0_2 hS13), ?_⟩
          refine wpM.mono (h G13 A13 ⟨L13, P13, rfl, hS13⟩) (fun rr17 G17 hr => ?_)
          obtain ⟨A17, W17, w17, ⟨L17, P17, rfl, hS17⟩, hy17, rfl, r17, rfl, h⟩ := hr
          refine ⟨r17, rfl, ?_⟩
          have hx17 := Xt.trans hx13 hy17
          have hg18 : PG L17 g := PG.up hy17 hg14
          have ee19 : A17 0 7 = A13 0 7 := hy17.2 _ _ hS13.1.1 (((n0_7 hS17)).trans ((n0_7 hS13)).symm)
          try rw [← ee19]
          have ee20 : A17 g 0 = A13 g 0 := hy17.2 _ _ hg14.1 (((nP_0 hS17 hg18)).trans ((nP_0 hS13 hg14)).symm)
          try rw [← ee20]
          exact wp.mono (h G17 A17 ⟨L17, P17, rfl, hS17⟩) (fun r G' q => qx_trans hx17 q)
        · have h := h.2 hc
          refine ⟨hS13.o (s0_7 hS13), ?_⟩
          refine wpM.mono (h G13 A13 ⟨L13, P13, rfl, hS13⟩) (fun rr21 G21 hr => ?_)
          obtain ⟨A21, W21, w21, ⟨L21, P21, rfl, hS21⟩, hy21, rfl, r21, rfl, h⟩ := hr
          refine ⟨r21, rfl, ?_⟩
          have hx21 := Xt.trans hx13 hy21
          have hg22 : PG L21 g := PG.up hy21 hg14
          have ee23 : A21 0 7 = A13 0 7 := hy21.2 _ _ hS13.1.1 (((n0_7 hS21)).trans ((n0_7 hS13)).symm)
          try rw [← ee23]
          have ee24 : A21 g 0 = A13 g 0 := hy21.2 _ _ hg14.1 (((nP_0 hS21 hg22)).trans ((nP_0 hS13 hg14)).symm)
          try rw [← ee24]
          exact wp.mono (h G21 A21 ⟨L21, P21, rfl, hS21⟩) (fun r G' q => qx_trans hx21 q)
      · have h := h.2 hc
        refine ⟨hS9.o (s0_7 hS9), ?_⟩
        refine wpM.mono (h G9 A9 ⟨L9, P9, rfl, hS9⟩) (fun rr25 G25 hr => ?_)
        obtain ⟨A25, W25, w25, ⟨L25, P25, rfl, hS25⟩, hy25, rfl, r25, rfl, h⟩ := hr
        refine ⟨r25, rfl, ?_⟩
        have hx25 := Xt.trans hx9 hy25
        have hg26 : PG L25 g := PG.up hy25 hg10
        have ee27 : A25 0 7 = A9 0 7 := hy25.2 _ _ hS9.1.1 (((n0_7 hS25)).trans ((n0_7 hS9)).symm)
        try rw [← ee27]
        have ee28 : A25 g 0 = A9 g 0 := hy25.2 _ _ hg10.1 (((nP_0 hS25 hg26)).trans ((nP_0 hS9 hg10)).symm)
        try rw [← ee28]
        exact wp.mono (h G25 A25 ⟨L25, P25, rfl, hS25⟩) (fun r G' q => qx_trans hx25 q)
    · have h := h.2 hc
      refine ⟨hS5.o (s0_7 hS5), ?_⟩
      refine wpM.mono (h G5 A5 ⟨L5, P5, rfl, hS5⟩) (fun rr29 G29 hr => ?_)
      obtain ⟨A29, W29, w29, ⟨L29, P29, rfl, hS29⟩, hy29, rfl, r29, rfl, h⟩ := hr
      refine ⟨r29, rfl, ?_⟩
      have hx29 := Xt.trans hx5 hy29
      have hg30 : PG L29 g := PG.up hy29 hg6
      have ee31 : A29 0 7 = A5 0 7 := hy29.2 _ _ hS5.1.1 (((n0_7 hS29)).trans ((n0_7 hS5)).symm)
      try rw [← ee31]
      have ee32 : A29 g 0 = A5 g 0 := hy29.2 _ _ hg6.1 (((nP_0 hS29 hg30)).trans ((nP_0 hS5 hg6)).symm)
      try rw [← ee32]
      exact wp.mono (h G29 A29 ⟨L29, P29, rfl, hS29⟩) (fun r G' q => qx_trans hx29 q)
  · have h := h.2 hc
    refine ⟨hS1.o (s0_7 hS1), ?_⟩
    refine wpM.mono (h G1 A1 ⟨L1, P1, rfl, hS1⟩) (fun rr33 G33 hr => ?_)
    obtain ⟨A33, W33, w33, ⟨L33, P33, rfl, hS33⟩, hy33, rfl, r33, rfl, h⟩ := hr
    refine ⟨r33, rfl, ?_⟩
    have hx33 := Xt.trans hx1 hy33
    have hg34 : PG L33 g := PG.up hy33 hg2
    have ee35 : A33 0 7 = A1 0 7 := hy33.2 _ _ hS1.1.1 (((n0_7 hS33)).trans ((n0_7 hS1)).symm)
    try rw [← ee35]
    have ee36 : A33 g 0 = A1 g 0 := hy33.2 _ _ hg2.1 (((nP_0 hS33 hg34)).trans ((nP_0 hS1 hg2)).symm)
    try rw [← ee36]
    exact wp.mono (h G33 A33 ⟨L33, P33, rfl, hS33⟩) (fun r G' q => qx_trans hx33 q)

