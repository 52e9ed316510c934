theorem w_X12_searched_0 {E : EE} {d : Nat} {V : VH} {K : Int32 → VH → Prop} {x1 : Int32}  (h : (¬ (vI V 6 0 79) = 0 → (¬ x1 = 0 → (¬ x1 = 1 → (¬ x1 = 2 → K (-1) V) ∧ (x1 = 2 → K (vI V 6 0 78) V)) ∧ (x1 = 1 → K (vI V 6 0 76) V)) ∧ (x1 = 0 → K (vI V 6 0 77) V)) ∧ ((vI V 6 0 79) = 0 → K (-1) V)) : vMI E d M_X12_searched [sl 6 0, wi x1] V K := by
  intro G A hR
  obtain ⟨L, P, rfl, hS⟩ := hR
  have hx := Xt.refl (V := pl G A L P) (A := A)
  show wpM E d M_X12_searched [vr (A 6 0), vi x1] G _
  refine wpM_of mk_X12_searched (Nat.le_of_ble_eq_true rfl) ?_
  refine v_X12_searched_0 ?_
  refine ⟨hS.o (s6_0 hS), ?_⟩
  refine ⟨fun hc => ?_, fun hc => ?_⟩
  · have h := h.1 hc
    refine ⟨fun hc => ?_, fun hc => ?_⟩
    · have h := h.1 hc
      refine ⟨fun hc => ?_, fun hc => ?_⟩
      · have h := h.1 hc
        refine ⟨fun hc => ?_, fun hc => ?_⟩
        · have h := h.1 hc
          exact qx_i hS hx h
        · have h := h.2 hc
          exact qx_i hS hx h
      · have h := h.2 hc
        exact qx_i hS hx h
    · have h := h.2 hc
      exact qx_i hS hx h
  · have h := h.2 hc
    exact qx_i hS hx h
theorem w_X12_search_0 {E : EE} {d : Nat} {V : VH} {K : Int32 → VH → Prop} {x1 : Int32} {x2 : Int32} {x3 : Int32} {x4 : Int32} {x5 : Int32}  (h0 : 0 < d) (h : vMI E (d - 1) M_X12_isProblem [sl 6 0, wi x1] V (fun r1 V1 => (r1 = 0 → K (-1) V1) ∧ (¬ (r1 = 0) → (x5 < 0 → K (-1) V1) ∧ (¬ (x5 < 0) → (2000 < x5 → K (-1) V1) ∧ (¬ (2000 < x5) → (x2 < 0 → K (-1) V1) ∧ (¬ (x2 < 0) → (x2 ≤ 3 → (x2 ≤ 0 → vwp E d M_X12_search 70 [some (sl 6 0), some (wi x1), some (wi x2), some (wi x3), some (wi x4), some (wi x5), none, none, none, none, none, none, none, none, none, none, none, none] [] V1 (zi K)) ∧ (¬ (x2 ≤ 0) → (x3 < 1 → K (-1) V1) ∧ (¬ (x3 < 1) → (¬ x2 = 1 → (¬ x2 = 2 → vwp E d M_X12_search 65 [some (sl 6 0), some (wi x1), some (wi x2), some (wi x3), some (wi x4), some (wi x5), none, none, none, none, none, none, none, none, none, none, none, none] [wi 10000, wi x3] V1 (zi K)) ∧ (x2 = 2 → vwp E d M_X12_search 65 [some (sl 6 0), some (wi x1), some (wi x2), some (wi x3), some (wi x4), some (wi x5), none, none, none, none, none, none, none, none, none, none, none, none] [wi 100, wi x3] V1 (zi K))) ∧ (x2 = 1 → vwp E d M_X12_search 65 [some (sl 6 0), some (wi x1), some (wi x2), some (wi x3), some (wi x4), some (wi x5), none, none, none, none, none, none, none, none, none, none, none, none] [wi 20, wi x3] V1 (zi K))))) ∧ (¬ (x2 ≤ 3) → K (-1) V1))))))) : vMI E d M_X12_search [sl 6 0, wi x1, wi x2, wi x3, wi x4, wi x5] V K := by
  intro G A hR
  obtain ⟨L, P, rfl, hS⟩ := hR
  have hx := Xt.refl (V := pl G A L P) (A := A)
  show wpM E d M_X12_search [vr (A 6 0), vi x1, vi x2, vi x3, vi x4, vi x5] G _
  refine wpM_of mk_X12_search (Nat.le_of_ble_eq_true rfl) ?_
  refine v_X12_search_0 h0 ?_
  refine ⟨hS.o (s6_0 hS), ?_⟩
  refine wpM.mono (h G A ⟨L, P, rfl, hS⟩) (fun rr1 G1 hr => ?_)
  obtain ⟨A1, W1, w1, ⟨L1, P1, rfl, hS1⟩, hy1, rfl, r1, rfl, h⟩ := hr
  refine ⟨r1, rfl, ?_⟩
  have hx1 := Xt.trans hx hy1
  have ee2 : A1 6 0 = A 6 0 := hy1.2 _ _ hS.1.2.1 (((n6_0 hS1)).trans ((n6_0 hS)).symm)
  try rw [← ee2]
  refine ⟨fun hc => ?_, fun hc => ?_⟩
  · have h := h.1 hc
    exact qx_i hS1 hx1 h
  · have h := h.2 hc
    refine ⟨fun hc => ?_, fun hc => ?_⟩
    · have h := h.1 hc
      exact qx_i hS1 hx1 h
    · have h := h.2 hc
      refine ⟨fun hc => ?_, fun hc => ?_⟩
      · have h := h.1 hc
        exact qx_i hS1 hx1 h
      · have h := h.2 hc
        refine ⟨fun hc => ?_, fun hc => ?_⟩
        · have h := h.1 hc
          exact qx_i hS1 hx1 h
        · have h := h.2 hc
          refine ⟨fun hc => ?_, fun hc => ?_⟩
          · have h := h.1 hc
            refine ⟨fun hc => ?_, fun hc => ?_⟩
            · have h := h.1 hc
              exact wp.mono (h G1 A1 ⟨L1, P1, rfl, hS1⟩) (fun r G' q => qx_trans hx1 q)
            · have h := h.2 hc
              refine ⟨fun hc => ?_, fun hc => ?_⟩
              · have h := h.1 hc
                exact qx_i hS1 hx1 h
              · have h := h.2 hc
                refine ⟨fun hc => ?_, fun hc => ?_⟩
                · have h := h.1 hc
                  refine ⟨fun hc => ?_, fun hc => ?_⟩
                  · have h := h.1 hc
                    exact wp.mono (h G1 A1 ⟨L1, P1, rfl, hS1⟩) (fun r G' q => qx_trans hx1 q)
                  · have h := h.2 hc
                    exact wp.mono (h G1 A1 ⟨L1, P1, rfl, hS1⟩) (fun r G' q => qx_trans hx1 q)
                · have h := h.2 hc
                  exact wp.mono (h G1 A1 ⟨L1, P1, rfl, hS1⟩) (fun r G' q => qx_trans hx1 q)
          · have h := h.2 hc
            exact qx_i hS1 hx1 h
theorem w_X12_regret_0 {E : EE} {d : Nat} {V : VH} {K : Int64 → VH → Prop} {x1 : Int32} {x2 : Int32}  (h0 : 0 < d) (h : vMI E (d - 1) M_X12_isProblem [sl 6 0, wi x1] V (fun r1 V1 => (r1 = 0 → K (-9223372036854775808) V1) ∧ (¬ (r1 = 0) → vMI E (d - 1) M_X12_isLevel [wi x2] V1 (fun r3 V3 => (r3 = 0 → K (-9223372036854775808) V3) ∧ (¬ (r3 = 0) → vp_in x1 5 ∧ ((¬ (vI V3 6 29 (Int32.toNatClampNeg x1)) = 0 → vMI E (d - 1) M_X12_handOf [sl 6 0, wi x1] V3 (fun r6 V6 => vwp E d M_X12_regret 45 [some (sl 6 0), some (wi x1), some (wi x2), some (wi r6), some (wj (-9223372036854775808)), none, some (wi 1), some (wi 0), none, none, none, none, none] [] V6 (zj K))) ∧ ((vI V3 6 29 (Int32.toNatClampNeg x1)) = 0 → K (-9223372036854775808) V3))))))) : vMJ E d M_X12_regret [sl 6 0, wi x1, wi x2] V K := by
  intro G A hR
  obtain ⟨L, P, rfl, hS⟩ := hR
  have hx := Xt.refl (V := pl G A L P) (A := A)
  show wpM E d M_X12_regret [vr (A 6 0), vi x1, vi x2] G _
  refine wpM_of mk_X12_regret (Nat.le_of_ble_eq_true rfl) ?_
  refine v_X12_regret_0 h0 ?_
  refine ⟨hS.o (s6_0 hS), ?_⟩
  refine wpM.mono (h G A ⟨L, P, rfl, hS⟩) (fun rr1 G1 hr => ?_)
  obtain ⟨A1, W1, w1, ⟨L1, P1, rfl, hS1⟩, hy1, rfl, r1, rfl, h⟩ := hr
  refine ⟨r1, rfl, ?_⟩
  have hx1 := Xt.trans hx hy1
  have ee2 : A1 6 0 = A 6 0 := hy1.2 _ _ hS.1.2.1 (((n6_0 hS1)).trans ((n6_0 hS)).symm)
  try rw [← ee2]
  refine ⟨fun hc => ?_, fun hc => ?_⟩
  · have h := h.1 hc
    exact qx_j hS1 hx1 h
  · have h := h.2 hc
    refine wpM.mono (h G1 A1 ⟨L1, P1, rfl, hS1⟩) (fun rr3 G3 hr => ?_)
    obtain ⟨A3, W3, w3, ⟨L3, P3, rfl, hS3⟩, hy3, rfl, r3, rfl, h⟩ := hr
    refine ⟨r3, rfl, ?_⟩
    have hx3 := Xt.trans hx1 hy3
    have ee4 : A3 6 0 = A1 6 0 := hy3.2 _ _ hS1.1.2.1 (((n6_0 hS3)).trans ((n6_0 hS1)).symm)
    try rw [← ee4]
    refine ⟨fun hc => ?_, fun hc => ?_⟩
    · have h := h.1 hc
      exact qx_j hS3 hx3 h
    · have h := h.2 hc
      refine ⟨hS3.o (s6_0 hS3), ?_⟩
      rw [l6_0_32 hS3]
      refine ⟨hS3.o (s6_29 hS3), ?_⟩
      obtain ⟨hi5, h⟩ := h
      refine ⟨by first | (rw [(n6_29 hS3)]; exact hi5) | exact (congrArg (vp_in _) (n6_29 hS3)).mpr hi5 | exact hi5, ?_⟩
      refine ⟨fun hc => ?_, fun hc => ?_⟩
      · have h := h.1 hc
        refine wpM.mono (h G3 A3 ⟨L3, P3, rfl, hS3⟩) (fun rr6 G6 hr => ?_)
        obtain ⟨A6, W6, w6, ⟨L6, P6, rfl, hS6⟩, hy6, rfl, r6, rfl, h⟩ := hr
        refine ⟨r6, rfl, ?_⟩
        have hx6 := Xt.trans hx3 hy6
        have ee7 : A6 6 0 = A3 6 0 := hy6.2 _ _ hS3.1.2.1 (((n6_0 hS6)).trans ((n6_0 hS3)).symm)
        try rw [← ee7]
        exact wp.mono (h G6 A6 ⟨L6, P6, rfl, hS6⟩) (fun r G' q => qx_trans hx6 q)
      · have h := h.2 hc
        exact qx_j hS3 hx3 h
theorem w_X12_expected_0 {E : EE} {d : Nat} {V : VH} {K : Int64 → VH → Prop} {x1 : Int32} {x2 : Int32}  (h0 : 0 < d) (h : vMI E (d - 1) M_X12_isProblem [sl 6 0, wi x1] V (fun r1 V1 => (r1 = 0 → K (-9223372036854775808) V1) ∧ (¬ (r1 = 0) → vMI E (d - 1) M_X12_isLevel [wi x2] V1 (fun r3 V3 => (r3 = 0 → K (-9223372036854775808) V3) ∧ (¬ (r3 = 0) → vp_in x1 5 ∧ ((¬ (vI V3 6 29 (Int32.toNatClampNeg x1)) = 0 → vMI E (d - 1) M_X12_handOf [sl 6 0, wi x1] V3 (fun r6 V6 => ∀ V8 : VH, V8 = wrI V6 6 0 62 (-1) → vwp E d M_X12_expected 48 [some (sl 6 0), some (wi x1), some (wi x2), some (wi r6), some (wj 0), none, some (wj 0), none, some (wi 0)] [] V8 (zj K))) ∧ ((vI V3 6 29 (Int32.toNatClampNeg x1)) = 0 → K (-9223372036854775808) V3))))))) : vMJ E d M_X12_expected [sl 6 0, wi x1, wi x2] V K := by
  intro G A hR
  obtain ⟨L, P, rfl, hS⟩ := hR
  have hx := Xt.refl (V := pl G A L P) (A := A)
  show wpM E d M_X12_expected [vr (A 6 0), vi x1, vi x2] G _
  refine wpM_of mk_X12_expected (Nat.le_of_ble_eq_true rfl) ?_
  refine v_X12_expected_0 h0 ?_
  refine ⟨hS.o (s6_0 hS), ?_⟩
  refine wpM.mono (h G A ⟨L, P, rfl, hS⟩) (fun rr1 G1 hr => ?_)
  obtain ⟨A1, W1, w1, ⟨L1, P1, rfl, hS1⟩, hy1, rfl, r1, rfl, h⟩ := hr
  refine ⟨r1, rfl, ?_⟩
  have hx1 := Xt.trans hx hy1
  have ee2 : A1 6 0 = A 6 0 := hy1.2 _ _ hS.1.2.1 (((n6_0 hS1)).trans ((n6_0 hS)).symm)
  try rw [← ee2]
  refine ⟨fun hc => ?_, fun hc => ?_⟩
  · have h := h.1 hc
    exact qx_j hS1 hx1 h
  · have h := h.2 hc
    refine wpM.mono (h G1 A1 ⟨L1, P1, rfl, hS1⟩) (fun rr3 G3 hr => ?_)
    obtain ⟨A3, W3, w3, ⟨L3, P3, rfl, hS3⟩, hy3, rfl, r3, rfl, h⟩ := hr
    refine ⟨r3, rfl, ?_⟩
    have hx3 := Xt.trans hx1 hy3
    have ee4 : A3 6 0 = A1 6 0 := hy3.2 _ _ hS1.1.2.1 (((n6_0 hS3)).trans ((n6_0 hS1)).symm)
    try rw [← ee4]
    refine ⟨fun hc => ?_, fun hc => ?_⟩
    · have h := h.1 hc
      exact qx_j hS3 hx3 h
    · have h := h.2 hc
      refine ⟨hS3.o (s6_0 hS3), ?_⟩
      rw [l6_0_32 hS3]
      refine ⟨hS3.o (s6_29 hS3), ?_⟩
      obtain ⟨hi5, h⟩ := h
      refine ⟨by first | (rw [(n6_29 hS3)]; exact hi5) | exact (congrArg (vp_in _) (n6_29 hS3)).mpr hi5 | exact hi5, ?_⟩
      refine ⟨fun hc => ?_, fun hc => ?_⟩
      · have h := h.1 hc
        refine wpM.mono (h G3 A3 ⟨L3, P3, rfl, hS3⟩) (fun rr6 G6 hr => ?_)
        obtain ⟨A6, W6, w6, ⟨L6, P6, rfl, hS6⟩, hy6, rfl, r6, rfl, h⟩ := hr
        refine ⟨r6, rfl, ?_⟩
        have hx6 := Xt.trans hx3 hy6
        have ee7 : A6 6 0 = A3 6 0 := hy6.2 _ _ hS3.1.2.1 (((n6_0 hS6)).trans ((n6_0 hS3)).symm)
        try rw [← ee7]
        refine ⟨hS6.o (s6_0 hS6), ?_⟩
        have hS8 : Sh E (sI G6 (A6 6 0) 62 (-1)) A6 L6 P6 := Sh_sI (rfl : sI G6 (A6 6 0) 62 (-1) = sI G6 (A6 6 0) 62 (-1)) hS6 (s6_0 hS6) (okT_0 rfl)
        have h := h (pl (sI G6 (A6 6 0) 62 (-1)) A6 L6 P6) (pl_sI (rfl : sI G6 (A6 6 0) 62 (-1) = sI G6 (A6 6 0) 62 (-1)) hS6 (s6_0 hS6))
        have hx8 : Xt (pl G A L P) A (pl (sI G6 (A6 6 0) 62 (-1)) A6 L6 P6) A6 := Xt_sI (rfl : sI G6 (A6 6 0) 62 (-1) = sI G6 (A6 6 0) 62 (-1)) hx6
        exact wp.mono (h (sI G6 (A6 6 0) 62 (-1)) A6 ⟨L6, P6, rfl, hS8⟩) (fun r G' q => qx_trans hx8 q)
      · have h := h.2 hc
        exact qx_j hS3 hx3 h
theorem w_X12_robust_0 {E : EE} {d : Nat} {V : VH} {K : Int32 → VH → Prop} {x1 : Int32}  (h0 : 0 < d) (h : vMI E (d - 1) M_X12_isProblem [sl 6 0, wi x1] V (fun r1 V1 => (¬ r1 = 0 → vp_in x1 5 ∧ ((¬ (vI V1 6 29 (Int32.toNatClampNeg x1)) = 0 → vwp E d M_X12_robust 23 [some (sl 6 0), some (wi x1), some (wi 0), none, none] [] V1 (zi K)) ∧ ((vI V1 6 29 (Int32.toNatClampNeg x1)) = 0 → K 0 V1))) ∧ (r1 = 0 → K (-1) V1))) : vMI E d M_X12_robust [sl 6 0, wi x1] V K := by
  intro G A hR
  obtain ⟨L, P, rfl, hS⟩ := hR
  have hx := Xt.refl (V := pl G A L P) (A := A)
  show wpM E d M_X12_robust [vr (A 6 0), vi x1] G _
  refine wpM_of mk_X12_robust (Nat.le_of_ble_eq_true rfl) ?_
  refine v_X12_robust_0 h0 ?_
  refine ⟨hS.o (s6_0 hS), ?_⟩
  refine wpM.mono (h G A ⟨L, P, rfl, hS⟩) (fun rr1 G1 hr => ?_)
  obtain ⟨A1, W1, w1, ⟨L1, P1, rfl, hS1⟩, hy1, rfl, r1, rfl, h⟩ := hr
  refine ⟨r1, rfl, ?_⟩
  have hx1 := Xt.trans hx hy1
  have ee2 : A1 6 0 = A 6 0 := hy1.2 _ _ hS.1.2.1 (((n6_0 hS1)).trans ((n6_0 hS)).symm)
  try rw [← ee2]
  refine ⟨fun hc => ?_, fun hc => ?_⟩
  · have h := h.1 hc
    refine ⟨hS1.o (s6_0 hS1), ?_⟩
    rw [l6_0_32 hS1]
    refine ⟨hS1.o (s6_29 hS1), ?_⟩
    obtain ⟨hi3, h⟩ := h
    refine ⟨by first | (rw [(n6_29 hS1)]; exact hi3) | exact (congrArg (vp_in _) (n6_29 hS1)).mpr hi3 | exact hi3, ?_⟩
    refine ⟨fun hc => ?_, fun hc => ?_⟩
    · have h := h.1 hc
      exact wp.mono (h G1 A1 ⟨L1, P1, rfl, hS1⟩) (fun r G' q => qx_trans hx1 q)
    · have h := h.2 hc
      exact qx_i hS1 hx1 h
  · have h := h.2 hc
    exact qx_i hS1 hx1 h
theorem w_X12_unfold_0 {E : EE} {d : Nat} {V : VH} {K : Int32 → VH → Prop} {x1 : Int32}  (h0 : 0 < d) (h : vMI E (d - 1) M_X12_isProblem [sl 6 0, wi x1] V (fun r1 V1 => (¬ r1 = 0 → vp_in x1 5 ∧ (vp_in x1 5 ∧ (∀ V5 : VH, V5 = wrI V1 6 29 (Int32.toNatClampNeg x1) 0 → K (vI V1 6 29 (Int32.toNatClampNeg x1)) V5))) ∧ (r1 = 0 → K (-1) V1))) : vMI E d M_X12_unfold [sl 6 0, wi x1] V K := by
  intro G A hR
  obtain ⟨L, P, rfl, hS⟩ := hR
  have hx := Xt.refl (V := pl G A L P) (A := A)
  show wpM E d M_X12_unfold [vr (A 6 0), vi x1] G _
  refine wpM_of mk_X12_unfold (Nat.le_of_ble_eq_true rfl) ?_
  refine v_X12_unfold_0 h0 ?_
  refine ⟨hS.o (s6_0 hS), ?_⟩
  refine wpM.mono (h G A ⟨L, P, rfl, hS⟩) (fun rr1 G1 hr => ?_)
  obtain ⟨A1, W1, w1, ⟨L1, P1, rfl, hS1⟩, hy1, rfl, r1, rfl, h⟩ := hr
  refine ⟨r1, rfl, ?_⟩
  have hx1 := Xt.trans hx hy1
  have ee2 : A1 6 0 = A 6 0 := hy1.2 _ _ hS.1.2.1 (((n6_0 hS1)).trans ((n6_0 hS)).symm)
  try rw [← ee2]
  refine ⟨fun hc => ?_, fun hc => ?_⟩
  · have h := h.1 hc
    refine ⟨hS1.o (s6_0 hS1), ?_⟩
    rw [l6_0_32 hS1]
    refine ⟨hS1.o (s6_29 hS1), ?_⟩
    obtain ⟨hi3, h⟩ := h
    refine ⟨by first | (rw [(n6_29 hS1)]; exact hi3) | exact (congrArg (vp_in _) (n6_29 hS1)).mpr hi3 | exact hi3, ?_⟩
    obtain ⟨hi4, h⟩ := h
    refine ⟨by first | (rw [(n6_29 hS1)]; exact hi4) | exact (congrArg (vp_in _) (n6_29 hS1)).mpr hi4 | exact hi4, ?_⟩
    have hS5 : Sh E (sI G1 (A1 6 29) (Int32.toNatClampNeg x1) 0) A1 L1 P1 := Sh_sI (rfl : sI G1 (A1 6 29) (Int32.toNatClampNeg x1) 0 = sI G1 (A1 6 29) (Int32.toNatClampNeg x1) 0) hS1 (s6_29 hS1) (okT_0 rfl)
    have h := h (pl (sI G1 (A1 6 29) (Int32.toNatClampNeg x1) 0) A1 L1 P1) (pl_sI (rfl : sI G1 (A1 6 29) (Int32.toNatClampNeg x1) 0 = sI G1 (A1 6 29) (Int32.toNatClampNeg x1) 0) hS1 (s6_29 hS1))
    have hx5 : Xt (pl G A L P) A (pl (sI G1 (A1 6 29) (Int32.toNatClampNeg x1) 0) A1 L1 P1) A1 := Xt_sI (rfl : sI G1 (A1 6 29) (Int32.toNatClampNeg x1) 0 = sI G1 (A1 6 29) (Int32.toNatClampNeg x1) 0) hx1
    exact qx_i hS5 hx5 h
  · have h := h.2 hc
    exact qx_i hS1 hx1 h
theorem w_X12_told_0 {E : EE} {d : Nat} {V : VH} {K : Int32 → VH → Prop} {x1 : Int32} {x2 : Int32} {x3 : Int32} {x4 : Int32}  (h0 : 0 < d) (h : vMI E (d - 1) M_X12_isFact [sl 6 0, wi x1, wi x3] V (fun r1 V1 => (r1 = 0 → K 0 V1) ∧ (¬ (r1 = 0) → (x2 < 0 → K 0 V1) ∧ (¬ (x2 < 0) → vp_in x1 5 ∧ (((vI V1 6 29 (Int32.toNatClampNeg x1)) ≤ x2 → K 0 V1) ∧ (¬ ((vI V1 6 29 (Int32.toNatClampNeg x1)) ≤ x2) → (x4 < (-9999) → K 0 V1) ∧ (¬ (x4 < (-9999)) → (x4 ≤ 9999 → vp_in ((16 * ((6 * x1) + x2)) + x3) 480 ∧ (∀ V5 : VH, V5 = wrI V1 6 31 (Int32.toNatClampNeg ((16 * ((6 * x1) + x2)) + x3)) (nz 1) → vp_in ((16 * ((6 * x1) + x2)) + x3) 480 ∧ (∀ V7 : VH, V7 = wrI V5 6 32 (Int32.toNatClampNeg ((16 * ((6 * x1) + x2)) + x3)) x4 → K 1 V7))) ∧ (¬ (x4 ≤ 9999) → K 0 V1)))))))) : vMI E d M_X12_told [sl 6 0, wi x1, wi x2, wi x3, wi x4] V K := by
  intro G A hR
  obtain ⟨L, P, rfl, hS⟩ := hR
  have hx := Xt.refl (V := pl G A L P) (A := A)
  show wpM E d M_X12_told [vr (A 6 0), vi x1, vi x2, vi x3, vi x4] G _
  refine wpM_of mk_X12_told (Nat.le_of_ble_eq_true rfl) ?_
  refine v_X12_told_0 h0 ?_
  refine ⟨hS.o (s6_0 hS), ?_⟩
  refine wpM.mono (h G A ⟨L, P, rfl, hS⟩) (fun rr1 G1 hr => ?_)
  obtain ⟨A1, W1, w1, ⟨L1, P1, rfl, hS1⟩, hy1, rfl, r1, rfl, h⟩ := hr
  refine ⟨r1, rfl, ?_⟩
  have hx1 := Xt.trans hx hy1
  have ee2 : A1 6 0 = A 6 0 := hy1.2 _ _ hS.1.2.1 (((n6_0 hS1)).trans ((n6_0 hS)).symm)
  try rw [← ee2]
  refine ⟨fun hc => ?_, fun hc => ?_⟩
  · have h := h.1 hc
    exact qx_i hS1 hx1 h
  · have h := h.2 hc
    refine ⟨fun hc => ?_, fun hc => ?_⟩
    · have h := h.1 hc
      exact qx_i hS1 hx1 h
    · have h := h.2 hc
      refine ⟨hS1.o (s6_0 hS1), ?_⟩
      rw [l6_0_32 hS1]
      refine ⟨hS1.o (s6_29 hS1), ?_⟩
      obtain ⟨hi3, h⟩ := h
      refine ⟨by first | (rw [(n6_29 hS1)]; exact hi3) | exact (congrArg (vp_in _) (n6_29 hS1)).mpr hi3 | exact hi3, ?_⟩
      refine ⟨fun hc => ?_, fun hc => ?_⟩
      · have h := h.1 hc
        exact qx_i hS1 hx1 h
      · have h := h.2 hc
        refine ⟨fun hc => ?_, fun hc => ?_⟩
        · have h := h.1 hc
          exact qx_i hS1 hx1 h
        · have h := h.2 hc
          refine ⟨fun hc => ?_, fun hc => ?_⟩
          · have h := h.1 hc
            rw [l6_0_34 hS1]
            refine ⟨hS1.o (s6_31 hS1), ?_⟩
            obtain ⟨hi4, h⟩ := h
            refine ⟨by first | (rw [(n6_31 hS1)]; exact hi4) | exact (congrArg (vp_in _) (n6_31 hS1)).mpr hi4 | exact hi4, ?_⟩
            intro G5 eG5
            have hS5 : Sh E G5 A1 L1 P1 := Sh_sI eG5 hS1 (s6_31 hS1) (okT_nz rfl)
            have h := h (pl G5 A1 L1 P1) (pl_sI eG5 hS1 (s6_31 hS1))
            have hx5 : Xt (pl G A L P) A (pl G5 A1 L1 P1) A1 := Xt_sI eG5 hx1
            rw [l6_0_35 hS5]
            refine ⟨hS5.o (s6_32 hS5), ?_⟩
            obtain ⟨hi6, h⟩ := h
            refine ⟨by first | (rw [(n6_32 hS5)]; exact hi6) | exact (congrArg (vp_in _) (n6_32 hS5)).mpr hi6 | exact hi6, ?_⟩
            intro G7 eG7
            have hS7 : Sh E G7 A1 L1 P1 := Sh_sI eG7 hS5 (s6_32 hS5) (okT_0 rfl)
            have h := h (pl G7 A1 L1 P1) (pl_sI eG7 hS5 (s6_32 hS5))
            have hx7 : Xt (pl G A L P) A (pl G7 A1 L1 P1) A1 := Xt_sI eG7 hx5
            exact qx_i hS7 hx7 h
          · have h := h.2 hc
            exact qx_i hS1 hx1 h
theorem w_X12_isFact_0 {E : EE} {d : Nat} {V : VH} {K : Int32 → VH → Prop} {x1 : Int32} {x2 : Int32}  (h0 : 0 < d) (h : vMI E (d - 1) M_X12_isProblem [sl 6 0, wi x1] V (fun r1 V1 => (r1 = 0 → K 0 V1) ∧ (¬ (r1 = 0) → (x2 < 0 → K 0 V1) ∧ (¬ (x2 < 0) → vp_in (4 * x1) 20 ∧ (((vI V1 6 14 (Int32.toNatClampNeg (4 * x1))) ≤ x2 → K 0 V1) ∧ (¬ ((vI V1 6 14 (Int32.toNatClampNeg (4 * x1))) ≤ x2) → K 1 V1)))))) : vMI E d M_X12_isFact [sl 6 0, wi x1, wi x2] V K := by
  intro G A hR
  obtain ⟨L, P, rfl, hS⟩ := hR
  have hx := Xt.refl (V := pl G A L P) (A := A)
  show wpM E d M_X12_isFact [vr (A 6 0), vi x1, vi x2] G _
  refine wpM_of mk_X12_isFact (Nat.le_of_ble_eq_true rfl) ?_
  refine v_X12_isFact_0 h0 ?_
  refine ⟨hS.o (s6_0 hS), ?_⟩
  refine wpM.mono (h G A ⟨L, P, rfl, hS⟩) (fun rr1 G1 hr => ?_)
  obtain ⟨A1, W1, w1, ⟨L1, P1, rfl, hS1⟩, hy1, rfl, r1, rfl, h⟩ := hr
  refine ⟨r1, rfl, ?_⟩
  have hx1 := Xt.trans hx hy1
  have ee2 : A1 6 0 = A 6 0 := hy1.2 _ _ hS.1.2.1 (((n6_0 hS1)).trans ((n6_0 hS)).symm)
  try rw [← ee2]
  refine ⟨fun hc => ?_, fun hc => ?_⟩
  · have h := h.1 hc
    exact qx_i hS1 hx1 h
  · have h := h.2 hc
    refine ⟨fun hc => ?_, fun hc => ?_⟩
    · have h := h.1 hc
      exact qx_i hS1 hx1 h
    · have h := h.2 hc
      refine ⟨hS1.o (s6_0 hS1), ?_⟩
      rw [l6_0_17 hS1]
      refine ⟨hS1.o (s6_14 hS1), ?_⟩
      obtain ⟨hi3, h⟩ := h
      refine ⟨by first | (rw [(n6_14 hS1)]; exact hi3) | exact (congrArg (vp_in _) (n6_14 hS1)).mpr hi3 | exact hi3, ?_⟩
      refine ⟨fun hc => ?_, fun hc => ?_⟩
      · have h := h.1 hc
        exact qx_i hS1 hx1 h
      · have h := h.2 hc
        exact qx_i hS1 hx1 h
theorem w_X12_future_0 {E : EE} {d : Nat} {V : VH} {K : Int32 → VH → Prop} {x1 : Int32} {x2 : Int32}  (h0 : 0 < d) (h : vMI E (d - 1) M_X12_isProblem [sl 6 0, wi x1] V (fun r1 V1 => (r1 = 0 → K (-1) V1) ∧ (¬ (r1 = 0) → (x2 < 1 → K (-1) V1) ∧ (¬ (x2 < 1) → (x2 ≤ 100 → vp_in x1 5 ∧ ((¬ (vI V1 6 29 (Int32.toNatClampNeg x1)) = 6 → vp_in x1 5 ∧ (vp_in ((6 * x1) + (vI V1 6 29 (Int32.toNatClampNeg x1))) 30 ∧ (∀ V6 : VH, V6 = wrI V1 6 30 (Int32.toNatClampNeg ((6 * x1) + (vI V1 6 29 (Int32.toNatClampNeg x1)))) x2 → vwp E d M_X12_future 57 [some (sl 6 0), some (wi x1), some (wi x2), some (wi (vI V1 6 29 (Int32.toNatClampNeg x1))), some (wi 0)] [] V6 (zi K)))) ∧ ((vI V1 6 29 (Int32.toNatClampNeg x1)) = 6 → K (-100000) V1))) ∧ (¬ (x2 ≤ 100) → K (-1) V1))))) : vMI E d M_X12_future [sl 6 0, wi x1, wi x2] V K := by
  intro G A hR
  obtain ⟨L, P, rfl, hS⟩ := hR
  have hx := Xt.refl (V := pl G A L P) (A := A)
  show wpM E d M_X12_future [vr (A 6 0), vi x1, vi x2] G _
  refine wpM_of mk_X12_future (Nat.le_of_ble_eq_true rfl) ?_
  refine v_X12_future_0 h0 ?_
  refine ⟨hS.o (s6_0 hS), ?_⟩
  refine wpM.mono (h G A ⟨L, P, rfl, hS⟩) (fun rr1 G1 hr => ?_)
  obtain ⟨A1, W1, w1, ⟨L1, P1, rfl, hS1⟩, hy1, rfl, r1, rfl, h⟩ := hr
  refine ⟨r1, rfl, ?_⟩
  have hx1 := Xt.trans hx hy1
  have ee2 : A1 6 0 = A 6 0 := hy1.2 _ _ hS.1.2.1 (((n6_0 hS1)).trans ((n6_0 hS)).symm)
  try rw [← ee2]
  refine ⟨fun hc => ?_, fun hc => ?_⟩
  · have h := h.1 hc
    exact qx_i hS1 hx1 h
  · have h := h.2 hc
    refine ⟨fun hc => ?_, fun hc => ?_⟩
    · have h := h.1 hc
      exact qx_i hS1 hx1 h
    · have h := h.2 hc
      refine ⟨fun hc => ?_, fun hc => ?_⟩
      · have h := h.1 hc
        refine ⟨hS1.o (s6_0 hS1), ?_⟩
        rw [l6_0_32 hS1]
        refine ⟨hS1.o (s6_29 hS1), ?_⟩
        obtain ⟨hi3, h⟩ := h
        refine ⟨by first | (rw [(n6_29 hS1)]; exact hi3) | exact (congrArg (vp_in _) (n6_29 hS1)).mpr hi3 | exact hi3, ?_⟩
        refine ⟨fun hc => ?_, fun hc => ?_⟩
        · have h := h.1 hc
          obtain ⟨hi4, h⟩ := h
          refine ⟨by first | (rw [(n6_29 hS1)]; exact hi4) | exact (congrArg (vp_in _) (n6_29 hS1)).mpr hi4 | exact hi4, ?_⟩
          rw [l6_0_33 hS1]
          refine ⟨hS1.o (s6_30 hS1), ?_⟩
          obtain ⟨hi5, h⟩ := h
          refine ⟨by first | (rw [(n6_30 hS1)]; exact hi5) | exact (congrArg (vp_in _) (n6_30 hS1)).mpr hi5 | exact hi5, ?_⟩
          have hS6 : Sh E (sI G1 (A1 6 30) (Int32.toNatClampNeg ((6 * x1) + (gI G1 (A1 6 29) (Int32.toNatClampNeg x1)))) x2) A1 L1 P1 := Sh_sI (rfl : sI G1 (A1 6 30) (Int32.toNatClampNeg ((6 * x1) + (gI G1 (A1 6 29) (Int32.toNatClampNeg x1)))) x2 = sI G1 (A1 6 30) (Int32.toNatClampNeg ((6 * x1) + (gI G1 (A1 6 29) (Int32.toNatClampNeg x1)))) x2) hS1 (s6_30 hS1) (okT_0 rfl)
          have h := h (pl (sI G1 (A1 6 30) (Int32.toNatClampNeg ((6 * x1) + (gI G1 (A1 6 29) (Int32.toNatClampNeg x1)))) x2) A1 L1 P1) (pl_sI (rfl : sI G1 (A1 6 30) (Int32.toNatClampNeg ((6 * x1) + (gI G1 (A1 6 29) (Int32.toNatClampNeg x1)))) x2 = sI G1 (A1 6 30) (Int32.toNatClampNeg ((6 * x1) + (gI G1 (A1 6 29) (Int32.toNatClampNeg x1)))) x2) hS1 (s6_30 hS1))
          have hx6 : Xt (pl G A L P) A (pl (sI G1 (A1 6 30) (Int32.toNatClampNeg ((6 * x1) + (gI G1 (A1 6 29) (Int32.toNatClampNeg x1)))) x2) A1 L1 P1) A1 := Xt_sI (rfl : sI G1 (A1 6 30) (Int32.toNatClampNeg ((6 * x1) + (gI G1 (A1 6 29) (Int32.toNatClampNeg x1)))) x2 = sI G1 (A1 6 30) (Int32.toNatClampNeg ((6 * x1) + (gI G1 (A1 6 29) (Int32.toNatClampNeg x1)))) x2) hx1
          exact wp.mono (h (sI G1 (A1 6 30) (Int32.toNatClampNeg ((6 * x1) + (gI G1 (A1 6 29) (Int32.toNatClampNeg x1)))) x2) A1 ⟨L1, P1, rfl, hS6⟩) (fun r G' q => qx_trans hx6 q)
        · have h := h.2 hc
          exact qx_i hS1 hx1 h
      · have h := h.2 hc
        exact qx_i hS1 hx1 h
theorem w_X12_because_0 {E : EE} {d : Nat} {V : VH} {K : Int32 → VH → Prop} {x1 : Int32} {x2 : Int32} {x3 : Int32}  (h0 : 0 < d) (h : vMI E (d - 1) M_X12_isVar [sl 6 0, wi x1, wi x2] V (fun r1 V1 => (¬ r1 = 0 → vMV E (d - 1) M_X12_know [sl 6 0, wi x1] V1 (fun V3 => vMI E (d - 1) M_X12_bestWith [sl 6 0, wi x1, wi x2, wi x3] V3 (fun r5 V5 => vMI E (d - 1) M_X12_firstBest [sl 6 0, wi x1, wi (-1), wi 0] V5 (fun r7 V7 => vwp E d M_X12_because 37 [some (sl 6 0), some (wi x1), some (wi x2), some (wi x3), some (wi r5), some (wi r7), some (wi 0)] [] V7 (zi K))))) ∧ (r1 = 0 → K (-1) V1))) : vMI E d M_X12_because [sl 6 0, wi x1, wi x2, wi x3] V K := by
  intro G A hR
  obtain ⟨L, P, rfl, hS⟩ := hR
  have hx := Xt.refl (V := pl G A L P) (A := A)
  show wpM E d M_X12_because [vr (A 6 0), vi x1, vi x2, vi x3] G _
  refine wpM_of mk_X12_because (Nat.le_of_ble_eq_true rfl) ?_
  refine v_X12_because_0 h0 ?_
  refine ⟨hS.o (s6_0 hS), ?_⟩
  refine wpM.mono (h G A ⟨L, P, rfl, hS⟩) (fun rr1 G1 hr => ?_)
  obtain ⟨A1, W1, w1, ⟨L1, P1, rfl, hS1⟩, hy1, rfl, r1, rfl, h⟩ := hr
  refine ⟨r1, rfl, ?_⟩
  have hx1 := Xt.trans hx hy1
  have ee2 : A1 6 0 = A 6 0 := hy1.2 _ _ hS.1.2.1 (((n6_0 hS1)).trans ((n6_0 hS)).symm)
  try rw [← ee2]
  refine ⟨fun hc => ?_, fun hc => ?_⟩
  · have h := h.1 hc
    refine ⟨hS1.o (s6_0 hS1), ?_⟩
    refine wpM.mono (h G1 A1 ⟨L1, P1, rfl, hS1⟩) (fun rr3 G3 hr => ?_)
    obtain ⟨A3, W3, w3, ⟨L3, P3, rfl, hS3⟩, hy3, rfl, rfl, h⟩ := hr
    refine ⟨rfl, ?_⟩
    have hx3 := Xt.trans hx1 hy3
    have ee4 : A3 6 0 = A1 6 0 := hy3.2 _ _ hS1.1.2.1 (((n6_0 hS3)).trans ((n6_0 hS1)).symm)
    try rw [← ee4]
    refine ⟨hS3.o (s6_0 hS3), ?_⟩
    refine wpM.mono (h G3 A3 ⟨L3, P3, rfl, hS3⟩) (fun rr5 G5 hr => ?_)
    obtain ⟨A5, W5, w5, ⟨L5, P5, rfl, hS5⟩, hy5, rfl, r5, rfl, h⟩ := hr
    refine ⟨r5, rfl, ?_⟩
    have hx5 := Xt.trans hx3 hy5
    have ee6 : A5 6 0 = A3 6 0 := hy5.2 _ _ hS3.1.2.1 (((n6_0 hS5)).trans ((n6_0 hS3)).symm)
    try rw [← ee6]
    refine ⟨hS5.o (s6_0 hS5), ?_⟩
    refine wpM.mono (h G5 A5 ⟨L5, P5, rfl, hS5⟩) (fun rr7 G7 hr => ?_)
    obtain ⟨A7, W7, w7, ⟨L7, P7, rfl, hS7⟩, hy7, rfl, r7, rfl, h⟩ := hr
    refine ⟨r7, rfl, ?_⟩
    have hx7 := Xt.trans hx5 hy7
    have ee8 : A7 6 0 = A5 6 0 := hy7.2 _ _ hS5.1.2.1 (((n6_0 hS7)).trans ((n6_0 hS5)).symm)
    try rw [← ee8]
    exact wp.mono (h G7 A7 ⟨L7, P7, rfl, hS7⟩) (fun r G' q => qx_trans hx7 q)
  · have h := h.2 hc
    exact qx_i hS1 hx1 h
theorem w_X12_isVar_0 {E : EE} {d : Nat} {V : VH} {K : Int32 → VH → Prop} {x1 : Int32} {x2 : Int32}  (h0 : 0 < d) (h : vMI E (d - 1) M_X12_isProblem [sl 6 0, wi x1] V (fun r1 V1 => (r1 = 0 → K 0 V1) ∧ (¬ (r1 = 0) → (x2 < 0 → K 0 V1) ∧ (¬ (x2 < 0) → vMI E (d - 1) M_X12_vars [sl 6 0, wi x1] V1 (fun r3 V3 => (r3 ≤ x2 → K 0 V3) ∧ (¬ (r3 ≤ x2) → K 1 V3)))))) : vMI E d M_X12_isVar [sl 6 0, wi x1, wi x2] V K := by
  intro G A hR
  obtain ⟨L, P, rfl, hS⟩ := hR
  have hx := Xt.refl (V := pl G A L P) (A := A)
  show wpM E d M_X12_isVar [vr (A 6 0), vi x1, vi x2] G _
  refine wpM_of mk_X12_isVar (Nat.le_of_ble_eq_true rfl) ?_
  refine v_X12_isVar_0 h0 ?_
  refine ⟨hS.o (s6_0 hS), ?_⟩
  refine wpM.mono (h G A ⟨L, P, rfl, hS⟩) (fun rr1 G1 hr => ?_)
  obtain ⟨A1, W1, w1, ⟨L1, P1, rfl, hS1⟩, hy1, rfl, r1, rfl, h⟩ := hr
  refine ⟨r1, rfl, ?_⟩
  have hx1 := Xt.trans hx hy1
  have ee2 : A1 6 0 = A 6 0 := hy1.2 _ _ hS.1.2.1 (((n6_0 hS1)).trans ((n6_0 hS)).symm)
  try rw [← ee2]
  refine ⟨fun hc => ?_, fun hc => ?_⟩
  · have h := h.1 hc
    exact qx_i hS1 hx1 h
  · have h := h.2 hc
    refine ⟨fun hc => ?_, fun hc => ?_⟩
    · have h := h.1 hc
      exact qx_i hS1 hx1 h
    · have h := h.2 hc
      refine ⟨hS1.o (s6_0 hS1), ?_⟩
      refine wpM.mono (h G1 A1 ⟨L1, P1, rfl, hS1⟩) (fun rr3 G3 hr => ?_)
      obtain ⟨A3, W3, w3, ⟨L3, P3, rfl, hS3⟩, hy3, rfl, r3, rfl, h⟩ := hr
      refine ⟨r3, rfl, ?_⟩
      have hx3 := Xt.trans hx1 hy3
      have ee4 : A3 6 0 = A1 6 0 := hy3.2 _ _ hS1.1.2.1 (((n6_0 hS3)).trans ((n6_0 hS1)).symm)
      try rw [← ee4]
      refine ⟨fun hc => ?_, fun hc => ?_⟩
      · have h := h.1 hc
        exact qx_i hS3 hx3 h
      · have h := h.2 hc
        exact qx_i hS3 hx3 h
theorem w_X12_whyNot_0 {E : EE} {d : Nat} {V : VH} {K : Int64 → VH → Prop} {x1 : Int32} {x2 : Int32} {x3 : Int32} {x4 : Int32}  (h0 : 0 < d) (h : vMI E (d - 1) M_X12_isVar [sl 6 0, wi x1, wi x2] V (fun r1 V1 => (r1 = 0 → K (-9223372036854775808) V1) ∧ (¬ (r1 = 0) → vMI E (d - 1) M_X12_isLevel [wi x4] V1 (fun r3 V3 => (¬ r3 = 0 → vMV E (d - 1) M_X12_know [sl 6 0, wi x1] V3 (fun V5 => vMI E (d - 1) M_X12_bestWith [sl 6 0, wi x1, wi x2, wi x3] V5 (fun r7 V7 => (0 ≤ r7 → vp_in ((20000 * x4) + r7) 60000 ∧ (K (vJ V7 6 45 (Int32.toNatClampNeg ((20000 * x4) + r7))) V7)) ∧ (¬ (0 ≤ r7) → K (-9223372036854775808) V7)))) ∧ (r3 = 0 → K (-9223372036854775808) V3))))) : vMJ E d M_X12_whyNot [sl 6 0, wi x1, wi x2, wi x3, wi x4] V K := by
  intro G A hR
  obtain ⟨L, P, rfl, hS⟩ := hR
  have hx := Xt.refl (V := pl G A L P) (A := A)
  show wpM E d M_X12_whyNot [vr (A 6 0), vi x1, vi x2, vi x3, vi x4] G _
  refine wpM_of mk_X12_whyNot (Nat.le_of_ble_eq_true rfl) ?_
  refine v_X12_whyNot_0 h0 ?_
  refine ⟨hS.o (s6_0 hS), ?_⟩
  refine wpM.mono (h G A ⟨L, P, rfl, hS⟩) (fun rr1 G1 hr => ?_)
  obtain ⟨A1, W1, w1, ⟨L1, P1, rfl, hS1⟩, hy1, rfl, r1, rfl, h⟩ := hr
  refine ⟨r1, rfl, ?_⟩
  have hx1 := Xt.trans hx hy1
  have ee2 : A1 6 0 = A 6 0 := hy1.2 _ _ hS.1.2.1 (((n6_0 hS1)).trans ((n6_0 hS)).symm)
  try rw [← ee2]
  refine ⟨fun hc => ?_, fun hc => ?_⟩
  · have h := h.1 hc
    exact qx_j hS1 hx1 h
  · have h := h.2 hc
    refine wpM.mono (h G1 A1 ⟨L1, P1, rfl, hS1⟩) (fun rr3 G3 hr => ?_)
    obtain ⟨A3, W3, w3, ⟨L3, P3, rfl, hS3⟩, hy3, rfl, r3, rfl, h⟩ := hr
    refine ⟨r3, rfl, ?_⟩
    have hx3 := Xt.trans hx1 hy3
    have ee4 : A3 6 0 = A1 6 0 := hy3.2 _ _ hS1.1.2.1 (((n6_0 hS3)).trans ((n6_0 hS1)).symm)
    try rw [← ee4]
    refine ⟨fun hc => ?_, fun hc => ?_⟩
    · have h := h.1 hc
      refine ⟨hS3.o (s6_0 hS3), ?_⟩
      refine wpM.mono (h G3 A3 ⟨L3, P3, rfl, hS3⟩) (fun rr5 G5 hr => ?_)
      obtain ⟨A5, W5, w5, ⟨L5, P5, rfl, hS5⟩, hy5, rfl, rfl, h⟩ := hr
      refine ⟨rfl, ?_⟩
      have hx5 := Xt.trans hx3 hy5
      have ee6 : A5 6 0 = A3 6 0 := hy5.2 _ _ hS3.1.2.1 (((n6_0 hS5)).trans ((n6_0 hS3)).symm)
      try rw [← ee6]
      refine ⟨hS5.o (s6_0 hS5), ?_⟩
      refine wpM.mono (h G5 A5 ⟨L5, P5, rfl, hS5⟩) (fun rr7 G7 hr => ?_)
      obtain ⟨A7, W7, w7, ⟨L7, P7, rfl, hS7⟩, hy7, rfl, r7, rfl, h⟩ := hr
      refine ⟨r7, rfl, ?_⟩
      have hx7 := Xt.trans hx5 hy7
      have ee8 : A7 6 0 = A5 6 0 := hy7.2 _ _ hS5.1.2.1 (((n6_0 hS7)).trans ((n6_0 hS5)).symm)
      try rw [← ee8]
      refine ⟨fun hc => ?_, fun hc => ?_⟩
      · have h := h.1 hc
        refine ⟨hS7.o (s6_0 hS7), ?_⟩
        rw [l6_0_66 hS7]
        refine ⟨hS7.o (s6_45 hS7), ?_⟩
        obtain ⟨hi9, h⟩ := h
        refine ⟨by first | (rw [(n6_45 hS7)]; exact hi9) | exact (congrArg (vp_in _) (n6_45 hS7)).mpr hi9 | exact hi9, ?_⟩
        exact qx_j hS7 hx7 h
      · have h := h.2 hc
        exact qx_j hS7 hx7 h
    · have h := h.2 hc
      exact qx_j hS3 hx3 h
theorem w_X12_without_0 {E : EE} {d : Nat} {V : VH} {K : Int64 → VH → Prop} {x1 : Int32} {x2 : Int32} {x3 : Int32}  (h0 : 0 < d) (h : vMI E (d - 1) M_X12_isRule [sl 6 0, wi x1, wi x2] V (fun r1 V1 => (r1 = 0 → K (-9223372036854775808) V1) ∧ (¬ (r1 = 0) → vMI E (d - 1) M_X12_isLevel [wi x3] V1 (fun r3 V3 => (¬ r3 = 0 → vMV E (d - 1) M_X12_know [sl 6 0, wi x1] V3 (fun V5 => vp_in ((24 * x1) + x2) 120 ∧ (vwp E d M_X12_without 41 [some (sl 6 0), some (wi x1), some (wi x2), some (wi x3), some (wi (vI V5 6 24 (Int32.toNatClampNeg ((24 * x1) + x2)))), some (wi 0), none, none, none] [] V5 (zj K)))) ∧ (r3 = 0 → K (-9223372036854775808) V3))))) : vMJ E d M_X12_without [sl 6 0, wi x1, wi x2, wi x3] V K := by
  intro G A hR
  obtain ⟨L, P, rfl, hS⟩ := hR
  have hx := Xt.refl (V := pl G A L P) (A := A)
  show wpM E d M_X12_without [vr (A 6 0), vi x1, vi x2, vi x3] G _
  refine wpM_of mk_X12_without (Nat.le_of_ble_eq_true rfl) ?_
  refine v_X12_without_0 h0 ?_
  refine ⟨hS.o (s6_0 hS), ?_⟩
  refine wpM.mono (h G A ⟨L, P, rfl, hS⟩) (fun rr1 G1 hr => ?_)
  obtain ⟨A1, W1, w1, ⟨L1, P1, rfl, hS1⟩, hy1, rfl, r1, rfl, h⟩ := hr
  refine ⟨r1, rfl, ?_⟩
  have hx1 := Xt.trans hx hy1
  have ee2 : A1 6 0 = A 6 0 := hy1.2 _ _ hS.1.2.1 (((n6_0 hS1)).trans ((n6_0 hS)).symm)
  try rw [← ee2]
  refine ⟨fun hc => ?_, fun hc => ?_⟩
  · have h := h.1 hc
    exact qx_j hS1 hx1 h
  · have h := h.2 hc
    refine wpM.mono (h G1 A1 ⟨L1, P1, rfl, hS1⟩) (fun rr3 G3 hr => ?_)
    obtain ⟨A3, W3, w3, ⟨L3, P3, rfl, hS3⟩, hy3, rfl, r3, rfl, h⟩ := hr
    refine ⟨r3, rfl, ?_⟩
    have hx3 := Xt.trans hx1 hy3
    have ee4 : A3 6 0 = A1 6 0 := hy3.2 _ _ hS1.1.2.1 (((n6_0 hS3)).trans ((n6_0 hS1)).symm)
    try rw [← ee4]
    refine ⟨fun hc => ?_, fun hc => ?_⟩
    · have h := h.1 hc
      refine ⟨hS3.o (s6_0 hS3), ?_⟩
      refine wpM.mono (h G3 A3 ⟨L3, P3, rfl, hS3⟩) (fun rr5 G5 hr => ?_)
      obtain ⟨A5, W5, w5, ⟨L5, P5, rfl, hS5⟩, hy5, rfl, rfl, h⟩ := hr
      refine ⟨rfl, ?_⟩
      have hx5 := Xt.trans hx3 hy5
      have ee6 : A5 6 0 = A3 6 0 := hy5.2 _ _ hS3.1.2.1 (((n6_0 hS5)).trans ((n6_0 hS3)).symm)
      try rw [← ee6]
      refine ⟨hS5.o (s6_0 hS5), ?_⟩
      rw [l6_0_27 hS5]
      refine ⟨hS5.o (s6_24 hS5), ?_⟩
      obtain ⟨hi7, h⟩ := h
      refine ⟨by first | (rw [(n6_24 hS5)]; exact hi7) | exact (congrArg (vp_in _) (n6_24 hS5)).mpr hi7 | exact hi7, ?_⟩
      exact wp.mono (h G5 A5 ⟨L5, P5, rfl, hS5⟩) (fun r G' q => qx_trans hx5 q)
    · have h := h.2 hc
      exact qx_j hS3 hx3 h
theorem w_X12_isRule_0 {E : EE} {d : Nat} {V : VH} {K : Int32 → VH → Prop} {x1 : Int32} {x2 : Int32}  (h0 : 0 < d) (h : vMI E (d - 1) M_X12_isProblem [sl 6 0, wi x1] V (fun r1 V1 => (r1 = 0 → K 0 V1) ∧ (¬ (r1 = 0) → (x2 < 0 → K 0 V1) ∧ (¬ (x2 < 0) → vMI E (d - 1) M_X12_rulesOf [sl 6 0, wi x1] V1 (fun r3 V3 => (r3 ≤ x2 → K 0 V3) ∧ (¬ (r3 ≤ x2) → K 1 V3)))))) : vMI E d M_X12_isRule [sl 6 0, wi x1, wi x2] V K := by
  intro G A hR
  obtain ⟨L, P, rfl, hS⟩ := hR
  have hx := Xt.refl (V := pl G A L P) (A := A)
  show wpM E d M_X12_isRule [vr (A 6 0), vi x1, vi x2] G _
  refine wpM_of mk_X12_isRule (Nat.le_of_ble_eq_true rfl) ?_
  refine v_X12_isRule_0 h0 ?_
  refine ⟨hS.o (s6_0 hS), ?_⟩
  refine wpM.mono (h G A ⟨L, P, rfl, hS⟩) (fun rr1 G1 hr => ?_)
  obtain ⟨A1, W1, w1, ⟨L1, P1, rfl, hS1⟩, hy1, rfl, r1, rfl, h⟩ := hr
  refine ⟨r1, rfl, ?_⟩
  have hx1 := Xt.trans hx hy1
  have ee2 : A1 6 0 = A 6 0 := hy1.2 _ _ hS.1.2.1 (((n6_0 hS1)).trans ((n6_0 hS)).symm)
  try rw [← ee2]
  refine ⟨fun hc => ?_, fun hc => ?_⟩
  · have h := h.1 hc
    exact qx_i hS1 hx1 h
  · have h := h.2 hc
    refine ⟨fun hc => ?_, fun hc => ?_⟩
    · have h := h.1 hc
      exact qx_i hS1 hx1 h
    · have h := h.2 hc
      refine ⟨hS1.o (s6_0 hS1), ?_⟩
      refine wpM.mono (h G1 A1 ⟨L1, P1, rfl, hS1⟩) (fun rr3 G3 hr => ?_)
      obtain ⟨A3, W3, w3, ⟨L3, P3, rfl, hS3⟩, hy3, rfl, r3, rfl, h⟩ := hr
      refine ⟨r3, rfl, ?_⟩
      have hx3 := Xt.trans hx1 hy3
      have ee4 : A3 6 0 = A1 6 0 := hy3.2 _ _ hS1.1.2.1 (((n6_0 hS3)).trans ((n6_0 hS1)).symm)
      try rw [← ee4]
      refine ⟨fun hc => ?_, fun hc => ?_⟩
      · have h := h.1 hc
        exact qx_i hS3 hx3 h
      · have h := h.2 hc
        exact qx_i hS3 hx3 h
theorem w_X12_relax_0 {E : EE} {d : Nat} {V : VH} {K : Int32 → VH → Prop} {x1 : Int32}  (h0 : 0 < d) (h : vMI E (d - 1) M_X12_isProblem [sl 6 0, wi x1] V (fun r1 V1 => (¬ r1 = 0 → vMV E (d - 1) M_X12_findMasks [sl 6 0, wi x1] V1 (fun V3 => vwp E d M_X12_relax 22 [some (sl 6 0), some (wi x1), some (wi (-1)), some (wi 0), some (wi 0), none, none] [] V3 (zi K))) ∧ (r1 = 0 → K (-1) V1))) : vMI E d M_X12_relax [sl 6 0, wi x1] V K := by
  intro G A hR
  obtain ⟨L, P, rfl, hS⟩ := hR
  have hx := Xt.refl (V := pl G A L P) (A := A)
  show wpM E d M_X12_relax [vr (A 6 0), vi x1] G _
  refine wpM_of mk_X12_relax (Nat.le_of_ble_eq_true rfl) ?_
  refine v_X12_relax_0 h0 ?_
  refine ⟨hS.o (s6_0 hS), ?_⟩
  refine wpM.mono (h G A ⟨L, P, rfl, hS⟩) (fun rr1 G1 hr => ?_)
  obtain ⟨A1, W1, w1, ⟨L1, P1, rfl, hS1⟩, hy1, rfl, r1, rfl, h⟩ := hr
  refine ⟨r1, rfl, ?_⟩
  have hx1 := Xt.trans hx hy1
  have ee2 : A1 6 0 = A 6 0 := hy1.2 _ _ hS.1.2.1 (((n6_0 hS1)).trans ((n6_0 hS)).symm)
  try rw [← ee2]
  refine ⟨fun hc => ?_, fun hc => ?_⟩
  · have h := h.1 hc
    refine ⟨hS1.o (s6_0 hS1), ?_⟩
    refine wpM.mono (h G1 A1 ⟨L1, P1, rfl, hS1⟩) (fun rr3 G3 hr => ?_)
    obtain ⟨A3, W3, w3, ⟨L3, P3, rfl, hS3⟩, hy3, rfl, rfl, h⟩ := hr
    refine ⟨rfl, ?_⟩
    have hx3 := Xt.trans hx1 hy3
    have ee4 : A3 6 0 = A1 6 0 := hy3.2 _ _ hS1.1.2.1 (((n6_0 hS3)).trans ((n6_0 hS1)).symm)
    try rw [← ee4]
    exact wp.mono (h G3 A3 ⟨L3, P3, rfl, hS3⟩) (fun r G' q => qx_trans hx3 q)
  · have h := h.2 hc
    exact qx_i hS1 hx1 h
theorem w_X12_fewest_0 {E : EE} {d : Nat} {V : VH} {K : Int32 → VH → Prop} {x1 : Int32}  (h0 : 0 < d) (h : vMI E (d - 1) M_X12_isProblem [sl 6 0, wi x1] V (fun r1 V1 => (¬ r1 = 0 → vMV E (d - 1) M_X12_findMasks [sl 6 0, wi x1] V1 (fun V3 => vwp E d M_X12_fewest 22 [some (sl 6 0), some (wi x1), some (wi 0), some (wi 0), some (wi 0)] [] V3 (zi K))) ∧ (r1 = 0 → K (-1) V1))) : vMI E d M_X12_fewest [sl 6 0, wi x1] V K := by
  intro G A hR
  obtain ⟨L, P, rfl, hS⟩ := hR
  have hx := Xt.refl (V := pl G A L P) (A := A)
  show wpM E d M_X12_fewest [vr (A 6 0), vi x1] G _
  refine wpM_of mk_X12_fewest (Nat.le_of_ble_eq_true rfl) ?_
  refine v_X12_fewest_0 h0 ?_
  refine ⟨hS.o (s6_0 hS), ?_⟩
  refine wpM.mono (h G A ⟨L, P, rfl, hS⟩) (fun rr1 G1 hr => ?_)
  obtain ⟨A1, W1, w1, ⟨L1, P1, rfl, hS1⟩, hy1, rfl, r1, rfl, h⟩ := hr
  refine ⟨r1, rfl, ?_⟩
  have hx1 := Xt.trans hx hy1
  have ee2 : A1 6 0 = A 6 0 := hy1.2 _ _ hS.1.2.1 (((n6_0 hS1)).trans ((n6_0 hS)).symm)
  try rw [← ee2]
  refine ⟨fun hc => ?_, fun hc => ?_⟩
  · have h := h.1 hc
    refine ⟨hS1.o (s6_0 hS1), ?_⟩
    refine wpM.mono (h G1 A1 ⟨L1, P1, rfl, hS1⟩) (fun rr3 G3 hr => ?_)
    obtain ⟨A3, W3, w3, ⟨L3, P3, rfl, hS3⟩, hy3, rfl, rfl, h⟩ := hr
    refine ⟨rfl, ?_⟩
    have hx3 := Xt.trans hx1 hy3
    have ee4 : A3 6 0 = A1 6 0 := hy3.2 _ _ hS1.1.2.1 (((n6_0 hS3)).trans ((n6_0 hS1)).symm)
    try rw [← ee4]
    exact wp.mono (h G3 A3 ⟨L3, P3, rfl, hS3⟩) (fun r G' q => qx_trans hx3 q)
  · have h := h.2 hc
    exact qx_i hS1 hx1 h
theorem w_X12_clash_0 {E : EE} {d : Nat} {V : VH} {K : Int32 → VH → Prop} {x1 : Int32}  (h0 : 0 < d) (h : vMI E (d - 1) M_X12_isProblem [sl 6 0, wi x1] V (fun r1 V1 => (¬ r1 = 0 → vMV E (d - 1) M_X12_findMasks [sl 6 0, wi x1] V1 (fun V3 => vMI E (d - 1) M_X12_clashes [sl 6 0, wi ((1 <<< ((vI V3 6 0 73) &&& 31)) - 1)] V3 (fun r5 V5 => (¬ r5 = 0 → vwp E d M_X12_clash 36 [some (sl 6 0), some (wi x1), some (wi ((1 <<< ((vI V3 6 0 73) &&& 31)) - 1)), some (wi 0), none] [] V5 (zi K)) ∧ (r5 = 0 → K 0 V5)))) ∧ (r1 = 0 → K (-1) V1))) : vMI E d M_X12_clash [sl 6 0, wi x1] V K := by
  intro G A hR
  obtain ⟨L, P, rfl, hS⟩ := hR
  have hx := Xt.refl (V := pl G A L P) (A := A)
  show wpM E d M_X12_clash [vr (A 6 0), vi x1] G _
  refine wpM_of mk_X12_clash (Nat.le_of_ble_eq_true rfl) ?_
  refine v_X12_clash_0 h0 ?_
  refine ⟨hS.o (s6_0 hS), ?_⟩
  refine wpM.mono (h G A ⟨L, P, rfl, hS⟩) (fun rr1 G1 hr => ?_)
  obtain ⟨A1, W1, w1, ⟨L1, P1, rfl, hS1⟩, hy1, rfl, r1, rfl, h⟩ := hr
  refine ⟨r1, rfl, ?_⟩
  have hx1 := Xt.trans hx hy1
  have ee2 : A1 6 0 = A 6 0 := hy1.2 _ _ hS.1.2.1 (((n6_0 hS1)).trans ((n6_0 hS)).symm)
  try rw [← ee2]
  refine ⟨fun hc => ?_, fun hc => ?_⟩
  · have h := h.1 hc
    refine ⟨hS1.o (s6_0 hS1), ?_⟩
    refine wpM.mono (h G1 A1 ⟨L1, P1, rfl, hS1⟩) (fun rr3 G3 hr => ?_)
    obtain ⟨A3, W3, w3, ⟨L3, P3, rfl, hS3⟩, hy3, rfl, rfl, h⟩ := hr
    refine ⟨rfl, ?_⟩
    have hx3 := Xt.trans hx1 hy3
    have ee4 : A3 6 0 = A1 6 0 := hy3.2 _ _ hS1.1.2.1 (((n6_0 hS3)).trans ((n6_0 hS1)).symm)
    try rw [← ee4]
    refine ⟨hS3.o (s6_0 hS3), ?_⟩
    refine wpM.mono (h G3 A3 ⟨L3, P3, rfl, hS3⟩) (fun rr5 G5 hr => ?_)
    obtain ⟨A5, W5, w5, ⟨L5, P5, rfl, hS5⟩, hy5, rfl, r5, rfl, h⟩ := hr
    refine ⟨r5, rfl, ?_⟩
    have hx5 := Xt.trans hx3 hy5
    have ee6 : A5 6 0 = A3 6 0 := hy5.2 _ _ hS3.1.2.1 (((n6_0 hS5)).trans ((n6_0 hS3)).symm)
    try rw [← ee6]
    try rw [show gI G3 (A5 6 0) = gI G3 (A3 6 0) from by rw [ee6]]
    refine ⟨fun hc => ?_, fun hc => ?_⟩
    · have h := h.1 hc
      exact wp.mono (h G5 A5 ⟨L5, P5, rfl, hS5⟩) (fun r G' q => qx_trans hx5 q)
    · have h := h.2 hc
      exact qx_i hS5 hx5 h
  · have h := h.2 hc
    exact qx_i hS1 hx1 h
theorem w_X12_near_0 {E : EE} {d : Nat} {V : VH} {K : Int32 → VH → Prop} {x1 : Int32} {x2 : Int32}  (h0 : 0 < d) (h : vMI E (d - 1) M_X12_isProblem [sl 6 0, wi x1] V (fun r1 V1 => (¬ r1 = 0 → vMV E (d - 1) M_X12_know [sl 6 0, wi x1] V1 (fun V3 => vMI E (d - 1) M_X12_firstBest [sl 6 0, wi x1, wi (-1), wi 0] V3 (fun r5 V5 => vwp E d M_X12_near 32 [some (sl 6 0), some (wi x1), some (wi x2), some (wi r5), some (wi (-1)), some (wi 0), some (wi 0), none, none] [] V5 (zi K)))) ∧ (r1 = 0 → K (-1) V1))) : vMI E d M_X12_near [sl 6 0, wi x1, wi x2] V K := by
  intro G A hR
  obtain ⟨L, P, rfl, hS⟩ := hR
  have hx := Xt.refl (V := pl G A L P) (A := A)
  show wpM E d M_X12_near [vr (A 6 0), vi x1, vi x2] G _
  refine wpM_of mk_X12_near (Nat.le_of_ble_eq_true rfl) ?_
  refine v_X12_near_0 h0 ?_
  refine ⟨hS.o (s6_0 hS), ?_⟩
  refine wpM.mono (h G A ⟨L, P, rfl, hS⟩) (fun rr1 G1 hr => ?_)
  obtain ⟨A1, W1, w1, ⟨L1, P1, rfl, hS1⟩, hy1, rfl, r1, rfl, h⟩ := hr
  refine ⟨r1, rfl, ?_⟩
  have hx1 := Xt.trans hx hy1
  have ee2 : A1 6 0 = A 6 0 := hy1.2 _ _ hS.1.2.1 (((n6_0 hS1)).trans ((n6_0 hS)).symm)
  try rw [← ee2]
  refine ⟨fun hc => ?_, fun hc => ?_⟩
  · have h := h.1 hc
    refine ⟨hS1.o (s6_0 hS1), ?_⟩
    refine wpM.mono (h G1 A1 ⟨L1, P1, rfl, hS1⟩) (fun rr3 G3 hr => ?_)
    obtain ⟨A3, W3, w3, ⟨L3, P3, rfl, hS3⟩, hy3, rfl, rfl, h⟩ := hr
    refine ⟨rfl, ?_⟩
    have hx3 := Xt.trans hx1 hy3
    have ee4 : A3 6 0 = A1 6 0 := hy3.2 _ _ hS1.1.2.1 (((n6_0 hS3)).trans ((n6_0 hS1)).symm)
    try rw [← ee4]
    refine ⟨hS3.o (s6_0 hS3), ?_⟩
    refine wpM.mono (h G3 A3 ⟨L3, P3, rfl, hS3⟩) (fun rr5 G5 hr => ?_)
    obtain ⟨A5, W5, w5, ⟨L5, P5, rfl, hS5⟩, hy5, rfl, r5, rfl, h⟩ := hr
    refine ⟨r5, rfl, ?_⟩
    have hx5 := Xt.trans hx3 hy5
    have ee6 : A5 6 0 = A3 6 0 := hy5.2 _ _ hS3.1.2.1 (((n6_0 hS5)).trans ((n6_0 hS3)).symm)
    try rw [← ee6]
    exact wp.mono (h G5 A5 ⟨L5, P5, rfl, hS5⟩) (fun r G' q => qx_trans hx5 q)
  · have h := h.2 hc
    exact qx_i hS1 hx1 h
theorem w_X12_frontPlan_0 {E : EE} {d : Nat} {V : VH} {K : Int32 → VH → Prop} {x1 : Int32} {x2 : Int32}  (h0 : 0 < d) (h : vMI E (d - 1) M_X12_isProblem [sl 6 0, wi x1] V (fun r1 V1 => (¬ r1 = 0 → vMV E (d - 1) M_X12_know [sl 6 0, wi x1] V1 (fun V3 => vMI E (d - 1) M_X12_findPair [sl 6 0, wi x1, wi x2] V3 (fun r5 V5 => (¬ r5 = 0 → vwp E d M_X12_frontPlan 28 [some (sl 6 0), some (wi x1), some (wi x2), some (wi 0)] [] V5 (zi K)) ∧ (r5 = 0 → K 0 V5)))) ∧ (r1 = 0 → K 0 V1))) : vMI E d M_X12_frontPlan [sl 6 0, wi x1, wi x2] V K := by
  intro G A hR
  obtain ⟨L, P, rfl, hS⟩ := hR
  have hx := Xt.refl (V := pl G A L P) (A := A)
  show wpM E d M_X12_frontPlan [vr (A 6 0), vi x1, vi x2] G _
  refine wpM_of mk_X12_frontPlan (Nat.le_of_ble_eq_true rfl) ?_
  refine v_X12_frontPlan_0 h0 ?_
  refine ⟨hS.o (s6_0 hS), ?_⟩
  refine wpM.mono (h G A ⟨L, P, rfl, hS⟩) (fun rr1 G1 hr => ?_)
  obtain ⟨A1, W1, w1, ⟨L1, P1, rfl, hS1⟩, hy1, rfl, r1, rfl, h⟩ := hr
  refine ⟨r1, rfl, ?_⟩
  have hx1 := Xt.trans hx hy1
  have ee2 : A1 6 0 = A 6 0 := hy1.2 _ _ hS.1.2.1 (((n6_0 hS1)).trans ((n6_0 hS)).symm)
  try rw [← ee2]
  refine ⟨fun hc => ?_, fun hc => ?_⟩
  · have h := h.1 hc
    refine ⟨hS1.o (s6_0 hS1), ?_⟩
    refine wpM.mono (h G1 A1 ⟨L1, P1, rfl, hS1⟩) (fun rr3 G3 hr => ?_)
    obtain ⟨A3, W3, w3, ⟨L3, P3, rfl, hS3⟩, hy3, rfl, rfl, h⟩ := hr
    refine ⟨rfl, ?_⟩
    have hx3 := Xt.trans hx1 hy3
    have ee4 : A3 6 0 = A1 6 0 := hy3.2 _ _ hS1.1.2.1 (((n6_0 hS3)).trans ((n6_0 hS1)).symm)
    try rw [← ee4]
    refine ⟨hS3.o (s6_0 hS3), ?_⟩
    refine wpM.mono (h G3 A3 ⟨L3, P3, rfl, hS3⟩) (fun rr5 G5 hr => ?_)
    obtain ⟨A5, W5, w5, ⟨L5, P5, rfl, hS5⟩, hy5, rfl, r5, rfl, h⟩ := hr
    refine ⟨r5, rfl, ?_⟩
    have hx5 := Xt.trans hx3 hy5
    have ee6 : A5 6 0 = A3 6 0 := hy5.2 _ _ hS3.1.2.1 (((n6_0 hS5)).trans ((n6_0 hS3)).symm)
    try rw [← ee6]
    refine ⟨fun hc => ?_, fun hc => ?_⟩
    · have h := h.1 hc
      exact wp.mono (h G5 A5 ⟨L5, P5, rfl, hS5⟩) (fun r G' q => qx_trans hx5 q)
    · have h := h.2 hc
      exact qx_i hS5 hx5 h
  · have h := h.2 hc
    exact qx_i hS1 hx1 h
theorem w_X12_frontAt_0 {E : EE} {d : Nat} {V : VH} {K : Int64 → VH → Prop} {x1 : Int32} {x2 : Int32} {x3 : Int32}  (h0 : 0 < d) (h : vMI E (d - 1) M_X12_isProblem [sl 6 0, wi x1] V (fun r1 V1 => (r1 = 0 → K (-9223372036854775808) V1) ∧ (¬ (r1 = 0) → (x3 < 0 → K (-9223372036854775808) V1) ∧ (¬ (x3 < 0) → (x3 ≤ 2 → vMV E (d - 1) M_X12_know [sl 6 0, wi x1] V1 (fun V3 => vMI E (d - 1) M_X12_findPair [sl 6 0, wi x1, wi x2] V3 (fun r5 V5 => (¬ r5 = 0 → (x3 ≤ 0 → vwp E d M_X12_frontAt 66 [some (sl 6 0), some (wi x1), some (wi x2), some (wi x3), some (wj 0), none, some (wi 0)] [] V5 (zj K)) ∧ (¬ (x3 ≤ 0) → (¬ x3 = 1 → K (vJ V5 6 0 70) V5) ∧ (x3 = 1 → K (vJ V5 6 0 69) V5))) ∧ (r5 = 0 → K (-9223372036854775808) V5)))) ∧ (¬ (x3 ≤ 2) → K (-9223372036854775808) V1))))) : vMJ E d M_X12_frontAt [sl 6 0, wi x1, wi x2, wi x3] V K := by
  intro G A hR
  obtain ⟨L, P, rfl, hS⟩ := hR
  have hx := Xt.refl (V := pl G A L P) (A := A)
  show wpM E d M_X12_frontAt [vr (A 6 0), vi x1, vi x2, vi x3] G _
  refine wpM_of mk_X12_frontAt (Nat.le_of_ble_eq_true rfl) ?_
  refine v_X12_frontAt_0 h0 ?_
  refine ⟨hS.o (s6_0 hS), ?_⟩
  refine wpM.mono (h G A ⟨L, P, rfl, hS⟩) (fun rr1 G1 hr => ?_)
  obtain ⟨A1, W1, w1, ⟨L1, P1, rfl, hS1⟩, hy1, rfl, r1, rfl, h⟩ := hr
  refine ⟨r1, rfl, ?_⟩
  have hx1 := Xt.trans hx hy1
  have ee2 : A1 6 0 = A 6 0 := hy1.2 _ _ hS.1.2.1 (((n6_0 hS1)).trans ((n6_0 hS)).symm)
  try rw [← ee2]
  refine ⟨fun hc => ?_, fun hc => ?_⟩
  · have h := h.1 hc
    exact qx_j hS1 hx1 h
  · have h := h.2 hc
    refine ⟨fun hc => ?_, fun hc => ?_⟩
    · have h := h.1 hc
      exact qx_j hS1 hx1 h
    · have h := h.2 hc
      refine ⟨fun hc => ?_, fun hc => ?_⟩
      · have h := h.1 hc
        refine ⟨hS1.o (s6_0 hS1), ?_⟩
        refine wpM.mono (h G1 A1 ⟨L1, P1, rfl, hS1⟩) (fun rr3 G3 hr => ?_)
        obtain ⟨A3, W3, w3, ⟨L3, P3, rfl, hS3⟩, hy3, rfl, rfl, h⟩ := hr
        refine ⟨rfl, ?_⟩
        have hx3 := Xt.trans hx1 hy3
        have ee4 : A3 6 0 = A1 6 0 := hy3.2 _ _ hS1.1.2.1 (((n6_0 hS3)).trans ((n6_0 hS1)).symm)
        try rw [← ee4]
        refine ⟨hS3.o (s6_0 hS3), ?_⟩
        refine wpM.mono (h G3 A3 ⟨L3, P3, rfl, hS3⟩) (fun rr5 G5 hr => ?_)
        obtain ⟨A5, W5, w5, ⟨L5, P5, rfl, hS5⟩, hy5, rfl, r5, rfl, h⟩ := hr
        refine ⟨r5, rfl, ?_⟩
        have hx5 := Xt.trans hx3 hy5
        have ee6 : A5 6 0 = A3 6 0 := hy5.2 _ _ hS3.1.2.1 (((n6_0 hS5)).trans ((n6_0 hS3)).symm)
        try rw [← ee6]
        refine ⟨fun hc => ?_, fun hc => ?_⟩
        · have h := h.1 hc
          refine ⟨fun hc => ?_, fun hc => ?_⟩
          · have h := h.1 hc
            exact wp.mono (h G5 A5 ⟨L5, P5, rfl, hS5⟩) (fun r G' q => qx_trans hx5 q)
          · have h := h.2 hc
            refine ⟨fun hc => ?_, fun hc => ?_⟩
            · have h := h.1 hc
              refine ⟨hS5.o (s6_0 hS5), ?_⟩
              exact qx_j hS5 hx5 h
            · have h := h.2 hc
              refine ⟨hS5.o (s6_0 hS5), ?_⟩
              exact qx_j hS5 hx5 h
        · have h := h.2 hc
          exact qx_j hS5 hx5 h
      · have h := h.2 hc
        exact qx_j hS1 hx1 h
theorem w_X12_front_0 {E : EE} {d : Nat} {V : VH} {K : Int32 → VH → Prop} {x1 : Int32}  (h0 : 0 < d) (h : vMI E (d - 1) M_X12_isProblem [sl 6 0, wi x1] V (fun r1 V1 => (¬ r1 = 0 → vMV E (d - 1) M_X12_know [sl 6 0, wi x1] V1 (fun V3 => vMI E (d - 1) M_X12_nextPair [sl 6 0, wi x1, wi 0, wj 0] V3 (fun r5 V5 => vwp E d M_X12_front 25 [some (sl 6 0), some (wi x1), some (wi 0), some (wi r5)] [] V5 (zi K)))) ∧ (r1 = 0 → K (-1) V1))) : vMI E d M_X12_front [sl 6 0, wi x1] V K := by
  intro G A hR
  obtain ⟨L, P, rfl, hS⟩ := hR
  have hx := Xt.refl (V := pl G A L P) (A := A)
  show wpM E d M_X12_front [vr (A 6 0), vi x1] G _
  refine wpM_of mk_X12_front (Nat.le_of_ble_eq_true rfl) ?_
  refine v_X12_front_0 h0 ?_
  refine ⟨hS.o (s6_0 hS), ?_⟩
  refine wpM.mono (h G A ⟨L, P, rfl, hS⟩) (fun rr1 G1 hr => ?_)
  obtain ⟨A1, W1, w1, ⟨L1, P1, rfl, hS1⟩, hy1, rfl, r1, rfl, h⟩ := hr
  refine ⟨r1, rfl, ?_⟩
  have hx1 := Xt.trans hx hy1
  have ee2 : A1 6 0 = A 6 0 := hy1.2 _ _ hS.1.2.1 (((n6_0 hS1)).trans ((n6_0 hS)).symm)
  try rw [← ee2]
  refine ⟨fun hc => ?_, fun hc => ?_⟩
  · have h := h.1 hc
    refine ⟨hS1.o (s6_0 hS1), ?_⟩
    refine wpM.mono (h G1 A1 ⟨L1, P1, rfl, hS1⟩) (fun rr3 G3 hr => ?_)
    obtain ⟨A3, W3, w3, ⟨L3, P3, rfl, hS3⟩, hy3, rfl, rfl, h⟩ := hr
    refine ⟨rfl, ?_⟩
    have hx3 := Xt.trans hx1 hy3
    have ee4 : A3 6 0 = A1 6 0 := hy3.2 _ _ hS1.1.2.1 (((n6_0 hS3)).trans ((n6_0 hS1)).symm)
    try rw [← ee4]
    refine ⟨hS3.o (s6_0 hS3), ?_⟩
    refine wpM.mono (h G3 A3 ⟨L3, P3, rfl, hS3⟩) (fun rr5 G5 hr => ?_)
    obtain ⟨A5, W5, w5, ⟨L5, P5, rfl, hS5⟩, hy5, rfl, r5, rfl, h⟩ := hr
    refine ⟨r5, rfl, ?_⟩
    have hx5 := Xt.trans hx3 hy5
    have ee6 : A5 6 0 = A3 6 0 := hy5.2 _ _ hS3.1.2.1 (((n6_0 hS5)).trans ((n6_0 hS3)).symm)
    try rw [← ee6]
    exact wp.mono (h G5 A5 ⟨L5, P5, rfl, hS5⟩) (fun r G' q => qx_trans hx5 q)
  · have h := h.2 hc
    exact qx_i hS1 hx1 h
theorem w_X12_mend_0 {E : EE} {d : Nat} {V : VH} {K : Int32 → VH → Prop} {x1 : Int32} {x2 : Int32}  (h0 : 0 < d) (h : vMI E (d - 1) M_X12_isProblem [sl 6 0, wi x1] V (fun r1 V1 => (¬ r1 = 0 → vMV E (d - 1) M_X12_know [sl 6 0, wi x1] V1 (fun V3 => vwp E d M_X12_mend 20 [some (sl 6 0), some (wi x1), some (wi x2), some (wi (-1)), some (wi 0), none, none] [] V3 (zi K))) ∧ (r1 = 0 → K (-1) V1))) : vMI E d M_X12_mend [sl 6 0, wi x1, wi x2] V K := by
  intro G A hR
  obtain ⟨L, P, rfl, hS⟩ := hR
  have hx := Xt.refl (V := pl G A L P) (A := A)
  show wpM E d M_X12_mend [vr (A 6 0), vi x1, vi x2] G _
  refine wpM_of mk_X12_mend (Nat.le_of_ble_eq_true rfl) ?_
  refine v_X12_mend_0 h0 ?_
  refine ⟨hS.o (s6_0 hS), ?_⟩
  refine wpM.mono (h G A ⟨L, P, rfl, hS⟩) (fun rr1 G1 hr => ?_)
  obtain ⟨A1, W1, w1, ⟨L1, P1, rfl, hS1⟩, hy1, rfl, r1, rfl, h⟩ := hr
  refine ⟨r1, rfl, ?_⟩
  have hx1 := Xt.trans hx hy1
  have ee2 : A1 6 0 = A 6 0 := hy1.2 _ _ hS.1.2.1 (((n6_0 hS1)).trans ((n6_0 hS)).symm)
  try rw [← ee2]
  refine ⟨fun hc => ?_, fun hc => ?_⟩
  · have h := h.1 hc
    refine ⟨hS1.o (s6_0 hS1), ?_⟩
    refine wpM.mono (h G1 A1 ⟨L1, P1, rfl, hS1⟩) (fun rr3 G3 hr => ?_)
    obtain ⟨A3, W3, w3, ⟨L3, P3, rfl, hS3⟩, hy3, rfl, rfl, h⟩ := hr
    refine ⟨rfl, ?_⟩
    have hx3 := Xt.trans hx1 hy3
    have ee4 : A3 6 0 = A1 6 0 := hy3.2 _ _ hS1.1.2.1 (((n6_0 hS3)).trans ((n6_0 hS1)).symm)
    try rw [← ee4]
    exact wp.mono (h G3 A3 ⟨L3, P3, rfl, hS3⟩) (fun r G' q => qx_trans hx3 q)
  · have h := h.2 hc
    exact qx_i hS1 hx1 h
theorem w_X12_choices_0 {E : EE} {d : Nat} {V : VH} {K : Int32 → VH → Prop} {x1 : Int32} {x2 : Int32}  (h0 : 0 < d) (h : vMI E (d - 1) M_X12_isVar [sl 6 0, wi x1, wi x2] V (fun r1 V1 => (¬ r1 = 0 → vMV E (d - 1) M_X12_know [sl 6 0, wi x1] V1 (fun V3 => vMI E (d - 1) M_X12_firstBest [sl 6 0, wi x1, wi (-1), wi 0] V3 (fun r5 V5 => vwp E d M_X12_choices 30 [some (sl 6 0), some (wi x1), some (wi x2), some (wi r5), some (wi 0), some (wi 0), none] [] V5 (zi K)))) ∧ (r1 = 0 → K (-1) V1))) : vMI E d M_X12_choices [sl 6 0, wi x1, wi x2] V K := by
  intro G A hR
  obtain ⟨L, P, rfl, hS⟩ := hR
  have hx := Xt.refl (V := pl G A L P) (A := A)
  show wpM E d M_X12_choices [vr (A 6 0), vi x1, vi x2] G _
  refine wpM_of mk_X12_choices (Nat.le_of_ble_eq_true rfl) ?_
  refine v_X12_choices_0 h0 ?_
  refine ⟨hS.o (s6_0 hS), ?_⟩
  refine wpM.mono (h G A ⟨L, P, rfl, hS⟩) (fun rr1 G1 hr => ?_)
  obtain ⟨A1, W1, w1, ⟨L1, P1, rfl, hS1⟩, hy1, rfl, r1, rfl, h⟩ := hr
  refine ⟨r1, rfl, ?_⟩
  have hx1 := Xt.trans hx hy1
  have ee2 : A1 6 0 = A 6 0 := hy1.2 _ _ hS.1.2.1 (((n6_0 hS1)).trans ((n6_0 hS)).symm)
  try rw [← ee2]
  refine ⟨fun hc => ?_, fun hc => ?_⟩
  · have h := h.1 hc
    refine ⟨hS1.o (s6_0 hS1), ?_⟩
    refine wpM.mono (h G1 A1 ⟨L1, P1, rfl, hS1⟩) (fun rr3 G3 hr => ?_)
    obtain ⟨A3, W3, w3, ⟨L3, P3, rfl, hS3⟩, hy3, rfl, rfl, h⟩ := hr
    refine ⟨rfl, ?_⟩
    have hx3 := Xt.trans hx1 hy3
    have ee4 : A3 6 0 = A1 6 0 := hy3.2 _ _ hS1.1.2.1 (((n6_0 hS3)).trans ((n6_0 hS1)).symm)
    try rw [← ee4]
    refine ⟨hS3.o (s6_0 hS3), ?_⟩
    refine wpM.mono (h G3 A3 ⟨L3, P3, rfl, hS3⟩) (fun rr5 G5 hr => ?_)
    obtain ⟨A5, W5, w5, ⟨L5, P5, rfl, hS5⟩, hy5, rfl, r5, rfl, h⟩ := hr
    refine ⟨r5, rfl, ?_⟩
    have hx5 := Xt.trans hx3 hy5
    have ee6 : A5 6 0 = A3 6 0 := hy5.2 _ _ hS3.1.2.1 (((n6_0 hS5)).trans ((n6_0 hS3)).symm)
    try rw [← ee6]
    exact wp.mono (h G5 A5 ⟨L5, P5, rfl, hS5⟩) (fun r G' q => qx_trans hx5 q)
  · have h := h.2 hc
    exact qx_i hS1 hx1 h

