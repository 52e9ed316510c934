/-! regions over the view (by program): X12_tree X12_breaksAlways X12_firstGiven X12_nextGiven X12_isPoint X12_isBound X12_trees X12_searched X12_search X12_draw X12_withPlace X12_worth X12_valueIn X12_putAtHand X12_regret X12_isLevel X12_expected X12_show X12_robust X12_unfold X12_told X12_isFact X12_future X12_because X12_isVar X12_bestWith X12_firstBest X12_whyNot X12_without X12_isRule X12_relax X12_findMasks X12_numberOf X12_fewest X12_bits X12_clashes X12_clash X12_near X12_isBest X12_frontPlan X12_findPair X12_nextPair X12_isPair X12_frontAt X12_front X12_mend X12_choices -/
theorem w_X12_tree_132 {E : EE} {d : Nat} {V : VH} {K : VH → Prop} {x1 : Int32} {x2 : Int32}  (h0 : 0 < d) (h : (¬ (vI V 6 0 41) = 46 → vMI E (d - 1) M_X12_isBound [sl 6 0, wi x1] V (fun r1 V1 => (¬ r1 = 0 → vwp E d M_X12_tree 167 [some (sl 6 0), some (wi x1), some (wi x2), none] [] V1 (zv K)) ∧ (r1 = 0 → vwp E d M_X12_tree 160 [some (sl 6 0), some (wi x1), some (wi x2), none] [] V1 (zv K)))) ∧ ((vI V 6 0 41) = 46 → vMI E (d - 1) M_X12_isPoint [sl 6 0, wi x1] V (fun r3 V3 => (¬ r3 = 0 → vwp E d M_X12_tree 167 [some (sl 6 0), some (wi x1), some (wi x2), none] [] V3 (zv K)) ∧ (r3 = 0 → vwp E d M_X12_tree 160 [some (sl 6 0), some (wi x1), some (wi x2), none] [] V3 (zv K))))) : vwp E d M_X12_tree 132 [some (sl 6 0), some (wi x1), some (wi x2), none] [] V (zv K) := by
  intro G A hR
  obtain ⟨L, P, rfl, hS⟩ := hR
  have hx := Xt.refl (V := pl G A L P) (A := A)
  show wp E d M_X12_tree 132 [some (vr (A 6 0)), some (vi x1), some (vi x2), none] [] G _
  refine v_X12_tree_132 h0 ?_
  refine ⟨hS.o (s6_0 hS), ?_⟩
  refine ⟨fun hc => ?_, fun hc => ?_⟩
  · have h := h.1 hc
    refine wpM.mono (h G A ⟨L, P, rfl, hS⟩) (fun rr1 G1 hr => ?_)
    obtain ⟨A1, W1, w1, ⟨L1, P1, rfl, hS1⟩, hy1, rfl, r1, rfl, h⟩ := hr
    refine ⟨r1, rfl, ?_⟩
    have hx1 := Xt.trans hx hy1
    have ee2 : A1 6 0 = A 6 0 := hy1.2 _ _ hS.1.2.1 (((n6_0 hS1)).trans ((n6_0 hS)).symm)
    try rw [← ee2]
    refine ⟨fun hc => ?_, fun hc => ?_⟩
    · have h := h.1 hc
      exact wp.mono (h G1 A1 ⟨L1, P1, rfl, hS1⟩) (fun r G' q => qx_trans hx1 q)
    · have h := h.2 hc
      exact wp.mono (h G1 A1 ⟨L1, P1, rfl, hS1⟩) (fun r G' q => qx_trans hx1 q)
  · have h := h.2 hc
    refine wpM.mono (h G A ⟨L, P, rfl, hS⟩) (fun rr3 G3 hr => ?_)
    obtain ⟨A3, W3, w3, ⟨L3, P3, rfl, hS3⟩, hy3, rfl, r3, rfl, h⟩ := hr
    refine ⟨r3, rfl, ?_⟩
    have hx3 := Xt.trans hx hy3
    have ee4 : A3 6 0 = A 6 0 := hy3.2 _ _ hS.1.2.1 (((n6_0 hS3)).trans ((n6_0 hS)).symm)
    try rw [← ee4]
    refine ⟨fun hc => ?_, fun hc => ?_⟩
    · have h := h.1 hc
      exact wp.mono (h G3 A3 ⟨L3, P3, rfl, hS3⟩) (fun r G' q => qx_trans hx3 q)
    · have h := h.2 hc
      exact wp.mono (h G3 A3 ⟨L3, P3, rfl, hS3⟩) (fun r G' q => qx_trans hx3 q)
theorem w_X12_tree_160 {E : EE} {d : Nat} {V : VH} {K : VH → Prop} {x1 : Int32} {x2 : Int32}  (h0 : 0 < d) (h : vMV E (d - 1) M_X12_fail [sl 6 0, wi 8, wi x2] V (fun V1 => vwp E d M_X12_tree 167 [some (sl 6 0), some (wi x1), some (wi x2), none] [] V1 (zv K))) : vwp E d M_X12_tree 160 [some (sl 6 0), some (wi x1), some (wi x2), none] [] V (zv K) := by
  intro G A hR
  obtain ⟨L, P, rfl, hS⟩ := hR
  have hx := Xt.refl (V := pl G A L P) (A := A)
  show wp E d M_X12_tree 160 [some (vr (A 6 0)), some (vi x1), some (vi x2), none] [] G _
  refine v_X12_tree_160 h0 ?_
  refine ⟨hS.o (s6_0 hS), ?_⟩
  refine wpM.mono (h G A ⟨L, P, rfl, hS⟩) (fun rr1 G1 hr => ?_)
  obtain ⟨A1, W1, w1, ⟨L1, P1, rfl, hS1⟩, hy1, rfl, rfl, h⟩ := hr
  refine ⟨rfl, ?_⟩
  have hx1 := Xt.trans hx hy1
  have ee2 : A1 6 0 = A 6 0 := hy1.2 _ _ hS.1.2.1 (((n6_0 hS1)).trans ((n6_0 hS)).symm)
  try rw [← ee2]
  exact wp.mono (h G1 A1 ⟨L1, P1, rfl, hS1⟩) (fun r G' q => qx_trans hx1 q)
theorem w_X12_tree_167 {E : EE} {d : Nat} {V : VH} {K : VH → Prop} {x1 : Int32} {x2 : Int32}  (h0 : 0 < d) (h : vMV E (d - 1) M_X12_next [sl 6 0] V (fun V1 => K V1)) : vwp E d M_X12_tree 167 [some (sl 6 0), some (wi x1), some (wi x2), none] [] V (zv K) := by
  intro G A hR
  obtain ⟨L, P, rfl, hS⟩ := hR
  have hx := Xt.refl (V := pl G A L P) (A := A)
  show wp E d M_X12_tree 167 [some (vr (A 6 0)), some (vi x1), some (vi x2), none] [] G _
  refine v_X12_tree_167 h0 ?_
  refine ⟨hS.o (s6_0 hS), ?_⟩
  refine wpM.mono (h G A ⟨L, P, rfl, hS⟩) (fun rr1 G1 hr => ?_)
  obtain ⟨A1, W1, w1, ⟨L1, P1, rfl, hS1⟩, hy1, rfl, rfl, h⟩ := hr
  refine ⟨rfl, ?_⟩
  have hx1 := Xt.trans hx hy1
  have ee2 : A1 6 0 = A 6 0 := hy1.2 _ _ hS.1.2.1 (((n6_0 hS1)).trans ((n6_0 hS)).symm)
  try rw [← ee2]
  exact qx_v hS1 hx1 h
theorem w_X12_tree_213 {E : EE} {d : Nat} {V : VH} {K : VH → Prop} {x1 : Int32} {x2 : Int32} {x3 : Int32}  (h0 : 0 < d) (h : vMV E (d - 1) M_X12_fail [sl 6 0, wi 4, wi (vI V 6 0 43)] V (fun V1 => K V1)) : vwp E d M_X12_tree 213 [some (sl 6 0), some (wi x1), some (wi x2), some (wi x3)] [] V (zv K) := by
  intro G A hR
  obtain ⟨L, P, rfl, hS⟩ := hR
  have hx := Xt.refl (V := pl G A L P) (A := A)
  show wp E d M_X12_tree 213 [some (vr (A 6 0)), some (vi x1), some (vi x2), some (vi x3)] [] G _
  refine v_X12_tree_213 h0 ?_
  refine ⟨hS.o (s6_0 hS), ?_⟩
  refine wpM.mono (h G A ⟨L, P, rfl, hS⟩) (fun rr1 G1 hr => ?_)
  obtain ⟨A1, W1, w1, ⟨L1, P1, rfl, hS1⟩, hy1, rfl, rfl, h⟩ := hr
  refine ⟨rfl, ?_⟩
  have hx1 := Xt.trans hx hy1
  have ee2 : A1 6 0 = A 6 0 := hy1.2 _ _ hS.1.2.1 (((n6_0 hS1)).trans ((n6_0 hS)).symm)
  try rw [← ee2]
  exact qx_v hS1 hx1 h
theorem w_X12_breaksAlways_0 {E : EE} {d : Nat} {V : VH} {K : Int32 → VH → Prop} {x1 : Int32} {x2 : Int32}  (h0 : 0 < d) (h : vMI E (d - 1) M_X12_firstGiven [sl 6 0, wi x1] V (fun r1 V1 => vwp E d M_X12_breaksAlways 9 [some (sl 6 0), some (wi x1), some (wi x2), some (wi 1), some (wi r1)] [] V1 (zi K))) : vMI E d M_X12_breaksAlways [sl 6 0, wi x1, wi x2] V K := by
  intro G A hR
  obtain ⟨L, P, rfl, hS⟩ := hR
  have hx := Xt.refl (V := pl G A L P) (A := A)
  show wpM E d M_X12_breaksAlways [vr (A 6 0), vi x1, vi x2] G _
  refine wpM_of mk_X12_breaksAlways (Nat.le_of_ble_eq_true rfl) ?_
  refine v_X12_breaksAlways_0 h0 ?_
  refine ⟨hS.o (s6_0 hS), ?_⟩
  refine wpM.mono (h G A ⟨L, P, rfl, hS⟩) (fun rr1 G1 hr => ?_)
  obtain ⟨A1, W1, w1, ⟨L1, P1, rfl, hS1⟩, hy1, rfl, r1, rfl, h⟩ := hr
  refine ⟨r1, rfl, ?_⟩
  have hx1 := Xt.trans hx hy1
  have ee2 : A1 6 0 = A 6 0 := hy1.2 _ _ hS.1.2.1 (((n6_0 hS1)).trans ((n6_0 hS)).symm)
  try rw [← ee2]
  exact wp.mono (h G1 A1 ⟨L1, P1, rfl, hS1⟩) (fun r G' q => qx_trans hx1 q)
theorem w_X12_breaksAlways_9 {E : EE} {d : Nat} {V : VH} {K : Int32 → VH → Prop} {x1 : Int32} {x2 : Int32} {x3 : Int32} {x4 : Int32}  (h : (x3 = 0 → bz x3 ∧ K x3 V) ∧ (¬ (x3 = 0) → (x4 < 0 → bz x3 ∧ K x3 V) ∧ (¬ (x4 < 0) → vp_in ((20000 * x2) + x4) 480000 ∧ (((vI V 6 43 (Int32.toNatClampNeg ((20000 * x2) + x4))) ≤ 0 → vwp E d M_X12_breaksAlways 39 [some (sl 6 0), some (wi x1), some (wi x2), some (wi x3), some (wi x4)] [wi 0] V (zi K)) ∧ (¬ ((vI V 6 43 (Int32.toNatClampNeg ((20000 * x2) + x4))) ≤ 0) → vwp E d M_X12_breaksAlways 39 [some (sl 6 0), some (wi x1), some (wi x2), some (wi x3), some (wi x4)] [wi 1] V (zi K)))))) : vwp E d M_X12_breaksAlways 9 [some (sl 6 0), some (wi x1), some (wi x2), some (wi x3), some (wi x4)] [] V (zi K) := by
  intro G A hR
  obtain ⟨L, P, rfl, hS⟩ := hR
  have hx := Xt.refl (V := pl G A L P) (A := A)
  show wp E d M_X12_breaksAlways 9 [some (vr (A 6 0)), some (vi x1), some (vi x2), some (vi x3), some (vi x4)] [] G _
  refine v_X12_breaksAlways_9 ?_
  refine ⟨fun hc => ?_, fun hc => ?_⟩
  · have h := h.1 hc
    exact ⟨bz_ok h.1, qx_i hS hx h.2⟩
  · have h := h.2 hc
    refine ⟨fun hc => ?_, fun hc => ?_⟩
    · have h := h.1 hc
      exact ⟨bz_ok h.1, qx_i hS hx h.2⟩
    · have h := h.2 hc
      refine ⟨hS.o (s6_0 hS), ?_⟩
      rw [l6_0_64 hS]
      refine ⟨hS.o (s6_43 hS), ?_⟩
      obtain ⟨hi1, h⟩ := h
      refine ⟨by first | (rw [(n6_43 hS)]; exact hi1) | exact (congrArg (vp_in _) (n6_43 hS)).mpr hi1 | exact hi1, ?_⟩
      refine ⟨fun hc => ?_, fun hc => ?_⟩
      · have h := h.1 hc
        exact wp.mono (h G A ⟨L, P, rfl, hS⟩) (fun r G' q => qx_trans hx q)
      · have h := h.2 hc
        exact wp.mono (h G A ⟨L, P, rfl, hS⟩) (fun r G' q => qx_trans hx q)
theorem w_X12_breaksAlways_39 {E : EE} {d : Nat} {V : VH} {K : Int32 → VH → Prop} {x1 : Int32} {x2 : Int32} {x3 : Int32} {x4 : Int32} {t0 : Int32}  (h0 : 0 < d) (h : vMI E (d - 1) M_X12_nextGiven [sl 6 0, wi x1, wi x4] V (fun r1 V1 => vwp E d M_X12_breaksAlways 9 [some (sl 6 0), some (wi x1), some (wi x2), some (wi t0), some (wi r1)] [] V1 (zi K))) : vwp E d M_X12_breaksAlways 39 [some (sl 6 0), some (wi x1), some (wi x2), some (wi x3), some (wi x4)] [wi t0] V (zi K) := by
  intro G A hR
  obtain ⟨L, P, rfl, hS⟩ := hR
  have hx := Xt.refl (V := pl G A L P) (A := A)
  show wp E d M_X12_breaksAlways 39 [some (vr (A 6 0)), some (vi x1), some (vi x2), some (vi x3), some (vi x4)] [vi t0] G _
  refine v_X12_breaksAlways_39 h0 ?_
  refine ⟨hS.o (s6_0 hS), ?_⟩
  refine wpM.mono (h G A ⟨L, P, rfl, hS⟩) (fun rr1 G1 hr => ?_)
  obtain ⟨A1, W1, w1, ⟨L1, P1, rfl, hS1⟩, hy1, rfl, r1, rfl, h⟩ := hr
  refine ⟨r1, rfl, ?_⟩
  have hx1 := Xt.trans hx hy1
  have ee2 : A1 6 0 = A 6 0 := hy1.2 _ _ hS.1.2.1 (((n6_0 hS1)).trans ((n6_0 hS)).symm)
  try rw [← ee2]
  exact wp.mono (h G1 A1 ⟨L1, P1, rfl, hS1⟩) (fun r G' q => qx_trans hx1 q)
theorem w_X12_firstGiven_0 {E : EE} {d : Nat} {V : VH} {K : Int32 → VH → Prop} {x1 : Int32}  (h : vwp E d M_X12_firstGiven 4 [some (sl 6 0), some (wi x1), some (wi 0), some (wi 0)] [] V (zi K)) : vMI E d M_X12_firstGiven [sl 6 0, wi x1] V K := by
  intro G A hR
  obtain ⟨L, P, rfl, hS⟩ := hR
  have hx := Xt.refl (V := pl G A L P) (A := A)
  show wpM E d M_X12_firstGiven [vr (A 6 0), vi x1] G _
  refine wpM_of mk_X12_firstGiven (Nat.le_of_ble_eq_true rfl) ?_
  refine v_X12_firstGiven_0 ?_
  exact wp.mono (h G A ⟨L, P, rfl, hS⟩) (fun r G' q => qx_trans hx q)
theorem w_X12_firstGiven_4 {E : EE} {d : Nat} {V : VH} {K : Int32 → VH → Prop} {x1 : Int32} {x2 : Int32} {x3 : Int32}  (h0 : 0 < d) (h : vMI E (d - 1) M_X12_vars [sl 6 0, wi x1] V (fun r1 V1 => (r1 ≤ x3 → K x2 V1) ∧ (¬ (r1 ≤ x3) → vp_in x3 12 ∧ (((vI V1 6 55 (Int32.toNatClampNeg x3)) ≤ 0 → vwp E d M_X12_firstGiven 45 [some (sl 6 0), some (wi x1), some (wi x2), some (wi x3)] [wi 0, wi x2] V1 (zi K)) ∧ (¬ ((vI V1 6 55 (Int32.toNatClampNeg x3)) ≤ 0) → vp_in x3 12 ∧ (vp_in ((12 * x1) + x3) 60 ∧ (vwp E d M_X12_firstGiven 45 [some (sl 6 0), some (wi x1), some (wi x2), some (wi x3)] [wi ((vI V1 6 55 (Int32.toNatClampNeg x3)) * (vI V1 6 17 (Int32.toNatClampNeg ((12 * x1) + x3)))), wi x2] V1 (zi K)))))))) : vwp E d M_X12_firstGiven 4 [some (sl 6 0), some (wi x1), some (wi x2), some (wi x3)] [] V (zi K) := by
  intro G A hR
  obtain ⟨L, P, rfl, hS⟩ := hR
  have hx := Xt.refl (V := pl G A L P) (A := A)
  show wp E d M_X12_firstGiven 4 [some (vr (A 6 0)), some (vi x1), some (vi x2), some (vi x3)] [] G _
  refine v_X12_firstGiven_4 h0 ?_
  refine ⟨hS.o (s6_0 hS), ?_⟩
  refine wpM.mono (h G A ⟨L, P, rfl, hS⟩) (fun rr1 G1 hr => ?_)
  obtain ⟨A1, W1, w1, ⟨L1, P1, rfl, hS1⟩, hy1, rfl, r1, rfl, h⟩ := hr
  refine ⟨r1, rfl, ?_⟩
  have hx1 := Xt.trans hx hy1
  have ee2 : A1 6 0 = A 6 0 := hy1.2 _ _ hS.1.2.1 (((n6_0 hS1)).trans ((n6_0 hS)).symm)
  try rw [← ee2]
  refine ⟨fun hc => ?_, fun hc => ?_⟩
  · have h := h.1 hc
    exact qx_i hS1 hx1 h
  · have h := h.2 hc
    refine ⟨hS1.o (s6_0 hS1), ?_⟩
    rw [l6_0_83 hS1]
    refine ⟨hS1.o (s6_55 hS1), ?_⟩
    obtain ⟨hi3, h⟩ := h
    refine ⟨by first | (rw [(n6_55 hS1)]; exact hi3) | exact (congrArg (vp_in _) (n6_55 hS1)).mpr hi3 | exact hi3, ?_⟩
    refine ⟨fun hc => ?_, fun hc => ?_⟩
    · have h := h.1 hc
      exact wp.mono (h G1 A1 ⟨L1, P1, rfl, hS1⟩) (fun r G' q => qx_trans hx1 q)
    · have h := h.2 hc
      obtain ⟨hi4, h⟩ := h
      refine ⟨by first | (rw [(n6_55 hS1)]; exact hi4) | exact (congrArg (vp_in _) (n6_55 hS1)).mpr hi4 | exact hi4, ?_⟩
      rw [l6_0_20 hS1]
      refine ⟨hS1.o (s6_17 hS1), ?_⟩
      obtain ⟨hi5, h⟩ := h
      refine ⟨by first | (rw [(n6_17 hS1)]; exact hi5) | exact (congrArg (vp_in _) (n6_17 hS1)).mpr hi5 | exact hi5, ?_⟩
      exact wp.mono (h G1 A1 ⟨L1, P1, rfl, hS1⟩) (fun r G' q => qx_trans hx1 q)
theorem w_X12_firstGiven_45 {E : EE} {d : Nat} {V : VH} {K : Int32 → VH → Prop} {x1 : Int32} {x2 : Int32} {x3 : Int32} {t0 : Int32} {t1 : Int32}  (h : vwp E d M_X12_firstGiven 4 [some (sl 6 0), some (wi x1), some (wi (t0 + t1)), some (wi (x3 + 1))] [] V (zi K)) : vwp E d M_X12_firstGiven 45 [some (sl 6 0), some (wi x1), some (wi x2), some (wi x3)] [wi t1, wi t0] V (zi K) := by
  intro G A hR
  obtain ⟨L, P, rfl, hS⟩ := hR
  have hx := Xt.refl (V := pl G A L P) (A := A)
  show wp E d M_X12_firstGiven 45 [some (vr (A 6 0)), some (vi x1), some (vi x2), some (vi x3)] [vi t1, vi t0] G _
  refine v_X12_firstGiven_45 ?_
  exact wp.mono (h G A ⟨L, P, rfl, hS⟩) (fun r G' q => qx_trans hx q)
theorem w_X12_nextGiven_0 {E : EE} {d : Nat} {V : VH} {K : Int32 → VH → Prop} {x1 : Int32} {x2 : Int32}  (h0 : 0 < d) (h : vMI E (d - 1) M_X12_vars [sl 6 0, wi x1] V (fun r1 V1 => vwp E d M_X12_nextGiven 11 [some (sl 6 0), some (wi x1), some (wi x2), some (wi x2), some (wi (r1 - 1)), none] [] V1 (zi K))) : vMI E d M_X12_nextGiven [sl 6 0, wi x1, wi x2] V K := by
  intro G A hR
  obtain ⟨L, P, rfl, hS⟩ := hR
  have hx := Xt.refl (V := pl G A L P) (A := A)
  show wpM E d M_X12_nextGiven [vr (A 6 0), vi x1, vi x2] G _
  refine wpM_of mk_X12_nextGiven (Nat.le_of_ble_eq_true rfl) ?_
  refine v_X12_nextGiven_0 h0 ?_
  refine ⟨hS.o (s6_0 hS), ?_⟩
  refine wpM.mono (h G A ⟨L, P, rfl, hS⟩) (fun rr1 G1 hr => ?_)
  obtain ⟨A1, W1, w1, ⟨L1, P1, rfl, hS1⟩, hy1, rfl, r1, rfl, h⟩ := hr
  refine ⟨r1, rfl, ?_⟩
  have hx1 := Xt.trans hx hy1
  have ee2 : A1 6 0 = A 6 0 := hy1.2 _ _ hS.1.2.1 (((n6_0 hS1)).trans ((n6_0 hS)).symm)
  try rw [← ee2]
  exact wp.mono (h G1 A1 ⟨L1, P1, rfl, hS1⟩) (fun r G' q => qx_trans hx1 q)
theorem w_X12_nextGiven_11 {E : EE} {d : Nat} {V : VH} {K : Int32 → VH → Prop} {x1 : Int32} {x2 : Int32} {x3 : Int32} {x4 : Int32}  (h0 : 0 < d) (h : (x4 < 0 → K (-1) V) ∧ (¬ (x4 < 0) → vp_in x4 12 ∧ (((vI V 6 55 (Int32.toNatClampNeg x4)) < 0 → vMI E (d - 1) M_X12_place [sl 6 0, wi x1, wi x3, wi x4] V (fun r2 V2 => vp_in ((12 * x1) + x4) 60 ∧ (((vI V2 6 16 (Int32.toNatClampNeg ((12 * x1) + x4))) ≤ (r2 + 1) → vp_in ((12 * x1) + x4) 60 ∧ (vwp E d M_X12_nextGiven 91 [some (sl 6 0), some (wi x1), some (wi x2), some (wi (x3 - (r2 * (vI V2 6 17 (Int32.toNatClampNeg ((12 * x1) + x4)))))), some (wi x4), none] [] V2 (zi K))) ∧ (¬ ((vI V2 6 16 (Int32.toNatClampNeg ((12 * x1) + x4))) ≤ (r2 + 1)) → vp_in ((12 * x1) + x4) 60 ∧ (K (x3 + (vI V2 6 17 (Int32.toNatClampNeg ((12 * x1) + x4)))) V2))))) ∧ (¬ ((vI V 6 55 (Int32.toNatClampNeg x4)) < 0) → vwp E d M_X12_nextGiven 91 [some (sl 6 0), some (wi x1), some (wi x2), some (wi x3), some (wi x4), none] [] V (zi K))))) : vwp E d M_X12_nextGiven 11 [some (sl 6 0), some (wi x1), some (wi x2), some (wi x3), some (wi x4), none] [] V (zi K) := by
  intro G A hR
  obtain ⟨L, P, rfl, hS⟩ := hR
  have hx := Xt.refl (V := pl G A L P) (A := A)
  show wp E d M_X12_nextGiven 11 [some (vr (A 6 0)), some (vi x1), some (vi x2), some (vi x3), some (vi x4), none] [] G _
  refine v_X12_nextGiven_11 h0 ?_
  refine ⟨fun hc => ?_, fun hc => ?_⟩
  · have h := h.1 hc
    exact qx_i hS hx h
  · have h := h.2 hc
    refine ⟨hS.o (s6_0 hS), ?_⟩
    rw [l6_0_83 hS]
    refine ⟨hS.o (s6_55 hS), ?_⟩
    obtain ⟨hi1, h⟩ := h
    refine ⟨by first | (rw [(n6_55 hS)]; exact hi1) | exact (congrArg (vp_in _) (n6_55 hS)).mpr hi1 | exact hi1, ?_⟩
    refine ⟨fun hc => ?_, fun hc => ?_⟩
    · have h := h.1 hc
      refine wpM.mono (h G A ⟨L, P, rfl, hS⟩) (fun rr2 G2 hr => ?_)
      obtain ⟨A2, W2, w2, ⟨L2, P2, rfl, hS2⟩, hy2, rfl, r2, rfl, h⟩ := hr
      refine ⟨r2, rfl, ?_⟩
      have hx2 := Xt.trans hx hy2
      have ee3 : A2 6 0 = A 6 0 := hy2.2 _ _ hS.1.2.1 (((n6_0 hS2)).trans ((n6_0 hS)).symm)
      try rw [← ee3]
      refine ⟨hS2.o (s6_0 hS2), ?_⟩
      rw [l6_0_19 hS2]
      refine ⟨hS2.o (s6_16 hS2), ?_⟩
      obtain ⟨hi4, h⟩ := h
      refine ⟨by first | (rw [(n6_16 hS2)]; exact hi4) | exact (congrArg (vp_in _) (n6_16 hS2)).mpr hi4 | exact hi4, ?_⟩
      refine ⟨fun hc => ?_, fun hc => ?_⟩
      · have h := h.1 hc
        rw [l6_0_20 hS2]
        refine ⟨hS2.o (s6_17 hS2), ?_⟩
        obtain ⟨hi5, h⟩ := h
        refine ⟨by first | (rw [(n6_17 hS2)]; exact hi5) | exact (congrArg (vp_in _) (n6_17 hS2)).mpr hi5 | exact hi5, ?_⟩
        exact wp.mono (h G2 A2 ⟨L2, P2, rfl, hS2⟩) (fun r G' q => qx_trans hx2 q)
      · have h := h.2 hc
        rw [l6_0_20 hS2]
        refine ⟨hS2.o (s6_17 hS2), ?_⟩
        obtain ⟨hi6, h⟩ := h
        refine ⟨by first | (rw [(n6_17 hS2)]; exact hi6) | exact (congrArg (vp_in _) (n6_17 hS2)).mpr hi6 | exact hi6, ?_⟩
        exact qx_i hS2 hx2 h
    · have h := h.2 hc
      exact wp.mono (h G A ⟨L, P, rfl, hS⟩) (fun r G' q => qx_trans hx q)
theorem w_X12_nextGiven_91 {E : EE} {d : Nat} {V : VH} {K : Int32 → VH → Prop} {x1 : Int32} {x2 : Int32} {x3 : Int32} {x4 : Int32}  (h : vwp E d M_X12_nextGiven 11 [some (sl 6 0), some (wi x1), some (wi x2), some (wi x3), some (wi (x4 + (-1))), none] [] V (zi K)) : vwp E d M_X12_nextGiven 91 [some (sl 6 0), some (wi x1), some (wi x2), some (wi x3), some (wi x4), none] [] V (zi K) := by
  intro G A hR
  obtain ⟨L, P, rfl, hS⟩ := hR
  have hx := Xt.refl (V := pl G A L P) (A := A)
  show wp E d M_X12_nextGiven 91 [some (vr (A 6 0)), some (vi x1), some (vi x2), some (vi x3), some (vi x4), none] [] G _
  refine v_X12_nextGiven_91 ?_
  exact wp.mono (h G A ⟨L, P, rfl, hS⟩) (fun r G' q => qx_trans hx q)
theorem w_X12_isPoint_0 {E : EE} {d : Nat} {V : VH} {K : Int32 → VH → Prop} {x1 : Int32}  (h : vwp E d M_X12_isPoint 2 [some (sl 6 0), some (wi x1), some (wi 0)] [] V (zi K)) : vMI E d M_X12_isPoint [sl 6 0, wi x1] V K := by
  intro G A hR
  obtain ⟨L, P, rfl, hS⟩ := hR
  have hx := Xt.refl (V := pl G A L P) (A := A)
  show wpM E d M_X12_isPoint [vr (A 6 0), vi x1] G _
  refine wpM_of mk_X12_isPoint (Nat.le_of_ble_eq_true rfl) ?_
  refine v_X12_isPoint_0 ?_
  exact wp.mono (h G A ⟨L, P, rfl, hS⟩) (fun r G' q => qx_trans hx q)
theorem w_X12_isPoint_2 {E : EE} {d : Nat} {V : VH} {K : Int32 → VH → Prop} {x1 : Int32} {x2 : Int32}  (h0 : 0 < d) (h : vMI E (d - 1) M_X12_vars [sl 6 0, wi x1] V (fun r1 V1 => (r1 ≤ x2 → vMI E (d - 1) M_X12_firstGiven [sl 6 0, wi x1] V1 (fun r3 V3 => vMI E (d - 1) M_X12_isFeasible [sl 6 0, wi r3] V3 (fun r5 V5 => (r5 = 0 → vwp E d M_X12_isPoint 55 [some (sl 6 0), some (wi x1), some (wi r3)] [] V5 (zi K)) ∧ (¬ (r5 = 0) → vMI E (d - 1) M_X12_handOf [sl 6 0, wi x1] V5 (fun r7 V7 => vMI E (d - 1) M_X12_isBetter [sl 6 0, wi r3, wi r7] V7 (fun r9 V9 => (¬ r9 = 0 → K 0 V9) ∧ (r9 = 0 → vwp E d M_X12_isPoint 55 [some (sl 6 0), some (wi x1), some (wi r3)] [] V9 (zi K)))))))) ∧ (¬ (r1 ≤ x2) → vp_in x2 12 ∧ ((0 ≤ (vI V1 6 55 (Int32.toNatClampNeg x2)) → vwp E d M_X12_isPoint 2 [some (sl 6 0), some (wi x1), some (wi (x2 + 1))] [] V1 (zi K)) ∧ (¬ (0 ≤ (vI V1 6 55 (Int32.toNatClampNeg x2))) → K 0 V1))))) : vwp E d M_X12_isPoint 2 [some (sl 6 0), some (wi x1), some (wi x2)] [] V (zi K) := by
  intro G A hR
  obtain ⟨L, P, rfl, hS⟩ := hR
  have hx := Xt.refl (V := pl G A L P) (A := A)
  show wp E d M_X12_isPoint 2 [some (vr (A 6 0)), some (vi x1), some (vi x2)] [] G _
  refine v_X12_isPoint_2 h0 ?_
  refine ⟨hS.o (s6_0 hS), ?_⟩
  refine wpM.mono (h G A ⟨L, P, rfl, hS⟩) (fun rr1 G1 hr => ?_)
  obtain ⟨A1, W1, w1, ⟨L1, P1, rfl, hS1⟩, hy1, rfl, r1, rfl, h⟩ := hr
  refine ⟨r1, rfl, ?_⟩
  have hx1 := Xt.trans hx hy1
  have ee2 : A1 6 0 = A 6 0 := hy1.2 _ _ hS.1.2.1 (((n6_0 hS1)).trans ((n6_0 hS)).symm)
  try rw [← ee2]
  refine ⟨fun hc => ?_, fun hc => ?_⟩
  · have h := h.1 hc
    refine ⟨hS1.o (s6_0 hS1), ?_⟩
    refine wpM.mono (h G1 A1 ⟨L1, P1, rfl, hS1⟩) (fun rr3 G3 hr => ?_)
    obtain ⟨A3, W3, w3, ⟨L3, P3, rfl, hS3⟩, hy3, rfl, r3, rfl, h⟩ := hr
    refine ⟨r3, rfl, ?_⟩
    have hx3 := Xt.trans hx1 hy3
    have ee4 : A3 6 0 = A1 6 0 := hy3.2 _ _ hS1.1.2.1 (((n6_0 hS3)).trans ((n6_0 hS1)).symm)
    try rw [← ee4]
    refine ⟨hS3.o (s6_0 hS3), ?_⟩
    refine wpM.mono (h G3 A3 ⟨L3, P3, rfl, hS3⟩) (fun rr5 G5 hr => ?_)
    obtain ⟨A5, W5, w5, ⟨L5, P5, rfl, hS5⟩, hy5, rfl, r5, rfl, h⟩ := hr
    refine ⟨r5, rfl, ?_⟩
    have hx5 := Xt.trans hx3 hy5
    have ee6 : A5 6 0 = A3 6 0 := hy5.2 _ _ hS3.1.2.1 (((n6_0 hS5)).trans ((n6_0 hS3)).symm)
    try rw [← ee6]
    refine ⟨fun hc => ?_, fun hc => ?_⟩
    · have h := h.1 hc
      exact wp.mono (h G5 A5 ⟨L5, P5, rfl, hS5⟩) (fun r G' q => qx_trans hx5 q)
    · have h := h.2 hc
      refine ⟨hS5.o (s6_0 hS5), ?_⟩
      refine wpM.mono (h G5 A5 ⟨L5, P5, rfl, hS5⟩) (fun rr7 G7 hr => ?_)
      obtain ⟨A7, W7, w7, ⟨L7, P7, rfl, hS7⟩, hy7, rfl, r7, rfl, h⟩ := hr
      refine ⟨r7, rfl, ?_⟩
      have hx7 := Xt.trans hx5 hy7
      have ee8 : A7 6 0 = A5 6 0 := hy7.2 _ _ hS5.1.2.1 (((n6_0 hS7)).trans ((n6_0 hS5)).symm)
      try rw [← ee8]
      refine ⟨hS7.o (s6_0 hS7), ?_⟩
      refine wpM.mono (h G7 A7 ⟨L7, P7, rfl, hS7⟩) (fun rr9 G9 hr => ?_)
      obtain ⟨A9, W9, w9, ⟨L9, P9, rfl, hS9⟩, hy9, rfl, r9, rfl, h⟩ := hr
      refine ⟨r9, rfl, ?_⟩
      have hx9 := Xt.trans hx7 hy9
      have ee10 : A9 6 0 = A7 6 0 := hy9.2 _ _ hS7.1.2.1 (((n6_0 hS9)).trans ((n6_0 hS7)).symm)
      try rw [← ee10]
      refine ⟨fun hc => ?_, fun hc => ?_⟩
      · have h := h.1 hc
        exact qx_i hS9 hx9 h
      · have h := h.2 hc
        exact wp.mono (h G9 A9 ⟨L9, P9, rfl, hS9⟩) (fun r G' q => qx_trans hx9 q)
  · have h := h.2 hc
    refine ⟨hS1.o (s6_0 hS1), ?_⟩
    rw [l6_0_83 hS1]
    refine ⟨hS1.o (s6_55 hS1), ?_⟩
    obtain ⟨hi11, h⟩ := h
    refine ⟨by first | (rw [(n6_55 hS1)]; exact hi11) | exact (congrArg (vp_in _) (n6_55 hS1)).mpr hi11 | exact hi11, ?_⟩
    refine ⟨fun hc => ?_, fun hc => ?_⟩
    · have h := h.1 hc
      exact wp.mono (h G1 A1 ⟨L1, P1, rfl, hS1⟩) (fun r G' q => qx_trans hx1 q)
    · have h := h.2 hc
      exact qx_i hS1 hx1 h
theorem w_X12_isPoint_55 {E : EE} {d : Nat} {V : VH} {K : Int32 → VH → Prop} {x1 : Int32} {x2 : Int32}  (h : K 1 V) : vwp E d M_X12_isPoint 55 [some (sl 6 0), some (wi x1), some (wi x2)] [] V (zi K) := by
  intro G A hR
  obtain ⟨L, P, rfl, hS⟩ := hR
  have hx := Xt.refl (V := pl G A L P) (A := A)
  show wp E d M_X12_isPoint 55 [some (vr (A 6 0)), some (vi x1), some (vi x2)] [] G _
  refine v_X12_isPoint_55 ?_
  exact qx_i hS hx h
theorem w_X12_isBound_0 {E : EE} {d : Nat} {V : VH} {K : Int32 → VH → Prop} {x1 : Int32}  (h0 : 0 < d) (h : vMI E (d - 1) M_X12_firstGiven [sl 6 0, wi x1] V (fun r1 V1 => vwp E d M_X12_isBound 8 [some (sl 6 0), some (wi x1), some (wi 1), some (wi r1), none] [] V1 (zi K))) : vMI E d M_X12_isBound [sl 6 0, wi x1] V K := by
  intro G A hR
  obtain ⟨L, P, rfl, hS⟩ := hR
  have hx := Xt.refl (V := pl G A L P) (A := A)
  show wpM E d M_X12_isBound [vr (A 6 0), vi x1] G _
  refine wpM_of mk_X12_isBound (Nat.le_of_ble_eq_true rfl) ?_
  refine v_X12_isBound_0 h0 ?_
  refine ⟨hS.o (s6_0 hS), ?_⟩
  refine wpM.mono (h G A ⟨L, P, rfl, hS⟩) (fun rr1 G1 hr => ?_)
  obtain ⟨A1, W1, w1, ⟨L1, P1, rfl, hS1⟩, hy1, rfl, r1, rfl, h⟩ := hr
  refine ⟨r1, rfl, ?_⟩
  have hx1 := Xt.trans hx hy1
  have ee2 : A1 6 0 = A 6 0 := hy1.2 _ _ hS.1.2.1 (((n6_0 hS1)).trans ((n6_0 hS)).symm)
  try rw [← ee2]
  exact wp.mono (h G1 A1 ⟨L1, P1, rfl, hS1⟩) (fun r G' q => qx_trans hx1 q)
theorem w_X12_isBound_8 {E : EE} {d : Nat} {V : VH} {K : Int32 → VH → Prop} {x1 : Int32} {x2 : Int32} {x3 : Int32}  (h : (x3 < 0 → vwp E d M_X12_isBound 193 [some (sl 6 0), some (wi x1), some (wi x2), some (wi 0), none] [] V (zi K)) ∧ (¬ (x3 < 0) → vwp E d M_X12_isBound 15 [some (sl 6 0), some (wi x1), some (wi x2), some (wi x3), some (wi 0)] [] V (zi K))) : vwp E d M_X12_isBound 8 [some (sl 6 0), some (wi x1), some (wi x2), some (wi x3), none] [] V (zi K) := by
  intro G A hR
  obtain ⟨L, P, rfl, hS⟩ := hR
  have hx := Xt.refl (V := pl G A L P) (A := A)
  show wp E d M_X12_isBound 8 [some (vr (A 6 0)), some (vi x1), some (vi x2), some (vi x3), none] [] G _
  refine v_X12_isBound_8 ?_
  refine ⟨fun hc => ?_, fun hc => ?_⟩
  · have h := h.1 hc
    exact wp.mono (h G A ⟨L, P, rfl, hS⟩) (fun r G' q => qx_trans hx q)
  · have h := h.2 hc
    exact wp.mono (h G A ⟨L, P, rfl, hS⟩) (fun r G' q => qx_trans hx q)
theorem w_X12_isBound_15 {E : EE} {d : Nat} {V : VH} {K : Int32 → VH → Prop} {x1 : Int32} {x2 : Int32} {x3 : Int32} {x4 : Int32}  (h0 : 0 < d) (h : vMI E (d - 1) M_X12_rulesOf [sl 6 0, wi x1] V (fun r1 V1 => (r1 ≤ x4 → vwp E d M_X12_isBound 94 [some (sl 6 0), some (wi x1), some (wi x2), some (wi x3), some (wi 0)] [] V1 (zi K)) ∧ (¬ (r1 ≤ x4) → (¬ x2 = 0 → vwp E d M_X12_isBound 60 [some (sl 6 0), some (wi x1), some (wi x2), some (wi x3), some (wi x4)] [wi x4, sl 6 57] V1 (zi K)) ∧ (x2 = 0 → vp_in ((20000 * x4) + x3) 480000 ∧ (vp_in x4 30 ∧ (((vJ V1 6 57 (Int32.toNatClampNeg x4)) ≤ (Int32.toInt64 (vI V1 6 43 (Int32.toNatClampNeg ((20000 * x4) + x3)))) → vp_in x4 30 ∧ (vwp E d M_X12_isBound 84 [some (sl 6 0), some (wi x1), some (wi x2), some (wi x3), some (wi x4)] [wj (vJ V1 6 57 (Int32.toNatClampNeg x4)), wi x4, sl 6 57] V1 (zi K))) ∧ (¬ ((vJ V1 6 57 (Int32.toNatClampNeg x4)) ≤ (Int32.toInt64 (vI V1 6 43 (Int32.toNatClampNeg ((20000 * x4) + x3))))) → vwp E d M_X12_isBound 60 [some (sl 6 0), some (wi x1), some (wi x2), some (wi x3), some (wi x4)] [wi x4, sl 6 57] V1 (zi K)))))))) : vwp E d M_X12_isBound 15 [some (sl 6 0), some (wi x1), some (wi x2), some (wi x3), some (wi x4)] [] V (zi K) := by
  intro G A hR
  obtain ⟨L, P, rfl, hS⟩ := hR
  have hx := Xt.refl (V := pl G A L P) (A := A)
  show wp E d M_X12_isBound 15 [some (vr (A 6 0)), some (vi x1), some (vi x2), some (vi x3), some (vi x4)] [] G _
  refine v_X12_isBound_15 h0 ?_
  refine ⟨hS.o (s6_0 hS), ?_⟩
  refine wpM.mono (h G A ⟨L, P, rfl, hS⟩) (fun rr1 G1 hr => ?_)
  obtain ⟨A1, W1, w1, ⟨L1, P1, rfl, hS1⟩, hy1, rfl, r1, rfl, h⟩ := hr
  refine ⟨r1, rfl, ?_⟩
  have hx1 := Xt.trans hx hy1
  have ee2 : A1 6 0 = A 6 0 := hy1.2 _ _ hS.1.2.1 (((n6_0 hS1)).trans ((n6_0 hS)).symm)
  try rw [← ee2]
  refine ⟨fun hc => ?_, fun hc => ?_⟩
  · have h := h.1 hc
    exact wp.mono (h G1 A1 ⟨L1, P1, rfl, hS1⟩) (fun r G' q => qx_trans hx1 q)
  · have h := h.2 hc
    refine ⟨hS1.o (s6_0 hS1), ?_⟩
    rw [l6_0_86 hS1]
    refine ⟨fun hc => ?_, fun hc => ?_⟩
    · have h := h.1 hc
      exact wp.mono (h G1 A1 ⟨L1, P1, rfl, hS1⟩) (fun r G' q => qx_trans hx1 q)
    · have h := h.2 hc
      rw [l6_0_64 hS1]
      refine ⟨hS1.o (s6_43 hS1), ?_⟩
      obtain ⟨hi3, h⟩ := h
      refine ⟨by first | (rw [(n6_43 hS1)]; exact hi3) | exact (congrArg (vp_in _) (n6_43 hS1)).mpr hi3 | exact hi3, ?_⟩
      refine ⟨hS1.o (s6_57 hS1), ?_⟩
      obtain ⟨hi4, h⟩ := h
      refine ⟨by first | (rw [(n6_57 hS1)]; exact hi4) | exact (congrArg (vp_in _) (n6_57 hS1)).mpr hi4 | exact hi4, ?_⟩
      refine ⟨fun hc => ?_, fun hc => ?_⟩
      · have h := h.1 hc
        obtain ⟨hi5, h⟩ := h
        refine ⟨by first | (rw [(n6_57 hS1)]; exact hi5) | exact (congrArg (vp_in _) (n6_57 hS1)).mpr hi5 | exact hi5, ?_⟩
        exact wp.mono (h G1 A1 ⟨L1, P1, rfl, hS1⟩) (fun r G' q => qx_trans hx1 q)
      · have h := h.2 hc
        exact wp.mono (h G1 A1 ⟨L1, P1, rfl, hS1⟩) (fun r G' q => qx_trans hx1 q)
theorem w_X12_isBound_60 {E : EE} {d : Nat} {V : VH} {K : Int32 → VH → Prop} {x1 : Int32} {x2 : Int32} {x3 : Int32} {x4 : Int32} {a90 f90 : Nat} {t1 : Int32} (hA90 : SL (vL V) a90 f90 15) (h : vp_in ((20000 * x4) + x3) 480000 ∧ (vwp E d M_X12_isBound 84 [some (sl 6 0), some (wi x1), some (wi x2), some (wi x3), some (wi x4)] [wj (Int32.toInt64 (vI V 6 43 (Int32.toNatClampNeg ((20000 * x4) + x3)))), wi t1, sl a90 f90] V (zi K))) : vwp E d M_X12_isBound 60 [some (sl 6 0), some (wi x1), some (wi x2), some (wi x3), some (wi x4)] [wi t1, sl a90 f90] V (zi K) := by
  intro G A hR
  obtain ⟨L, P, rfl, hS⟩ := hR
  have hx := Xt.refl (V := pl G A L P) (A := A)
  show wp E d M_X12_isBound 60 [some (vr (A 6 0)), some (vi x1), some (vi x2), some (vi x3), some (vi x4)] [vi t1, vr (A a90 f90)] G _
  refine v_X12_isBound_60 ?_
  refine ⟨hS.o (s6_0 hS), ?_⟩
  rw [l6_0_64 hS]
  refine ⟨hS.o (s6_43 hS), ?_⟩
  obtain ⟨hi1, h⟩ := h
  refine ⟨by first | (rw [(n6_43 hS)]; exact hi1) | exact (congrArg (vp_in _) (n6_43 hS)).mpr hi1 | exact hi1, ?_⟩
  exact wp.mono (h G A ⟨L, P, rfl, hS⟩) (fun r G' q => qx_trans hx q)
theorem w_X12_isBound_84 {E : EE} {d : Nat} {V : VH} {K : Int32 → VH → Prop} {x1 : Int32} {x2 : Int32} {x3 : Int32} {x4 : Int32} {a90 f90 : Nat} {t1 : Int32} {t2 : Int64} (hA90 : SL (vL V) a90 f90 15) (h : vp_in t1 (vN V a90 f90) ∧ (∀ V2 : VH, V2 = wrJ V a90 f90 (Int32.toNatClampNeg t1) t2 → vwp E d M_X12_isBound 15 [some (sl 6 0), some (wi x1), some (wi x2), some (wi x3), some (wi (x4 + 1))] [] V2 (zi K))) : vwp E d M_X12_isBound 84 [some (sl 6 0), some (wi x1), some (wi x2), some (wi x3), some (wi x4)] [wj t2, wi t1, sl a90 f90] V (zi K) := by
  intro G A hR
  obtain ⟨L, P, rfl, hS⟩ := hR
  have hx := Xt.refl (V := pl G A L P) (A := A)
  show wp E d M_X12_isBound 84 [some (vr (A 6 0)), some (vi x1), some (vi x2), some (vi x3), some (vi x4)] [vj t2, vi t1, vr (A a90 f90)] G _
  refine v_X12_isBound_84 ?_
  refine ⟨hS.o hA90, ?_⟩
  obtain ⟨hi1, h⟩ := h
  refine ⟨hi1, ?_⟩
  have hS2 : Sh E (sJ G (A a90 f90) (Int32.toNatClampNeg t1) t2) A L P := Sh_sJ (rfl : sJ G (A a90 f90) (Int32.toNatClampNeg t1) t2 = sJ G (A a90 f90) (Int32.toNatClampNeg t1) t2) hS
  have h := h (pl (sJ G (A a90 f90) (Int32.toNatClampNeg t1) t2) A L P) (pl_sJ (rfl : sJ G (A a90 f90) (Int32.toNatClampNeg t1) t2 = sJ G (A a90 f90) (Int32.toNatClampNeg t1) t2) hS hA90)
  have hx2 : Xt (pl G A L P) A (pl (sJ G (A a90 f90) (Int32.toNatClampNeg t1) t2) A L P) A := Xt_sJ (rfl : sJ G (A a90 f90) (Int32.toNatClampNeg t1) t2 = sJ G (A a90 f90) (Int32.toNatClampNeg t1) t2) hx
  exact wp.mono (h (sJ G (A a90 f90) (Int32.toNatClampNeg t1) t2) A ⟨L, P, rfl, hS2⟩) (fun r G' q => qx_trans hx2 q)
theorem w_X12_isBound_94 {E : EE} {d : Nat} {V : VH} {K : Int32 → VH → Prop} {x1 : Int32} {x2 : Int32} {x3 : Int32} {x4 : Int32}  (h0 : 0 < d) (h : vMI E (d - 1) M_X12_aimsOf [sl 6 0, wi x1] V (fun r1 V1 => (r1 ≤ x4 → vMI E (d - 1) M_X12_nextGiven [sl 6 0, wi x1, wi x3] V1 (fun r3 V3 => vwp E d M_X12_isBound 8 [some (sl 6 0), some (wi x1), some (wi 0), some (wi r3), none] [] V3 (zi K))) ∧ (¬ (r1 ≤ x4) → (¬ x2 = 0 → vwp E d M_X12_isBound 145 [some (sl 6 0), some (wi x1), some (wi x2), some (wi x3), some (wi x4)] [wi (24 + x4), sl 6 57] V1 (zi K)) ∧ (x2 = 0 → vp_in ((20000 * x4) + x3) 120000 ∧ (vp_in (24 + x4) 30 ∧ (((vJ V1 6 57 (Int32.toNatClampNeg (24 + x4))) ≤ (Int32.toInt64 (vI V1 6 44 (Int32.toNatClampNeg ((20000 * x4) + x3)))) → vp_in (24 + x4) 30 ∧ (vwp E d M_X12_isBound 172 [some (sl 6 0), some (wi x1), some (wi x2), some (wi x3), some (wi x4)] [wj (vJ V1 6 57 (Int32.toNatClampNeg (24 + x4))), wi (24 + x4), sl 6 57] V1 (zi K))) ∧ (¬ ((vJ V1 6 57 (Int32.toNatClampNeg (24 + x4))) ≤ (Int32.toInt64 (vI V1 6 44 (Int32.toNatClampNeg ((20000 * x4) + x3))))) → vwp E d M_X12_isBound 145 [some (sl 6 0), some (wi x1), some (wi x2), some (wi x3), some (wi x4)] [wi (24 + x4), sl 6 57] V1 (zi K)))))))) : vwp E d M_X12_isBound 94 [some (sl 6 0), some (wi x1), some (wi x2), some (wi x3), some (wi x4)] [] V (zi K) := by
  intro G A hR
  obtain ⟨L, P, rfl, hS⟩ := hR
  have hx := Xt.refl (V := pl G A L P) (A := A)
  show wp E d M_X12_isBound 94 [some (vr (A 6 0)), some (vi x1), some (vi x2), some (vi x3), some (vi x4)] [] G _
  refine v_X12_isBound_94 h0 ?_
  refine ⟨hS.o (s6_0 hS), ?_⟩
  refine wpM.mono (h G A ⟨L, P, rfl, hS⟩) (fun rr1 G1 hr => ?_)
  obtain ⟨A1, W1, w1, ⟨L1, P1, rfl, hS1⟩, hy1, rfl, r1, rfl, h⟩ := hr
  refine ⟨r1, rfl, ?_⟩
  have hx1 := Xt.trans hx hy1
  have ee2 : A1 6 0 = A 6 0 := hy1.2 _ _ hS.1.2.1 (((n6_0 hS1)).trans ((n6_0 hS)).symm)
  try rw [← ee2]
  refine ⟨fun hc => ?_, fun hc => ?_⟩
  · have h := h.1 hc
    refine ⟨hS1.o (s6_0 hS1), ?_⟩
    refine wpM.mono (h G1 A1 ⟨L1, P1, rfl, hS1⟩) (fun rr3 G3 hr => ?_)
    obtain ⟨A3, W3, w3, ⟨L3, P3, rfl, hS3⟩, hy3, rfl, r3, rfl, h⟩ := hr
    refine ⟨r3, rfl, ?_⟩
    have hx3 := Xt.trans hx1 hy3
    have ee4 : A3 6 0 = A1 6 0 := hy3.2 _ _ hS1.1.2.1 (((n6_0 hS3)).trans ((n6_0 hS1)).symm)
    try rw [← ee4]
    exact wp.mono (h G3 A3 ⟨L3, P3, rfl, hS3⟩) (fun r G' q => qx_trans hx3 q)
  · have h := h.2 hc
    refine ⟨hS1.o (s6_0 hS1), ?_⟩
    rw [l6_0_86 hS1]
    refine ⟨fun hc => ?_, fun hc => ?_⟩
    · have h := h.1 hc
      exact wp.mono (h G1 A1 ⟨L1, P1, rfl, hS1⟩) (fun r G' q => qx_trans hx1 q)
    · have h := h.2 hc
      rw [l6_0_65 hS1]
      refine ⟨hS1.o (s6_44 hS1), ?_⟩
      obtain ⟨hi5, h⟩ := h
      refine ⟨by first | (rw [(n6_44 hS1)]; exact hi5) | exact (congrArg (vp_in _) (n6_44 hS1)).mpr hi5 | exact hi5, ?_⟩
      refine ⟨hS1.o (s6_57 hS1), ?_⟩
      obtain ⟨hi6, h⟩ := h
      refine ⟨by first | (rw [(n6_57 hS1)]; exact hi6) | exact (congrArg (vp_in _) (n6_57 hS1)).mpr hi6 | exact hi6, ?_⟩
      refine ⟨fun hc => ?_, fun hc => ?_⟩
      · have h := h.1 hc
        obtain ⟨hi7, h⟩ := h
        refine ⟨by first | (rw [(n6_57 hS1)]; exact hi7) | exact (congrArg (vp_in _) (n6_57 hS1)).mpr hi7 | exact hi7, ?_⟩
        exact wp.mono (h G1 A1 ⟨L1, P1, rfl, hS1⟩) (fun r G' q => qx_trans hx1 q)
      · have h := h.2 hc
        exact wp.mono (h G1 A1 ⟨L1, P1, rfl, hS1⟩) (fun r G' q => qx_trans hx1 q)
theorem w_X12_isBound_145 {E : EE} {d : Nat} {V : VH} {K : Int32 → VH → Prop} {x1 : Int32} {x2 : Int32} {x3 : Int32} {x4 : Int32} {a90 f90 : Nat} {t1 : Int32} (hA90 : SL (vL V) a90 f90 15) (h : vp_in ((20000 * x4) + x3) 120000 ∧ (vwp E d M_X12_isBound 172 [some (sl 6 0), some (wi x1), some (wi x2), some (wi x3), some (wi x4)] [wj (Int32.toInt64 (vI V 6 44 (Int32.toNatClampNeg ((20000 * x4) + x3)))), wi t1, sl a90 f90] V (zi K))) : vwp E d M_X12_isBound 145 [some (sl 6 0), some (wi x1), some (wi x2), some (wi x3), some (wi x4)] [wi t1, sl a90 f90] V (zi K) := by
  intro G A hR
  obtain ⟨L, P, rfl, hS⟩ := hR
  have hx := Xt.refl (V := pl G A L P) (A := A)
  show wp E d M_X12_isBound 145 [some (vr (A 6 0)), some (vi x1), some (vi x2), some (vi x3), some (vi x4)] [vi t1, vr (A a90 f90)] G _
  refine v_X12_isBound_145 ?_
  refine ⟨hS.o (s6_0 hS), ?_⟩
  rw [l6_0_65 hS]
  refine ⟨hS.o (s6_44 hS), ?_⟩
  obtain ⟨hi1, h⟩ := h
  refine ⟨by first | (rw [(n6_44 hS)]; exact hi1) | exact (congrArg (vp_in _) (n6_44 hS)).mpr hi1 | exact hi1, ?_⟩
  exact wp.mono (h G A ⟨L, P, rfl, hS⟩) (fun r G' q => qx_trans hx q)
theorem w_X12_isBound_172 {E : EE} {d : Nat} {V : VH} {K : Int32 → VH → Prop} {x1 : Int32} {x2 : Int32} {x3 : Int32} {x4 : Int32} {a90 f90 : Nat} {t1 : Int32} {t2 : Int64} (hA90 : SL (vL V) a90 f90 15) (h : vp_in t1 (vN V a90 f90) ∧ (∀ V2 : VH, V2 = wrJ V a90 f90 (Int32.toNatClampNeg t1) t2 → vwp E d M_X12_isBound 94 [some (sl 6 0), some (wi x1), some (wi x2), some (wi x3), some (wi (x4 + 1))] [] V2 (zi K))) : vwp E d M_X12_isBound 172 [some (sl 6 0), some (wi x1), some (wi x2), some (wi x3), some (wi x4)] [wj t2, wi t1, sl a90 f90] V (zi K) := by
  intro G A hR
  obtain ⟨L, P, rfl, hS⟩ := hR
  have hx := Xt.refl (V := pl G A L P) (A := A)
  show wp E d M_X12_isBound 172 [some (vr (A 6 0)), some (vi x1), some (vi x2), some (vi x3), some (vi x4)] [vj t2, vi t1, vr (A a90 f90)] G _
  refine v_X12_isBound_172 ?_
  refine ⟨hS.o hA90, ?_⟩
  obtain ⟨hi1, h⟩ := h
  refine ⟨hi1, ?_⟩
  have hS2 : Sh E (sJ G (A a90 f90) (Int32.toNatClampNeg t1) t2) A L P := Sh_sJ (rfl : sJ G (A a90 f90) (Int32.toNatClampNeg t1) t2 = sJ G (A a90 f90) (Int32.toNatClampNeg t1) t2) hS
  have h := h (pl (sJ G (A a90 f90) (Int32.toNatClampNeg t1) t2) A L P) (pl_sJ (rfl : sJ G (A a90 f90) (Int32.toNatClampNeg t1) t2 = sJ G (A a90 f90) (Int32.toNatClampNeg t1) t2) hS hA90)
  have hx2 : Xt (pl G A L P) A (pl (sJ G (A a90 f90) (Int32.toNatClampNeg t1) t2) A L P) A := Xt_sJ (rfl : sJ G (A a90 f90) (Int32.toNatClampNeg t1) t2 = sJ G (A a90 f90) (Int32.toNatClampNeg t1) t2) hx
  exact wp.mono (h (sJ G (A a90 f90) (Int32.toNatClampNeg t1) t2) A ⟨L, P, rfl, hS2⟩) (fun r G' q => qx_trans hx2 q)
theorem w_X12_isBound_193 {E : EE} {d : Nat} {V : VH} {K : Int32 → VH → Prop} {x1 : Int32} {x2 : Int32} {x3 : Int32}  (h : (3 ≤ x3 → vwp E d M_X12_isBound 213 [some (sl 6 0), some (wi x1), some (wi x2), some (wi 0), none] [] V (zi K)) ∧ (¬ (3 ≤ x3) → vp_in x3 3 ∧ (∀ V2 : VH, V2 = wrJ V 6 56 (Int32.toNatClampNeg x3) 0 → vwp E d M_X12_isBound 193 [some (sl 6 0), some (wi x1), some (wi x2), some (wi (x3 + 1)), none] [] V2 (zi K)))) : vwp E d M_X12_isBound 193 [some (sl 6 0), some (wi x1), some (wi x2), some (wi x3), none] [] V (zi K) := by
  intro G A hR
  obtain ⟨L, P, rfl, hS⟩ := hR
  have hx := Xt.refl (V := pl G A L P) (A := A)
  show wp E d M_X12_isBound 193 [some (vr (A 6 0)), some (vi x1), some (vi x2), some (vi x3), none] [] G _
  refine v_X12_isBound_193 ?_
  refine ⟨fun hc => ?_, fun hc => ?_⟩
  · have h := h.1 hc
    exact wp.mono (h G A ⟨L, P, rfl, hS⟩) (fun r G' q => qx_trans hx q)
  · have h := h.2 hc
    refine ⟨hS.o (s6_0 hS), ?_⟩
    rw [l6_0_85 hS]
    refine ⟨hS.o (s6_56 hS), ?_⟩
    obtain ⟨hi1, h⟩ := h
    refine ⟨by first | (rw [(n6_56 hS)]; exact hi1) | exact (congrArg (vp_in _) (n6_56 hS)).mpr hi1 | exact hi1, ?_⟩
    have hS2 : Sh E (sJ G (A 6 56) (Int32.toNatClampNeg x3) 0) A L P := Sh_sJ (rfl : sJ G (A 6 56) (Int32.toNatClampNeg x3) 0 = sJ G (A 6 56) (Int32.toNatClampNeg x3) 0) hS
    have h := h (pl (sJ G (A 6 56) (Int32.toNatClampNeg x3) 0) A L P) (pl_sJ (rfl : sJ G (A 6 56) (Int32.toNatClampNeg x3) 0 = sJ G (A 6 56) (Int32.toNatClampNeg x3) 0) hS (s6_56 hS))
    have hx2 : Xt (pl G A L P) A (pl (sJ G (A 6 56) (Int32.toNatClampNeg x3) 0) A L P) A := Xt_sJ (rfl : sJ G (A 6 56) (Int32.toNatClampNeg x3) 0 = sJ G (A 6 56) (Int32.toNatClampNeg x3) 0) hx
    exact wp.mono (h (sJ G (A 6 56) (Int32.toNatClampNeg x3) 0) A ⟨L, P, rfl, hS2⟩) (fun r G' q => qx_trans hx2 q)
theorem w_X12_isBound_213 {E : EE} {d : Nat} {V : VH} {K : Int32 → VH → Prop} {x1 : Int32} {x2 : Int32} {x3 : Int32}  (h0 : 0 < d) (h : vMI E (d - 1) M_X12_rulesOf [sl 6 0, wi x1] V (fun r1 V1 => (r1 ≤ x3 → vwp E d M_X12_isBound 268 [some (sl 6 0), some (wi x1), some (wi x2), some (wi 0), none] [] V1 (zi K)) ∧ (¬ (r1 ≤ x3) → vp_in ((24 * x1) + x3) 120 ∧ (vp_in (vI V1 6 24 (Int32.toNatClampNeg ((24 * x1) + x3))) 3 ∧ (vp_in ((24 * x1) + x3) 120 ∧ (vp_in x3 30 ∧ (vp_in (vI V1 6 24 (Int32.toNatClampNeg ((24 * x1) + x3))) 3 ∧ (∀ V8 : VH, V8 = wrJ V1 6 56 (Int32.toNatClampNeg (vI V1 6 24 (Int32.toNatClampNeg ((24 * x1) + x3)))) ((vJ V1 6 56 (Int32.toNatClampNeg (vI V1 6 24 (Int32.toNatClampNeg ((24 * x1) + x3))))) + ((Int32.toInt64 (vI V1 6 25 (Int32.toNatClampNeg ((24 * x1) + x3)))) * (vJ V1 6 57 (Int32.toNatClampNeg x3)))) → vwp E d M_X12_isBound 213 [some (sl 6 0), some (wi x1), some (wi x2), some (wi (x3 + 1)), none] [] V8 (zi K))))))))) : vwp E d M_X12_isBound 213 [some (sl 6 0), some (wi x1), some (wi x2), some (wi x3), none] [] V (zi K) := by
  intro G A hR
  obtain ⟨L, P, rfl, hS⟩ := hR
  have hx := Xt.refl (V := pl G A L P) (A := A)
  show wp E d M_X12_isBound 213 [some (vr (A 6 0)), some (vi x1), some (vi x2), some (vi x3), none] [] G _
  refine v_X12_isBound_213 h0 ?_
  refine ⟨hS.o (s6_0 hS), ?_⟩
  refine wpM.mono (h G A ⟨L, P, rfl, hS⟩) (fun rr1 G1 hr => ?_)
  obtain ⟨A1, W1, w1, ⟨L1, P1, rfl, hS1⟩, hy1, rfl, r1, rfl, h⟩ := hr
  refine ⟨r1, rfl, ?_⟩
  have hx1 := Xt.trans hx hy1
  have ee2 : A1 6 0 = A 6 0 := hy1.2 _ _ hS.1.2.1 (((n6_0 hS1)).trans ((n6_0 hS)).symm)
  try rw [← ee2]
  refine ⟨fun hc => ?_, fun hc => ?_⟩
  · have h := h.1 hc
    exact wp.mono (h G1 A1 ⟨L1, P1, rfl, hS1⟩) (fun r G' q => qx_trans hx1 q)
  · have h := h.2 hc
    refine ⟨hS1.o (s6_0 hS1), ?_⟩
    rw [l6_0_85 hS1]
    rw [l6_0_27 hS1]
    refine ⟨hS1.o (s6_24 hS1), ?_⟩
    obtain ⟨hi3, h⟩ := h
    refine ⟨by first | (rw [(n6_24 hS1)]; exact hi3) | exact (congrArg (vp_in _) (n6_24 hS1)).mpr hi3 | exact hi3, ?_⟩
    refine ⟨hS1.o (s6_56 hS1), ?_⟩
    obtain ⟨hi4, h⟩ := h
    refine ⟨by first | (rw [(n6_56 hS1)]; exact hi4) | exact (congrArg (vp_in _) (n6_56 hS1)).mpr hi4 | exact hi4, ?_⟩
    rw [l6_0_28 hS1]
    refine ⟨hS1.o (s6_25 hS1), ?_⟩
    obtain ⟨hi5, h⟩ := h
    refine ⟨by first | (rw [(n6_25 hS1)]; exact hi5) | exact (congrArg (vp_in _) (n6_25 hS1)).mpr hi5 | exact hi5, ?_⟩
    rw [l6_0_86 hS1]
    refine ⟨hS1.o (s6_57 hS1), ?_⟩
    obtain ⟨hi6, h⟩ := h
    refine ⟨by first | (rw [(n6_57 hS1)]; exact hi6) | exact (congrArg (vp_in _) (n6_57 hS1)).mpr hi6 | exact hi6, ?_⟩
    obtain ⟨hi7, h⟩ := h
    refine ⟨by first | (rw [(n6_56 hS1)]; exact hi7) | exact (congrArg (vp_in _) (n6_56 hS1)).mpr hi7 | exact hi7, ?_⟩
    have hS8 : Sh E (sJ G1 (A1 6 56) (Int32.toNatClampNeg (gI G1 (A1 6 24) (Int32.toNatClampNeg ((24 * x1) + x3)))) ((gJ G1 (A1 6 56) (Int32.toNatClampNeg (gI G1 (A1 6 24) (Int32.toNatClampNeg ((24 * x1) + x3))))) + ((Int32.toInt64 (gI G1 (A1 6 25) (Int32.toNatClampNeg ((24 * x1) + x3)))) * (gJ G1 (A1 6 57) (Int32.toNatClampNeg x3))))) A1 L1 P1 := Sh_sJ (rfl : sJ G1 (A1 6 56) (Int32.toNatClampNeg (gI G1 (A1 6 24) (Int32.toNatClampNeg ((24 * x1) + x3)))) ((gJ G1 (A1 6 56) (Int32.toNatClampNeg (gI G1 (A1 6 24) (Int32.toNatClampNeg ((24 * x1) + x3))))) + ((Int32.toInt64 (gI G1 (A1 6 25) (Int32.toNatClampNeg ((24 * x1) + x3)))) * (gJ G1 (A1 6 57) (Int32.toNatClampNeg x3)))) = sJ G1 (A1 6 56) (Int32.toNatClampNeg (gI G1 (A1 6 24) (Int32.toNatClampNeg ((24 * x1) + x3)))) ((gJ G1 (A1 6 56) (Int32.toNatClampNeg (gI G1 (A1 6 24) (Int32.toNatClampNeg ((24 * x1) + x3))))) + ((Int32.toInt64 (gI G1 (A1 6 25) (Int32.toNatClampNeg ((24 * x1) + x3)))) * (gJ G1 (A1 6 57) (Int32.toNatClampNeg x3))))) hS1
    have h := h (pl (sJ G1 (A1 6 56) (Int32.toNatClampNeg (gI G1 (A1 6 24) (Int32.toNatClampNeg ((24 * x1) + x3)))) ((gJ G1 (A1 6 56) (Int32.toNatClampNeg (gI G1 (A1 6 24) (Int32.toNatClampNeg ((24 * x1) + x3))))) + ((Int32.toInt64 (gI G1 (A1 6 25) (Int32.toNatClampNeg ((24 * x1) + x3)))) * (gJ G1 (A1 6 57) (Int32.toNatClampNeg x3))))) A1 L1 P1) (pl_sJ (rfl : sJ G1 (A1 6 56) (Int32.toNatClampNeg (gI G1 (A1 6 24) (Int32.toNatClampNeg ((24 * x1) + x3)))) ((gJ G1 (A1 6 56) (Int32.toNatClampNeg (gI G1 (A1 6 24) (Int32.toNatClampNeg ((24 * x1) + x3))))) + ((Int32.toInt64 (gI G1 (A1 6 25) (Int32.toNatClampNeg ((24 * x1) + x3)))) * (gJ G1 (A1 6 57) (Int32.toNatClampNeg x3)))) = sJ G1 (A1 6 56) (Int32.toNatClampNeg (gI G1 (A1 6 24) (Int32.toNatClampNeg ((24 * x1) + x3)))) ((gJ G1 (A1 6 56) (Int32.toNatClampNeg (gI G1 (A1 6 24) (Int32.toNatClampNeg ((24 * x1) + x3))))) + ((Int32.toInt64 (gI G1 (A1 6 25) (Int32.toNatClampNeg ((24 * x1) + x3)))) * (gJ G1 (A1 6 57) (Int32.toNatClampNeg x3))))) hS1 (s6_56 hS1))
    have hx8 : Xt (pl G A L P) A (pl (sJ G1 (A1 6 56) (Int32.toNatClampNeg (gI G1 (A1 6 24) (Int32.toNatClampNeg ((24 * x1) + x3)))) ((gJ G1 (A1 6 56) (Int32.toNatClampNeg (gI G1 (A1 6 24) (Int32.toNatClampNeg ((24 * x1) + x3))))) + ((Int32.toInt64 (gI G1 (A1 6 25) (Int32.toNatClampNeg ((24 * x1) + x3)))) * (gJ G1 (A1 6 57) (Int32.toNatClampNeg x3))))) A1 L1 P1) A1 := Xt_sJ (rfl : sJ G1 (A1 6 56) (Int32.toNatClampNeg (gI G1 (A1 6 24) (Int32.toNatClampNeg ((24 * x1) + x3)))) ((gJ G1 (A1 6 56) (Int32.toNatClampNeg (gI G1 (A1 6 24) (Int32.toNatClampNeg ((24 * x1) + x3))))) + ((Int32.toInt64 (gI G1 (A1 6 25) (Int32.toNatClampNeg ((24 * x1) + x3)))) * (gJ G1 (A1 6 57) (Int32.toNatClampNeg x3)))) = sJ G1 (A1 6 56) (Int32.toNatClampNeg (gI G1 (A1 6 24) (Int32.toNatClampNeg ((24 * x1) + x3)))) ((gJ G1 (A1 6 56) (Int32.toNatClampNeg (gI G1 (A1 6 24) (Int32.toNatClampNeg ((24 * x1) + x3))))) + ((Int32.toInt64 (gI G1 (A1 6 25) (Int32.toNatClampNeg ((24 * x1) + x3)))) * (gJ G1 (A1 6 57) (Int32.toNatClampNeg x3))))) hx1
    exact wp.mono (h (sJ G1 (A1 6 56) (Int32.toNatClampNeg (gI G1 (A1 6 24) (Int32.toNatClampNeg ((24 * x1) + x3)))) ((gJ G1 (A1 6 56) (Int32.toNatClampNeg (gI G1 (A1 6 24) (Int32.toNatClampNeg ((24 * x1) + x3))))) + ((Int32.toInt64 (gI G1 (A1 6 25) (Int32.toNatClampNeg ((24 * x1) + x3)))) * (gJ G1 (A1 6 57) (Int32.toNatClampNeg x3))))) A1 ⟨L1, P1, rfl, hS8⟩) (fun r G' q => qx_trans hx8 q)
theorem w_X12_isBound_268 {E : EE} {d : Nat} {V : VH} {K : Int32 → VH → Prop} {x1 : Int32} {x2 : Int32} {x3 : Int32}  (h0 : 0 < d) (h : vMI E (d - 1) M_X12_aimsOf [sl 6 0, wi x1] V (fun r1 V1 => (r1 ≤ x3 → vMI E (d - 1) M_X12_handOf [sl 6 0, wi x1] V1 (fun r3 V3 => vwp E d M_X12_isBound 320 [some (sl 6 0), some (wi x1), some (wi x2), some (wi r3), some (wi 0)] [] V3 (zi K))) ∧ (¬ (r1 ≤ x3) → vp_in ((6 * x1) + x3) 30 ∧ (vp_in (vI V1 6 27 (Int32.toNatClampNeg ((6 * x1) + x3))) 3 ∧ (vp_in (24 + x3) 30 ∧ (vp_in (vI V1 6 27 (Int32.toNatClampNeg ((6 * x1) + x3))) 3 ∧ (∀ V9 : VH, V9 = wrJ V1 6 56 (Int32.toNatClampNeg (vI V1 6 27 (Int32.toNatClampNeg ((6 * x1) + x3)))) ((vJ V1 6 56 (Int32.toNatClampNeg (vI V1 6 27 (Int32.toNatClampNeg ((6 * x1) + x3))))) + (vJ V1 6 57 (Int32.toNatClampNeg (24 + x3)))) → vwp E d M_X12_isBound 268 [some (sl 6 0), some (wi x1), some (wi x2), some (wi (x3 + 1)), none] [] V9 (zi K)))))))) : vwp E d M_X12_isBound 268 [some (sl 6 0), some (wi x1), some (wi x2), some (wi x3), none] [] V (zi K) := by
  intro G A hR
  obtain ⟨L, P, rfl, hS⟩ := hR
  have hx := Xt.refl (V := pl G A L P) (A := A)
  show wp E d M_X12_isBound 268 [some (vr (A 6 0)), some (vi x1), some (vi x2), some (vi x3), none] [] G _
  refine v_X12_isBound_268 h0 ?_
  refine ⟨hS.o (s6_0 hS), ?_⟩
  refine wpM.mono (h G A ⟨L, P, rfl, hS⟩) (fun rr1 G1 hr => ?_)
  obtain ⟨A1, W1, w1, ⟨L1, P1, rfl, hS1⟩, hy1, rfl, r1, rfl, h⟩ := hr
  refine ⟨r1, rfl, ?_⟩
  have hx1 := Xt.trans hx hy1
  have ee2 : A1 6 0 = A 6 0 := hy1.2 _ _ hS.1.2.1 (((n6_0 hS1)).trans ((n6_0 hS)).symm)
  try rw [← ee2]
  refine ⟨fun hc => ?_, fun hc => ?_⟩
  · have h := h.1 hc
    refine ⟨hS1.o (s6_0 hS1), ?_⟩
    refine wpM.mono (h G1 A1 ⟨L1, P1, rfl, hS1⟩) (fun rr3 G3 hr => ?_)
    obtain ⟨A3, W3, w3, ⟨L3, P3, rfl, hS3⟩, hy3, rfl, r3, rfl, h⟩ := hr
    refine ⟨r3, rfl, ?_⟩
    have hx3 := Xt.trans hx1 hy3
    have ee4 : A3 6 0 = A1 6 0 := hy3.2 _ _ hS1.1.2.1 (((n6_0 hS3)).trans ((n6_0 hS1)).symm)
    try rw [← ee4]
    exact wp.mono (h G3 A3 ⟨L3, P3, rfl, hS3⟩) (fun r G' q => qx_trans hx3 q)
  · have h := h.2 hc
    refine ⟨hS1.o (s6_0 hS1), ?_⟩
    rw [l6_0_85 hS1]
    rw [l6_0_30 hS1]
    refine ⟨hS1.o (s6_27 hS1), ?_⟩
    obtain ⟨hi5, h⟩ := h
    refine ⟨by first | (rw [(n6_27 hS1)]; exact hi5) | exact (congrArg (vp_in _) (n6_27 hS1)).mpr hi5 | exact hi5, ?_⟩
    refine ⟨hS1.o (s6_56 hS1), ?_⟩
    obtain ⟨hi6, h⟩ := h
    refine ⟨by first | (rw [(n6_56 hS1)]; exact hi6) | exact (congrArg (vp_in _) (n6_56 hS1)).mpr hi6 | exact hi6, ?_⟩
    rw [l6_0_86 hS1]
    refine ⟨hS1.o (s6_57 hS1), ?_⟩
    obtain ⟨hi7, h⟩ := h
    refine ⟨by first | (rw [(n6_57 hS1)]; exact hi7) | exact (congrArg (vp_in _) (n6_57 hS1)).mpr hi7 | exact hi7, ?_⟩
    obtain ⟨hi8, h⟩ := h
    refine ⟨by first | (rw [(n6_56 hS1)]; exact hi8) | exact (congrArg (vp_in _) (n6_56 hS1)).mpr hi8 | exact hi8, ?_⟩
    have hS9 : Sh E (sJ G1 (A1 6 56) (Int32.toNatClampNeg (gI G1 (A1 6 27) (Int32.toNatClampNeg ((6 * x1) + x3)))) ((gJ G1 (A1 6 56) (Int32.toNatClampNeg (gI G1 (A1 6 27) (Int32.toNatClampNeg ((6 * x1) + x3))))) + (gJ G1 (A1 6 57) (Int32.toNatClampNeg (24 + x3))))) A1 L1 P1 := Sh_sJ (rfl : sJ G1 (A1 6 56) (Int32.toNatClampNeg (gI G1 (A1 6 27) (Int32.toNatClampNeg ((6 * x1) + x3)))) ((gJ G1 (A1 6 56) (Int32.toNatClampNeg (gI G1 (A1 6 27) (Int32.toNatClampNeg ((6 * x1) + x3))))) + (gJ G1 (A1 6 57) (Int32.toNatClampNeg (24 + x3)))) = sJ G1 (A1 6 56) (Int32.toNatClampNeg (gI G1 (A1 6 27) (Int32.toNatClampNeg ((6 * x1) + x3)))) ((gJ G1 (A1 6 56) (Int32.toNatClampNeg (gI G1 (A1 6 27) (Int32.toNatClampNeg ((6 * x1) + x3))))) + (gJ G1 (A1 6 57) (Int32.toNatClampNeg (24 + x3))))) hS1
    have h := h (pl (sJ G1 (A1 6 56) (Int32.toNatClampNeg (gI G1 (A1 6 27) (Int32.toNatClampNeg ((6 * x1) + x3)))) ((gJ G1 (A1 6 56) (Int32.toNatClampNeg (gI G1 (A1 6 27) (Int32.toNatClampNeg ((6 * x1) + x3))))) + (gJ G1 (A1 6 57) (Int32.toNatClampNeg (24 + x3))))) A1 L1 P1) (pl_sJ (rfl : sJ G1 (A1 6 56) (Int32.toNatClampNeg (gI G1 (A1 6 27) (Int32.toNatClampNeg ((6 * x1) + x3)))) ((gJ G1 (A1 6 56) (Int32.toNatClampNeg (gI G1 (A1 6 27) (Int32.toNatClampNeg ((6 * x1) + x3))))) + (gJ G1 (A1 6 57) (Int32.toNatClampNeg (24 + x3)))) = sJ G1 (A1 6 56) (Int32.toNatClampNeg (gI G1 (A1 6 27) (Int32.toNatClampNeg ((6 * x1) + x3)))) ((gJ G1 (A1 6 56) (Int32.toNatClampNeg (gI G1 (A1 6 27) (Int32.toNatClampNeg ((6 * x1) + x3))))) + (gJ G1 (A1 6 57) (Int32.toNatClampNeg (24 + x3))))) hS1 (s6_56 hS1))
    have hx9 : Xt (pl G A L P) A (pl (sJ G1 (A1 6 56) (Int32.toNatClampNeg (gI G1 (A1 6 27) (Int32.toNatClampNeg ((6 * x1) + x3)))) ((gJ G1 (A1 6 56) (Int32.toNatClampNeg (gI G1 (A1 6 27) (Int32.toNatClampNeg ((6 * x1) + x3))))) + (gJ G1 (A1 6 57) (Int32.toNatClampNeg (24 + x3))))) A1 L1 P1) A1 := Xt_sJ (rfl : sJ G1 (A1 6 56) (Int32.toNatClampNeg (gI G1 (A1 6 27) (Int32.toNatClampNeg ((6 * x1) + x3)))) ((gJ G1 (A1 6 56) (Int32.toNatClampNeg (gI G1 (A1 6 27) (Int32.toNatClampNeg ((6 * x1) + x3))))) + (gJ G1 (A1 6 57) (Int32.toNatClampNeg (24 + x3)))) = sJ G1 (A1 6 56) (Int32.toNatClampNeg (gI G1 (A1 6 27) (Int32.toNatClampNeg ((6 * x1) + x3)))) ((gJ G1 (A1 6 56) (Int32.toNatClampNeg (gI G1 (A1 6 27) (Int32.toNatClampNeg ((6 * x1) + x3))))) + (gJ G1 (A1 6 57) (Int32.toNatClampNeg (24 + x3))))) hx1
    exact wp.mono (h (sJ G1 (A1 6 56) (Int32.toNatClampNeg (gI G1 (A1 6 27) (Int32.toNatClampNeg ((6 * x1) + x3)))) ((gJ G1 (A1 6 56) (Int32.toNatClampNeg (gI G1 (A1 6 27) (Int32.toNatClampNeg ((6 * x1) + x3))))) + (gJ G1 (A1 6 57) (Int32.toNatClampNeg (24 + x3))))) A1 ⟨L1, P1, rfl, hS9⟩) (fun r G' q => qx_trans hx9 q)
theorem w_X12_isBound_320 {E : EE} {d : Nat} {V : VH} {K : Int32 → VH → Prop} {x1 : Int32} {x2 : Int32} {x3 : Int32} {x4 : Int32}  (h : (3 ≤ x4 → K 1 V) ∧ (¬ (3 ≤ x4) → vp_in ((20000 * x4) + x3) 60000 ∧ (vp_in x4 3 ∧ (((vJ V 6 45 (Int32.toNatClampNeg ((20000 * x4) + x3))) = (vJ V 6 56 (Int32.toNatClampNeg x4)) → vwp E d M_X12_isBound 320 [some (sl 6 0), some (wi x1), some (wi x2), some (wi x3), some (wi (x4 + 1))] [] V (zi K)) ∧ (¬ ((vJ V 6 45 (Int32.toNatClampNeg ((20000 * x4) + x3))) = (vJ V 6 56 (Int32.toNatClampNeg x4))) → vp_in ((20000 * x4) + x3) 60000 ∧ (vp_in x4 3 ∧ (((vJ V 6 56 (Int32.toNatClampNeg x4)) ≤ (vJ V 6 45 (Int32.toNatClampNeg ((20000 * x4) + x3))) → K 0 V) ∧ (¬ ((vJ V 6 56 (Int32.toNatClampNeg x4)) ≤ (vJ V 6 45 (Int32.toNatClampNeg ((20000 * x4) + x3)))) → K 1 V)))))))) : vwp E d M_X12_isBound 320 [some (sl 6 0), some (wi x1), some (wi x2), some (wi x3), some (wi x4)] [] V (zi K) := by
  intro G A hR
  obtain ⟨L, P, rfl, hS⟩ := hR
  have hx := Xt.refl (V := pl G A L P) (A := A)
  show wp E d M_X12_isBound 320 [some (vr (A 6 0)), some (vi x1), some (vi x2), some (vi x3), some (vi x4)] [] G _
  refine v_X12_isBound_320 ?_
  refine ⟨fun hc => ?_, fun hc => ?_⟩
  · have h := h.1 hc
    exact qx_i hS hx h
  · have h := h.2 hc
    refine ⟨hS.o (s6_0 hS), ?_⟩
    rw [l6_0_66 hS]
    refine ⟨hS.o (s6_45 hS), ?_⟩
    obtain ⟨hi1, h⟩ := h
    refine ⟨by first | (rw [(n6_45 hS)]; exact hi1) | exact (congrArg (vp_in _) (n6_45 hS)).mpr hi1 | exact hi1, ?_⟩
    rw [l6_0_85 hS]
    refine ⟨hS.o (s6_56 hS), ?_⟩
    obtain ⟨hi2, h⟩ := h
    refine ⟨by first | (rw [(n6_56 hS)]; exact hi2) | exact (congrArg (vp_in _) (n6_56 hS)).mpr hi2 | exact hi2, ?_⟩
    refine ⟨fun hc => ?_, fun hc => ?_⟩
    · have h := h.1 hc
      exact wp.mono (h G A ⟨L, P, rfl, hS⟩) (fun r G' q => qx_trans hx q)
    · have h := h.2 hc
      obtain ⟨hi3, h⟩ := h
      refine ⟨by first | (rw [(n6_45 hS)]; exact hi3) | exact (congrArg (vp_in _) (n6_45 hS)).mpr hi3 | exact hi3, ?_⟩
      obtain ⟨hi4, h⟩ := h
      refine ⟨by first | (rw [(n6_56 hS)]; exact hi4) | exact (congrArg (vp_in _) (n6_56 hS)).mpr hi4 | exact hi4, ?_⟩
      refine ⟨fun hc => ?_, fun hc => ?_⟩
      · have h := h.1 hc
        exact qx_i hS hx h
      · have h := h.2 hc
        exact qx_i hS hx h
theorem w_X12_trees_0 {E : EE} {d : Nat} {V : VH} {K : VH → Prop} {x1 : Int32} {x2 : Int32}  (h : vwp E d M_X12_trees 2 [some (sl 6 0), some (wi x1), some (wi x2), some (wi 0)] [] V (zv K)) : vMV E d M_X12_trees [sl 6 0, wi x1, wi x2] V K := by
  intro G A hR
  obtain ⟨L, P, rfl, hS⟩ := hR
  have hx := Xt.refl (V := pl G A L P) (A := A)
  show wpM E d M_X12_trees [vr (A 6 0), vi x1, vi x2] G _
  refine wpM_of mk_X12_trees (Nat.le_of_ble_eq_true rfl) ?_
  refine v_X12_trees_0 ?_
  exact wp.mono (h G A ⟨L, P, rfl, hS⟩) (fun r G' q => qx_trans hx q)
theorem w_X12_trees_2 {E : EE} {d : Nat} {V : VH} {K : VH → Prop} {x1 : Int32} {x2 : Int32} {x3 : Int32}  (h : (¬ (vI V 6 0 45) = 0 → vwp E d M_X12_trees 69 [some (sl 6 0), some (wi x1), some (wi x2), some (wi x3)] [] V (zv K)) ∧ ((vI V 6 0 45) = 0 → vp_in ((12 * x1) + x2) 60 ∧ (((vI V 6 16 (Int32.toNatClampNeg ((12 * x1) + x2))) ≤ x3 → vwp E d M_X12_trees 69 [some (sl 6 0), some (wi x1), some (wi x2), some (wi x3)] [] V (zv K)) ∧ (¬ ((vI V 6 16 (Int32.toNatClampNeg ((12 * x1) + x2))) ≤ x3) → (¬ x3 = 0 → vwp E d M_X12_trees 39 [some (sl 6 0), some (wi x1), some (wi x2), some (wi x3)] [wi 44, wi (vI V 6 0 41)] V (zv K)) ∧ (x3 = 0 → vwp E d M_X12_trees 39 [some (sl 6 0), some (wi x1), some (wi x2), some (wi x3)] [wi 40, wi (vI V 6 0 41)] V (zv K)))))) : vwp E d M_X12_trees 2 [some (sl 6 0), some (wi x1), some (wi x2), some (wi x3)] [] V (zv K) := by
  intro G A hR
  obtain ⟨L, P, rfl, hS⟩ := hR
  have hx := Xt.refl (V := pl G A L P) (A := A)
  show wp E d M_X12_trees 2 [some (vr (A 6 0)), some (vi x1), some (vi x2), some (vi x3)] [] G _
  refine v_X12_trees_2 ?_
  refine ⟨hS.o (s6_0 hS), ?_⟩
  refine ⟨fun hc => ?_, fun hc => ?_⟩
  · have h := h.1 hc
    exact wp.mono (h G A ⟨L, P, rfl, hS⟩) (fun r G' q => qx_trans hx q)
  · have h := h.2 hc
    rw [l6_0_19 hS]
    refine ⟨hS.o (s6_16 hS), ?_⟩
    obtain ⟨hi1, h⟩ := h
    refine ⟨by first | (rw [(n6_16 hS)]; exact hi1) | exact (congrArg (vp_in _) (n6_16 hS)).mpr hi1 | exact hi1, ?_⟩
    refine ⟨fun hc => ?_, fun hc => ?_⟩
    · have h := h.1 hc
      exact wp.mono (h G A ⟨L, P, rfl, hS⟩) (fun r G' q => qx_trans hx q)
    · have h := h.2 hc
      refine ⟨fun hc => ?_, fun hc => ?_⟩
      · have h := h.1 hc
        exact wp.mono (h G A ⟨L, P, rfl, hS⟩) (fun r G' q => qx_trans hx q)
      · have h := h.2 hc
        exact wp.mono (h G A ⟨L, P, rfl, hS⟩) (fun r G' q => qx_trans hx q)
theorem w_X12_trees_39 {E : EE} {d : Nat} {V : VH} {K : VH → Prop} {x1 : Int32} {x2 : Int32} {x3 : Int32} {t0 : Int32} {t1 : Int32}  (h0 : 0 < d) (h : (t0 = t1 → vMV E (d - 1) M_X12_next [sl 6 0] V (fun V1 => vp_in x2 12 ∧ (∀ V4 : VH, V4 = wrI V1 6 55 (Int32.toNatClampNeg x2) x3 → vMV E (d - 1) M_X12_tree [sl 6 0, wi x1] V4 (fun V5 => vwp E d M_X12_trees 2 [some (sl 6 0), some (wi x1), some (wi x2), some (wi (x3 + 1))] [] V5 (zv K))))) ∧ (¬ (t0 = t1) → vMV E (d - 1) M_X12_failHere [sl 6 0] V (fun V7 => K V7))) : vwp E d M_X12_trees 39 [some (sl 6 0), some (wi x1), some (wi x2), some (wi x3)] [wi t1, wi t0] V (zv K) := by
  intro G A hR
  obtain ⟨L, P, rfl, hS⟩ := hR
  have hx := Xt.refl (V := pl G A L P) (A := A)
  show wp E d M_X12_trees 39 [some (vr (A 6 0)), some (vi x1), some (vi x2), some (vi x3)] [vi t1, vi t0] G _
  refine v_X12_trees_39 h0 ?_
  refine ⟨fun hc => ?_, fun hc => ?_⟩
  · have h := h.1 hc
    refine ⟨hS.o (s6_0 hS), ?_⟩
    refine wpM.mono (h G A ⟨L, P, rfl, hS⟩) (fun rr1 G1 hr => ?_)
    obtain ⟨A1, W1, w1, ⟨L1, P1, rfl, hS1⟩, hy1, rfl, rfl, h⟩ := hr
    refine ⟨rfl, ?_⟩
    have hx1 := Xt.trans hx hy1
    have ee2 : A1 6 0 = A 6 0 := hy1.2 _ _ hS.1.2.1 (((n6_0 hS1)).trans ((n6_0 hS)).symm)
    try rw [← ee2]
    refine ⟨hS1.o (s6_0 hS1), ?_⟩
    rw [l6_0_83 hS1]
    refine ⟨hS1.o (s6_55 hS1), ?_⟩
    obtain ⟨hi3, h⟩ := h
    refine ⟨by first | (rw [(n6_55 hS1)]; exact hi3) | exact (congrArg (vp_in _) (n6_55 hS1)).mpr hi3 | exact hi3, ?_⟩
    have hS4 : Sh E (sI G1 (A1 6 55) (Int32.toNatClampNeg x2) x3) A1 L1 P1 := Sh_sI (rfl : sI G1 (A1 6 55) (Int32.toNatClampNeg x2) x3 = sI G1 (A1 6 55) (Int32.toNatClampNeg x2) x3) hS1 (s6_55 hS1) (okT_0 rfl)
    have h := h (pl (sI G1 (A1 6 55) (Int32.toNatClampNeg x2) x3) A1 L1 P1) (pl_sI (rfl : sI G1 (A1 6 55) (Int32.toNatClampNeg x2) x3 = sI G1 (A1 6 55) (Int32.toNatClampNeg x2) x3) hS1 (s6_55 hS1))
    have hx4 : Xt (pl G A L P) A (pl (sI G1 (A1 6 55) (Int32.toNatClampNeg x2) x3) A1 L1 P1) A1 := Xt_sI (rfl : sI G1 (A1 6 55) (Int32.toNatClampNeg x2) x3 = sI G1 (A1 6 55) (Int32.toNatClampNeg x2) x3) hx1
    refine wpM.mono (h (sI G1 (A1 6 55) (Int32.toNatClampNeg x2) x3) A1 ⟨L1, P1, rfl, hS4⟩) (fun rr5 G5 hr => ?_)
    obtain ⟨A5, W5, w5, ⟨L5, P5, rfl, hS5⟩, hy5, rfl, rfl, h⟩ := hr
    refine ⟨rfl, ?_⟩
    have hx5 := Xt.trans hx4 hy5
    have ee6 : A5 6 0 = A1 6 0 := hy5.2 _ _ hS4.1.2.1 (((n6_0 hS5)).trans ((n6_0 hS4)).symm)
    try rw [← ee6]
    exact wp.mono (h G5 A5 ⟨L5, P5, rfl, hS5⟩) (fun r G' q => qx_trans hx5 q)
  · have h := h.2 hc
    refine ⟨hS.o (s6_0 hS), ?_⟩
    refine wpM.mono (h G A ⟨L, P, rfl, hS⟩) (fun rr7 G7 hr => ?_)
    obtain ⟨A7, W7, w7, ⟨L7, P7, rfl, hS7⟩, hy7, rfl, rfl, h⟩ := hr
    refine ⟨rfl, ?_⟩
    have hx7 := Xt.trans hx hy7
    have ee8 : A7 6 0 = A 6 0 := hy7.2 _ _ hS.1.2.1 (((n6_0 hS7)).trans ((n6_0 hS)).symm)
    try rw [← ee8]
    exact qx_v hS7 hx7 h
theorem w_X12_trees_69 {E : EE} {d : Nat} {V : VH} {K : VH → Prop} {x1 : Int32} {x2 : Int32} {x3 : Int32}  (h0 : 0 < d) (h : vp_in x2 12 ∧ (∀ V2 : VH, V2 = wrI V 6 55 (Int32.toNatClampNeg x2) (-1) → (¬ (vI V2 6 0 45) = 0 → vwp E d M_X12_trees 96 [some (sl 6 0), some (wi x1), some (wi x2), some (wi x3)] [] V2 (zv K)) ∧ ((vI V2 6 0 45) = 0 → ((vI V2 6 0 41) = 41 → vwp E d M_X12_trees 96 [some (sl 6 0), some (wi x1), some (wi x2), some (wi x3)] [] V2 (zv K)) ∧ (¬ ((vI V2 6 0 41) = 41) → vMV E (d - 1) M_X12_failHere [sl 6 0] V2 (fun V3 => vwp E d M_X12_trees 96 [some (sl 6 0), some (wi x1), some (wi x2), some (wi x3)] [] V3 (zv K)))))) : vwp E d M_X12_trees 69 [some (sl 6 0), some (wi x1), some (wi x2), some (wi x3)] [] V (zv K) := by
  intro G A hR
  obtain ⟨L, P, rfl, hS⟩ := hR
  have hx := Xt.refl (V := pl G A L P) (A := A)
  show wp E d M_X12_trees 69 [some (vr (A 6 0)), some (vi x1), some (vi x2), some (vi x3)] [] G _
  refine v_X12_trees_69 h0 ?_
  refine ⟨hS.o (s6_0 hS), ?_⟩
  rw [l6_0_83 hS]
  refine ⟨hS.o (s6_55 hS), ?_⟩
  obtain ⟨hi1, h⟩ := h
  refine ⟨by first | (rw [(n6_55 hS)]; exact hi1) | exact (congrArg (vp_in _) (n6_55 hS)).mpr hi1 | exact hi1, ?_⟩
  have hS2 : Sh E (sI G (A 6 55) (Int32.toNatClampNeg x2) (-1)) A L P := Sh_sI (rfl : sI G (A 6 55) (Int32.toNatClampNeg x2) (-1) = sI G (A 6 55) (Int32.toNatClampNeg x2) (-1)) hS (s6_55 hS) (okT_0 rfl)
  have h := h (pl (sI G (A 6 55) (Int32.toNatClampNeg x2) (-1)) A L P) (pl_sI (rfl : sI G (A 6 55) (Int32.toNatClampNeg x2) (-1) = sI G (A 6 55) (Int32.toNatClampNeg x2) (-1)) hS (s6_55 hS))
  have hx2 : Xt (pl G A L P) A (pl (sI G (A 6 55) (Int32.toNatClampNeg x2) (-1)) A L P) A := Xt_sI (rfl : sI G (A 6 55) (Int32.toNatClampNeg x2) (-1) = sI G (A 6 55) (Int32.toNatClampNeg x2) (-1)) hx
  refine ⟨fun hc => ?_, fun hc => ?_⟩
  · have h := h.1 hc
    exact wp.mono (h (sI G (A 6 55) (Int32.toNatClampNeg x2) (-1)) A ⟨L, P, rfl, hS2⟩) (fun r G' q => qx_trans hx2 q)
  · have h := h.2 hc
    refine ⟨fun hc => ?_, fun hc => ?_⟩
    · have h := h.1 hc
      exact wp.mono (h (sI G (A 6 55) (Int32.toNatClampNeg x2) (-1)) A ⟨L, P, rfl, hS2⟩) (fun r G' q => qx_trans hx2 q)
    · have h := h.2 hc
      refine wpM.mono (h (sI G (A 6 55) (Int32.toNatClampNeg x2) (-1)) A ⟨L, P, rfl, hS2⟩) (fun rr3 G3 hr => ?_)
      obtain ⟨A3, W3, w3, ⟨L3, P3, rfl, hS3⟩, hy3, rfl, rfl, h⟩ := hr
      refine ⟨rfl, ?_⟩
      have hx3 := Xt.trans hx2 hy3
      have ee4 : A3 6 0 = A 6 0 := hy3.2 _ _ hS2.1.2.1 (((n6_0 hS3)).trans ((n6_0 hS2)).symm)
      try rw [← ee4]
      exact wp.mono (h G3 A3 ⟨L3, P3, rfl, hS3⟩) (fun r G' q => qx_trans hx3 q)
theorem w_X12_trees_96 {E : EE} {d : Nat} {V : VH} {K : VH → Prop} {x1 : Int32} {x2 : Int32} {x3 : Int32}  (h0 : 0 < d) (h : (¬ (vI V 6 0 45) = 0 → K V) ∧ ((vI V 6 0 45) = 0 → vMV E (d - 1) M_X12_next [sl 6 0] V (fun V1 => K V1))) : vwp E d M_X12_trees 96 [some (sl 6 0), some (wi x1), some (wi x2), some (wi x3)] [] V (zv K) := by
  intro G A hR
  obtain ⟨L, P, rfl, hS⟩ := hR
  have hx := Xt.refl (V := pl G A L P) (A := A)
  show wp E d M_X12_trees 96 [some (vr (A 6 0)), some (vi x1), some (vi x2), some (vi x3)] [] G _
  refine v_X12_trees_96 h0 ?_
  refine ⟨hS.o (s6_0 hS), ?_⟩
  refine ⟨fun hc => ?_, fun hc => ?_⟩
  · have h := h.1 hc
    exact qx_v hS hx h
  · have h := h.2 hc
    refine wpM.mono (h G A ⟨L, P, rfl, hS⟩) (fun rr1 G1 hr => ?_)
    obtain ⟨A1, W1, w1, ⟨L1, P1, rfl, hS1⟩, hy1, rfl, rfl, h⟩ := hr
    refine ⟨rfl, ?_⟩
    have hx1 := Xt.trans hx hy1
    have ee2 : A1 6 0 = A 6 0 := hy1.2 _ _ hS.1.2.1 (((n6_0 hS1)).trans ((n6_0 hS)).symm)
    try rw [← ee2]
    exact qx_v hS1 hx1 h
theorem w_X12_searched_0 {E : EE} {d : Nat} {V : VH} {K : Int32 → VH → Prop} {x1 : Int32}  (h : (¬ (vI V 6 0 79) = 0 → (¬ x1 = 0 → (¬ x1 = 1 → (¬ x1 = 2 → K (-1) V) ∧ (x1 = 2 → K (vI V 6 0 78) V)) ∧ (x1 = 1 → K (vI V 6 0 76) V)) ∧ (x1 = 0 → K (vI V 6 0 77) V)) ∧ ((vI V 6 0 79) = 0 → K (-1) V)) : vMI E d M_X12_searched [sl 6 0, wi x1] V K := by
  intro G A hR
  obtain ⟨L, P, rfl, hS⟩ := hR
  have hx := Xt.refl (V := pl G A L P) (A := A)
  show wpM E d M_X12_searched [vr (A 6 0), vi x1] G _
  refine wpM_of mk_X12_searched (Nat.le_of_ble_eq_true rfl) ?_
  refine v_X12_searched_0 ?_
  refine ⟨hS.o (s6_0 hS), ?_⟩
  refine ⟨fun hc => ?_, fun hc => ?_⟩
  · have h := h.1 hc
    refine ⟨fun hc => ?_, fun hc => ?_⟩
    · have h := h.1 hc
      refine ⟨fun hc => ?_, fun hc => ?_⟩
      · have h := h.1 hc
        refine ⟨fun hc => ?_, fun hc => ?_⟩
        · have h := h.1 hc
          exact qx_i hS hx h
        · have h := h.2 hc
          exact qx_i hS hx h
      · have h := h.2 hc
        exact qx_i hS hx h
    · have h := h.2 hc
      exact qx_i hS hx h
  · have h := h.2 hc
    exact qx_i hS hx h
theorem w_X12_search_0 {E : EE} {d : Nat} {V : VH} {K : Int32 → VH → Prop} {x1 : Int32} {x2 : Int32} {x3 : Int32} {x4 : Int32} {x5 : Int32}  (h0 : 0 < d) (h : vMI E (d - 1) M_X12_isProblem [sl 6 0, wi x1] V (fun r1 V1 => (r1 = 0 → K (-1) V1) ∧ (¬ (r1 = 0) → (x5 < 0 → K (-1) V1) ∧ (¬ (x5 < 0) → (2000 < x5 → K (-1) V1) ∧ (¬ (2000 < x5) → (x2 < 0 → K (-1) V1) ∧ (¬ (x2 < 0) → (x2 ≤ 3 → (x2 ≤ 0 → vwp E d M_X12_search 70 [some (sl 6 0), some (wi x1), some (wi x2), some (wi x3), some (wi x4), some (wi x5), none, none, none, none, none, none, none, none, none, none, none, none] [] V1 (zi K)) ∧ (¬ (x2 ≤ 0) → (x3 < 1 → K (-1) V1) ∧ (¬ (x3 < 1) → (¬ x2 = 1 → (¬ x2 = 2 → vwp E d M_X12_search 65 [some (sl 6 0), some (wi x1), some (wi x2), some (wi x3), some (wi x4), some (wi x5), none, none, none, none, none, none, none, none, none, none, none, none] [wi 10000, wi x3] V1 (zi K)) ∧ (x2 = 2 → vwp E d M_X12_search 65 [some (sl 6 0), some (wi x1), some (wi x2), some (wi x3), some (wi x4), some (wi x5), none, none, none, none, none, none, none, none, none, none, none, none] [wi 100, wi x3] V1 (zi K))) ∧ (x2 = 1 → vwp E d M_X12_search 65 [some (sl 6 0), some (wi x1), some (wi x2), some (wi x3), some (wi x4), some (wi x5), none, none, none, none, none, none, none, none, none, none, none, none] [wi 20, wi x3] V1 (zi K))))) ∧ (¬ (x2 ≤ 3) → K (-1) V1))))))) : vMI E d M_X12_search [sl 6 0, wi x1, wi x2, wi x3, wi x4, wi x5] V K := by
  intro G A hR
  obtain ⟨L, P, rfl, hS⟩ := hR
  have hx := Xt.refl (V := pl G A L P) (A := A)
  show wpM E d M_X12_search [vr (A 6 0), vi x1, vi x2, vi x3, vi x4, vi x5] G _
  refine wpM_of mk_X12_search (Nat.le_of_ble_eq_true rfl) ?_
  refine v_X12_search_0 h0 ?_
  refine ⟨hS.o (s6_0 hS), ?_⟩
  refine wpM.mono (h G A ⟨L, P, rfl, hS⟩) (fun rr1 G1 hr => ?_)
  obtain ⟨A1, W1, w1, ⟨L1, P1, rfl, hS1⟩, hy1, rfl, r1, rfl, h⟩ := hr
  refine ⟨r1, rfl, ?_⟩
  have hx1 := Xt.trans hx hy1
  have ee2 : A1 6 0 = A 6 0 := hy1.2 _ _ hS.1.2.1 (((n6_0 hS1)).trans ((n6_0 hS)).symm)
  try rw [← ee2]
  refine ⟨fun hc => ?_, fun hc => ?_⟩
  · have h := h.1 hc
    exact qx_i hS1 hx1 h
  · have h := h.2 hc
    refine ⟨fun hc => ?_, fun hc => ?_⟩
    · have h := h.1 hc
      exact qx_i hS1 hx1 h
    · have h := h.2 hc
      refine ⟨fun hc => ?_, fun hc => ?_⟩
      · have h := h.1 hc
        exact qx_i hS1 hx1 h
      · have h := h.2 hc
        refine ⟨fun hc => ?_, fun hc => ?_⟩
        · have h := h.1 hc
          exact qx_i hS1 hx1 h
        · have h := h.2 hc
          refine ⟨fun hc => ?_, fun hc => ?_⟩
          · have h := h.1 hc
            refine ⟨fun hc => ?_, fun hc => ?_⟩
            · have h := h.1 hc
              exact wp.mono (h G1 A1 ⟨L1, P1, rfl, hS1⟩) (fun r G' q => qx_trans hx1 q)
            · have h := h.2 hc
              refine ⟨fun hc => ?_, fun hc => ?_⟩
              · have h := h.1 hc
                exact qx_i hS1 hx1 h
              · have h := h.2 hc
                refine ⟨fun hc => ?_, fun hc => ?_⟩
                · have h := h.1 hc
                  refine ⟨fun hc => ?_, fun hc => ?_⟩
                  · have h := h.1 hc
                    exact wp.mono (h G1 A1 ⟨L1, P1, rfl, hS1⟩) (fun r G' q => qx_trans hx1 q)
                  · have h := h.2 hc
                    exact wp.mono (h G1 A1 ⟨L1, P1, rfl, hS1⟩) (fun r G' q => qx_trans hx1 q)
                · have h := h.2 hc
                  exact wp.mono (h G1 A1 ⟨L1, P1, rfl, hS1⟩) (fun r G' q => qx_trans hx1 q)
          · have h := h.2 hc
            exact qx_i hS1 hx1 h
theorem w_X12_search_65 {E : EE} {d : Nat} {V : VH} {K : Int32 → VH → Prop} {x1 : Int32} {x2 : Int32} {x3 : Int32} {x4 : Int32} {x5 : Int32} {t0 : Int32} {t1 : Int32}  (h : (t0 ≤ t1 → vwp E d M_X12_search 70 [some (sl 6 0), some (wi x1), some (wi x2), some (wi x3), some (wi x4), some (wi x5), none, none, none, none, none, none, none, none, none, none, none, none] [] V (zi K)) ∧ (¬ (t0 ≤ t1) → K (-1) V)) : vwp E d M_X12_search 65 [some (sl 6 0), some (wi x1), some (wi x2), some (wi x3), some (wi x4), some (wi x5), none, none, none, none, none, none, none, none, none, none, none, none] [wi t1, wi t0] V (zi K) := by
  intro G A hR
  obtain ⟨L, P, rfl, hS⟩ := hR
  have hx := Xt.refl (V := pl G A L P) (A := A)
  show wp E d M_X12_search 65 [some (vr (A 6 0)), some (vi x1), some (vi x2), some (vi x3), some (vi x4), some (vi x5), none, none, none, none, none, none, none, none, none, none, none, none] [vi t1, vi t0] G _
  refine v_X12_search_65 ?_
  refine ⟨fun hc => ?_, fun hc => ?_⟩
  · have h := h.1 hc
    exact wp.mono (h G A ⟨L, P, rfl, hS⟩) (fun r G' q => qx_trans hx q)
  · have h := h.2 hc
    exact qx_i hS hx h
theorem w_X12_search_70 {E : EE} {d : Nat} {V : VH} {K : Int32 → VH → Prop} {x1 : Int32} {x2 : Int32} {x3 : Int32} {x4 : Int32} {x5 : Int32}  (h0 : 0 < d) (h : vMV E (d - 1) M_X12_know [sl 6 0, wi x1] V (fun V1 => ∀ V3 : VH, V3 = wrI V1 6 0 76 x4 → ∀ V4 : VH, V4 = wrI V3 6 0 77 1 → ∀ V5 : VH, V5 = wrI V4 6 0 78 (-1) → ∀ V6 : VH, V6 = wrI V5 6 0 79 1 → vwp E d M_X12_search 102 [some (sl 6 0), some (wi x1), some (wi x2), some (wi x3), some (wi x4), some (wi x5), some (wi 0), some (wi 0), none, none, none, none, none, none, none, none, none, none] [] V6 (zi K))) : vwp E d M_X12_search 70 [some (sl 6 0), some (wi x1), some (wi x2), some (wi x3), some (wi x4), some (wi x5), none, none, none, none, none, none, none, none, none, none, none, none] [] V (zi K) := by
  intro G A hR
  obtain ⟨L, P, rfl, hS⟩ := hR
  have hx := Xt.refl (V := pl G A L P) (A := A)
  show wp E d M_X12_search 70 [some (vr (A 6 0)), some (vi x1), some (vi x2), some (vi x3), some (vi x4), some (vi x5), none, none, none, none, none, none, none, none, none, none, none, none] [] G _
  refine v_X12_search_70 h0 ?_
  refine ⟨hS.o (s6_0 hS), ?_⟩
  refine wpM.mono (h G A ⟨L, P, rfl, hS⟩) (fun rr1 G1 hr => ?_)
  obtain ⟨A1, W1, w1, ⟨L1, P1, rfl, hS1⟩, hy1, rfl, rfl, h⟩ := hr
  refine ⟨rfl, ?_⟩
  have hx1 := Xt.trans hx hy1
  have ee2 : A1 6 0 = A 6 0 := hy1.2 _ _ hS.1.2.1 (((n6_0 hS1)).trans ((n6_0 hS)).symm)
  try rw [← ee2]
  refine ⟨hS1.o (s6_0 hS1), ?_⟩
  intro G3 eG3
  have hS3 : Sh E G3 A1 L1 P1 := Sh_sI eG3 hS1 (s6_0 hS1) (okT_0 rfl)
  have h := h (pl G3 A1 L1 P1) (pl_sI eG3 hS1 (s6_0 hS1))
  have hx3 : Xt (pl G A L P) A (pl G3 A1 L1 P1) A1 := Xt_sI eG3 hx1
  intro G4 eG4
  have hS4 : Sh E G4 A1 L1 P1 := Sh_sI eG4 hS3 (s6_0 hS3) (okT_0 rfl)
  have h := h (pl G4 A1 L1 P1) (pl_sI eG4 hS3 (s6_0 hS3))
  have hx4 : Xt (pl G A L P) A (pl G4 A1 L1 P1) A1 := Xt_sI eG4 hx3
  intro G5 eG5
  have hS5 : Sh E G5 A1 L1 P1 := Sh_sI eG5 hS4 (s6_0 hS4) (okT_0 rfl)
  have h := h (pl G5 A1 L1 P1) (pl_sI eG5 hS4 (s6_0 hS4))
  have hx5 : Xt (pl G A L P) A (pl G5 A1 L1 P1) A1 := Xt_sI eG5 hx4
  intro G6 eG6
  have hS6 : Sh E G6 A1 L1 P1 := Sh_sI eG6 hS5 (s6_0 hS5) (okT_2 rfl (Or.inr rfl))
  have h := h (pl G6 A1 L1 P1) (pl_sI eG6 hS5 (s6_0 hS5))
  have hx6 : Xt (pl G A L P) A (pl G6 A1 L1 P1) A1 := Xt_sI eG6 hx5
  exact wp.mono (h G6 A1 ⟨L1, P1, rfl, hS6⟩) (fun r G' q => qx_trans hx6 q)
theorem w_X12_search_102 {E : EE} {d : Nat} {V : VH} {K : Int32 → VH → Prop} {x1 : Int32} {x2 : Int32} {x3 : Int32} {x4 : Int32} {x5 : Int32} {x6 : Int32} {x7 : Int32}  (h0 : 0 < d) (h : vMI E (d - 1) M_X12_vars [sl 6 0, wi x1] V (fun r1 V1 => (r1 ≤ x7 → (¬ x6 = 0 → vMI E (d - 1) M_X12_handOf [sl 6 0, wi x1] V1 (fun r3 V3 => vwp E d M_X12_search 192 [some (sl 6 0), some (wi x1), some (wi x2), some (wi x3), some (wi x4), some (wi x5), some (wi x6), some (wi r3), some (wi r3), some (wi 0), none, none, none, none, none, none, none, none] [] V3 (zi K))) ∧ (x6 = 0 → K 0 V1)) ∧ (¬ (r1 ≤ x7) → vp_in ((12 * x1) + x7) 60 ∧ ((¬ (vI V1 6 21 (Int32.toNatClampNeg ((12 * x1) + x7))) = 0 → vwp E d M_X12_search 155 [some (sl 6 0), some (wi x1), some (wi x2), some (wi x3), some (wi x4), some (wi x5), some (wi x6), some (wi x7), none, none, none, none, none, none, none, none, none, none] [] V1 (zi K)) ∧ ((vI V1 6 21 (Int32.toNatClampNeg ((12 * x1) + x7))) = 0 → vp_in ((12 * x1) + x7) 60 ∧ (((vI V1 6 16 (Int32.toNatClampNeg ((12 * x1) + x7))) ≤ 1 → vwp E d M_X12_search 155 [some (sl 6 0), some (wi x1), some (wi x2), some (wi x3), some (wi x4), some (wi x5), some (wi x6), some (wi x7), none, none, none, none, none, none, none, none, none, none] [] V1 (zi K)) ∧ (¬ ((vI V1 6 16 (Int32.toNatClampNeg ((12 * x1) + x7))) ≤ 1) → vp_in x6 12 ∧ (∀ V8 : VH, V8 = wrI V1 6 52 (Int32.toNatClampNeg x6) x7 → vwp E d M_X12_search 155 [some (sl 6 0), some (wi x1), some (wi x2), some (wi x3), some (wi x4), some (wi x5), some (wi (x6 + 1)), some (wi x7), none, none, none, none, none, none, none, none, none, none] [] V8 (zi K))))))))) : vwp E d M_X12_search 102 [some (sl 6 0), some (wi x1), some (wi x2), some (wi x3), some (wi x4), some (wi x5), some (wi x6), some (wi x7), none, none, none, none, none, none, none, none, none, none] [] V (zi K) := by
  intro G A hR
  obtain ⟨L, P, rfl, hS⟩ := hR
  have hx := Xt.refl (V := pl G A L P) (A := A)
  show wp E d M_X12_search 102 [some (vr (A 6 0)), some (vi x1), some (vi x2), some (vi x3), some (vi x4), some (vi x5), some (vi x6), some (vi x7), none, none, none, none, none, none, none, none, none, none] [] G _
  refine v_X12_search_102 h0 ?_
  refine ⟨hS.o (s6_0 hS), ?_⟩
  refine wpM.mono (h G A ⟨L, P, rfl, hS⟩) (fun rr1 G1 hr => ?_)
  obtain ⟨A1, W1, w1, ⟨L1, P1, rfl, hS1⟩, hy1, rfl, r1, rfl, h⟩ := hr
  refine ⟨r1, rfl, ?_⟩
  have hx1 := Xt.trans hx hy1
  have ee2 : A1 6 0 = A 6 0 := hy1.2 _ _ hS.1.2.1 (((n6_0 hS1)).trans ((n6_0 hS)).symm)
  try rw [← ee2]
  refine ⟨fun hc => ?_, fun hc => ?_⟩
  · have h := h.1 hc
    refine ⟨fun hc => ?_, fun hc => ?_⟩
    · have h := h.1 hc
      refine ⟨hS1.o (s6_0 hS1), ?_⟩
      refine wpM.mono (h G1 A1 ⟨L1, P1, rfl, hS1⟩) (fun rr3 G3 hr => ?_)
      obtain ⟨A3, W3, w3, ⟨L3, P3, rfl, hS3⟩, hy3, rfl, r3, rfl, h⟩ := hr
      refine ⟨r3, rfl, ?_⟩
      have hx3 := Xt.trans hx1 hy3
      have ee4 : A3 6 0 = A1 6 0 := hy3.2 _ _ hS1.1.2.1 (((n6_0 hS3)).trans ((n6_0 hS1)).symm)
      try rw [← ee4]
      exact wp.mono (h G3 A3 ⟨L3, P3, rfl, hS3⟩) (fun r G' q => qx_trans hx3 q)
    · have h := h.2 hc
      exact qx_i hS1 hx1 h
  · have h := h.2 hc
    refine ⟨hS1.o (s6_0 hS1), ?_⟩
    rw [l6_0_24 hS1]
    refine ⟨hS1.o (s6_21 hS1), ?_⟩
    obtain ⟨hi5, h⟩ := h
    refine ⟨by first | (rw [(n6_21 hS1)]; exact hi5) | exact (congrArg (vp_in _) (n6_21 hS1)).mpr hi5 | exact hi5, ?_⟩
    refine ⟨fun hc => ?_, fun hc => ?_⟩
    · have h := h.1 hc
      exact wp.mono (h G1 A1 ⟨L1, P1, rfl, hS1⟩) (fun r G' q => qx_trans hx1 q)
    · have h := h.2 hc
      rw [l6_0_19 hS1]
      refine ⟨hS1.o (s6_16 hS1), ?_⟩
      obtain ⟨hi6, h⟩ := h
      refine ⟨by first | (rw [(n6_16 hS1)]; exact hi6) | exact (congrArg (vp_in _) (n6_16 hS1)).mpr hi6 | exact hi6, ?_⟩
      refine ⟨fun hc => ?_, fun hc => ?_⟩
      · have h := h.1 hc
        exact wp.mono (h G1 A1 ⟨L1, P1, rfl, hS1⟩) (fun r G' q => qx_trans hx1 q)
      · have h := h.2 hc
        rw [l6_0_80 hS1]
        refine ⟨hS1.o (s6_52 hS1), ?_⟩
        obtain ⟨hi7, h⟩ := h
        refine ⟨by first | (rw [(n6_52 hS1)]; exact hi7) | exact (congrArg (vp_in _) (n6_52 hS1)).mpr hi7 | exact hi7, ?_⟩
        have hS8 : Sh E (sI G1 (A1 6 52) (Int32.toNatClampNeg x6) x7) A1 L1 P1 := Sh_sI (rfl : sI G1 (A1 6 52) (Int32.toNatClampNeg x6) x7 = sI G1 (A1 6 52) (Int32.toNatClampNeg x6) x7) hS1 (s6_52 hS1) (okT_0 rfl)
        have h := h (pl (sI G1 (A1 6 52) (Int32.toNatClampNeg x6) x7) A1 L1 P1) (pl_sI (rfl : sI G1 (A1 6 52) (Int32.toNatClampNeg x6) x7 = sI G1 (A1 6 52) (Int32.toNatClampNeg x6) x7) hS1 (s6_52 hS1))
        have hx8 : Xt (pl G A L P) A (pl (sI G1 (A1 6 52) (Int32.toNatClampNeg x6) x7) A1 L1 P1) A1 := Xt_sI (rfl : sI G1 (A1 6 52) (Int32.toNatClampNeg x6) x7 = sI G1 (A1 6 52) (Int32.toNatClampNeg x6) x7) hx1
        exact wp.mono (h (sI G1 (A1 6 52) (Int32.toNatClampNeg x6) x7) A1 ⟨L1, P1, rfl, hS8⟩) (fun r G' q => qx_trans hx8 q)
theorem w_X12_search_155 {E : EE} {d : Nat} {V : VH} {K : Int32 → VH → Prop} {x1 : Int32} {x2 : Int32} {x3 : Int32} {x4 : Int32} {x5 : Int32} {x6 : Int32} {x7 : Int32}  (h : vp_in x7 12 ∧ (∀ V2 : VH, V2 = wrI V 6 53 (Int32.toNatClampNeg x7) (-1000) → vwp E d M_X12_search 102 [some (sl 6 0), some (wi x1), some (wi x2), some (wi x3), some (wi x4), some (wi x5), some (wi x6), some (wi (x7 + 1)), none, none, none, none, none, none, none, none, none, none] [] V2 (zi K))) : vwp E d M_X12_search 155 [some (sl 6 0), some (wi x1), some (wi x2), some (wi x3), some (wi x4), some (wi x5), some (wi x6), some (wi x7), none, none, none, none, none, none, none, none, none, none] [] V (zi K) := by
  intro G A hR
  obtain ⟨L, P, rfl, hS⟩ := hR
  have hx := Xt.refl (V := pl G A L P) (A := A)
  show wp E d M_X12_search 155 [some (vr (A 6 0)), some (vi x1), some (vi x2), some (vi x3), some (vi x4), some (vi x5), some (vi x6), some (vi x7), none, none, none, none, none, none, none, none, none, none] [] G _
  refine v_X12_search_155 ?_
  refine ⟨hS.o (s6_0 hS), ?_⟩
  rw [l6_0_81 hS]
  refine ⟨hS.o (s6_53 hS), ?_⟩
  obtain ⟨hi1, h⟩ := h
  refine ⟨by first | (rw [(n6_53 hS)]; exact hi1) | exact (congrArg (vp_in _) (n6_53 hS)).mpr hi1 | exact hi1, ?_⟩
  have hS2 : Sh E (sI G (A 6 53) (Int32.toNatClampNeg x7) (-1000)) A L P := Sh_sI (rfl : sI G (A 6 53) (Int32.toNatClampNeg x7) (-1000) = sI G (A 6 53) (Int32.toNatClampNeg x7) (-1000)) hS (s6_53 hS) (okT_0 rfl)
  have h := h (pl (sI G (A 6 53) (Int32.toNatClampNeg x7) (-1000)) A L P) (pl_sI (rfl : sI G (A 6 53) (Int32.toNatClampNeg x7) (-1000) = sI G (A 6 53) (Int32.toNatClampNeg x7) (-1000)) hS (s6_53 hS))
  have hx2 : Xt (pl G A L P) A (pl (sI G (A 6 53) (Int32.toNatClampNeg x7) (-1000)) A L P) A := Xt_sI (rfl : sI G (A 6 53) (Int32.toNatClampNeg x7) (-1000) = sI G (A 6 53) (Int32.toNatClampNeg x7) (-1000)) hx
  exact wp.mono (h (sI G (A 6 53) (Int32.toNatClampNeg x7) (-1000)) A ⟨L, P, rfl, hS2⟩) (fun r G' q => qx_trans hx2 q)
theorem w_X12_search_192 {E : EE} {d : Nat} {V : VH} {K : Int32 → VH → Prop} {x1 : Int32} {x2 : Int32} {x3 : Int32} {x4 : Int32} {x5 : Int32} {x6 : Int32} {x7 : Int32} {x8 : Int32} {x9 : Int32}  (h : (20 ≤ x9 → vwp E d M_X12_search 220 [some (sl 6 0), some (wi x1), some (wi x2), some (wi x3), some (wi x4), some (wi x5), some (wi x6), some (wi x7), some (wi x8), some (wi 0), some (wi 0), none, none, none, none, none, none, none] [] V (zi K)) ∧ (¬ (20 ≤ x9) → vp_in x9 20 ∧ (∀ V2 : VH, V2 = wrI V 6 54 (Int32.toNatClampNeg x9) x7 → vwp E d M_X12_search 192 [some (sl 6 0), some (wi x1), some (wi x2), some (wi x3), some (wi x4), some (wi x5), some (wi x6), some (wi x7), some (wi x8), some (wi (x9 + 1)), none, none, none, none, none, none, none, none] [] V2 (zi K)))) : vwp E d M_X12_search 192 [some (sl 6 0), some (wi x1), some (wi x2), some (wi x3), some (wi x4), some (wi x5), some (wi x6), some (wi x7), some (wi x8), some (wi x9), none, none, none, none, none, none, none, none] [] V (zi K) := by
  intro G A hR
  obtain ⟨L, P, rfl, hS⟩ := hR
  have hx := Xt.refl (V := pl G A L P) (A := A)
  show wp E d M_X12_search 192 [some (vr (A 6 0)), some (vi x1), some (vi x2), some (vi x3), some (vi x4), some (vi x5), some (vi x6), some (vi x7), some (vi x8), some (vi x9), none, none, none, none, none, none, none, none] [] G _
  refine v_X12_search_192 ?_
  refine ⟨fun hc => ?_, fun hc => ?_⟩
  · have h := h.1 hc
    exact wp.mono (h G A ⟨L, P, rfl, hS⟩) (fun r G' q => qx_trans hx q)
  · have h := h.2 hc
    refine ⟨hS.o (s6_0 hS), ?_⟩
    rw [l6_0_82 hS]
    refine ⟨hS.o (s6_54 hS), ?_⟩
    obtain ⟨hi1, h⟩ := h
    refine ⟨by first | (rw [(n6_54 hS)]; exact hi1) | exact (congrArg (vp_in _) (n6_54 hS)).mpr hi1 | exact hi1, ?_⟩
    have hS2 : Sh E (sI G (A 6 54) (Int32.toNatClampNeg x9) x7) A L P := Sh_sI (rfl : sI G (A 6 54) (Int32.toNatClampNeg x9) x7 = sI G (A 6 54) (Int32.toNatClampNeg x9) x7) hS (s6_54 hS) (okT_0 rfl)
    have h := h (pl (sI G (A 6 54) (Int32.toNatClampNeg x9) x7) A L P) (pl_sI (rfl : sI G (A 6 54) (Int32.toNatClampNeg x9) x7 = sI G (A 6 54) (Int32.toNatClampNeg x9) x7) hS (s6_54 hS))
    have hx2 : Xt (pl G A L P) A (pl (sI G (A 6 54) (Int32.toNatClampNeg x9) x7) A L P) A := Xt_sI (rfl : sI G (A 6 54) (Int32.toNatClampNeg x9) x7 = sI G (A 6 54) (Int32.toNatClampNeg x9) x7) hx
    exact wp.mono (h (sI G (A 6 54) (Int32.toNatClampNeg x9) x7) A ⟨L, P, rfl, hS2⟩) (fun r G' q => qx_trans hx2 q)
theorem w_X12_search_220 {E : EE} {d : Nat} {V : VH} {K : Int32 → VH → Prop} {x1 : Int32} {x2 : Int32} {x3 : Int32} {x4 : Int32} {x5 : Int32} {x6 : Int32} {x7 : Int32} {x8 : Int32} {x9 : Int32} {x10 : Int32}  (h0 : 0 < d) (h : (x5 ≤ x10 → vMV E (d - 1) M_X12_putAtHand [sl 6 0, wi x1, wi x8] V (fun V1 => K x9 V1)) ∧ (¬ (x5 ≤ x10) → vMI E (d - 1) M_X12_draw [sl 6 0, wi 4] V (fun r3 V3 => vMI E (d - 1) M_X12_draw [sl 6 0, wi x6] V3 (fun r5 V5 => vp_in r5 12 ∧ ((3 ≤ r3 → vMI E (d - 1) M_X12_draw [sl 6 0, wi x6] V5 (fun r9 V9 => vp_in r9 12 ∧ (vMI E (d - 1) M_X12_valueIn [sl 6 0, wi x1, wi x7, wi (vI V9 6 52 (Int32.toNatClampNeg r9))] V9 (fun r13 V13 => vMI E (d - 1) M_X12_placeOf [sl 6 0, wi x1, wi (vI V5 6 52 (Int32.toNatClampNeg r5)), wi r13] V13 (fun r15 V15 => vMI E (d - 1) M_X12_valueIn [sl 6 0, wi x1, wi x7, wi (vI V5 6 52 (Int32.toNatClampNeg r5))] V15 (fun r17 V17 => vMI E (d - 1) M_X12_placeOf [sl 6 0, wi x1, wi (vI V9 6 52 (Int32.toNatClampNeg r9)), wi r17] V17 (fun r19 V19 => ((vI V5 6 52 (Int32.toNatClampNeg r5)) = (vI V9 6 52 (Int32.toNatClampNeg r9)) → vwp E d M_X12_search 689 [some (sl 6 0), some (wi x1), some (wi x2), some (wi x3), some (wi x4), some (wi x5), some (wi x6), some (wi x7), some (wi x8), some (wi x9), some (wi x10), some (wi r3), some (wi (vI V5 6 52 (Int32.toNatClampNeg r5))), some (wi (vI V9 6 52 (Int32.toNatClampNeg r9))), some (wi x7), some (wi r15), some (wi r19), none] [] V19 (zi K)) ∧ (¬ ((vI V5 6 52 (Int32.toNatClampNeg r5)) = (vI V9 6 52 (Int32.toNatClampNeg r9))) → (r15 < 0 → vwp E d M_X12_search 689 [some (sl 6 0), some (wi x1), some (wi x2), some (wi x3), some (wi x4), some (wi x5), some (wi x6), some (wi x7), some (wi x8), some (wi x9), some (wi x10), some (wi r3), some (wi (vI V5 6 52 (Int32.toNatClampNeg r5))), some (wi (vI V9 6 52 (Int32.toNatClampNeg r9))), some (wi x7), some (wi r15), some (wi r19), none] [] V19 (zi K)) ∧ (¬ (r15 < 0) → (0 ≤ r19 → vMI E (d - 1) M_X12_withPlace [sl 6 0, wi x1, wi x7, wi (vI V5 6 52 (Int32.toNatClampNeg r5)), wi r15] V19 (fun r21 V21 => vMI E (d - 1) M_X12_withPlace [sl 6 0, wi x1, wi r21, wi (vI V9 6 52 (Int32.toNatClampNeg r9)), wi r19] V21 (fun r23 V23 => vwp E d M_X12_search 412 [some (sl 6 0), some (wi x1), some (wi x2), some (wi x3), some (wi x4), some (wi x5), some (wi x6), some (wi x7), some (wi x8), some (wi x9), some (wi x10), some (wi r3), some (wi (vI V5 6 52 (Int32.toNatClampNeg r5))), some (wi (vI V9 6 52 (Int32.toNatClampNeg r9))), some (wi r23), some (wi r15), none, none] [] V23 (zi K)))) ∧ (¬ (0 ≤ r19) → vwp E d M_X12_search 689 [some (sl 6 0), some (wi x1), some (wi x2), some (wi x3), some (wi x4), some (wi x5), some (wi x6), some (wi x7), some (wi x8), some (wi x9), some (wi x10), some (wi r3), some (wi (vI V5 6 52 (Int32.toNatClampNeg r5))), some (wi (vI V9 6 52 (Int32.toNatClampNeg r9))), some (wi x7), some (wi r15), some (wi r19), none] [] V19 (zi K))))))))))) ∧ (¬ (3 ≤ r3) → vp_in ((12 * x1) + (vI V5 6 52 (Int32.toNatClampNeg r5))) 60 ∧ (vMI E (d - 1) M_X12_draw [sl 6 0, wi ((vI V5 6 16 (Int32.toNatClampNeg ((12 * x1) + (vI V5 6 52 (Int32.toNatClampNeg r5))))) - 1)] V5 (fun r26 V26 => vMI E (d - 1) M_X12_place [sl 6 0, wi x1, wi x7, wi (vI V5 6 52 (Int32.toNatClampNeg r5))] V26 (fun r28 V28 => (r26 < r28 → vwp E d M_X12_search 302 [some (sl 6 0), some (wi x1), some (wi x2), some (wi x3), some (wi x4), some (wi x5), some (wi x6), some (wi x7), some (wi x8), some (wi x9), some (wi x10), some (wi r3), some (wi (vI V5 6 52 (Int32.toNatClampNeg r5))), some (wi (vI V5 6 52 (Int32.toNatClampNeg r5))), some (wi x7), some (wi r26), none, none] [wi 0, wi r26] V28 (zi K)) ∧ (¬ (r26 < r28) → vwp E d M_X12_search 302 [some (sl 6 0), some (wi x1), some (wi x2), some (wi x3), some (wi x4), some (wi x5), some (wi x6), some (wi x7), some (wi x8), some (wi x9), some (wi x10), some (wi r3), some (wi (vI V5 6 52 (Int32.toNatClampNeg r5))), some (wi (vI V5 6 52 (Int32.toNatClampNeg r5))), some (wi x7), some (wi r26), none, none] [wi 1, wi r26] V28 (zi K))))))))))) : vwp E d M_X12_search 220 [some (sl 6 0), some (wi x1), some (wi x2), some (wi x3), some (wi x4), some (wi x5), some (wi x6), some (wi x7), some (wi x8), some (wi x9), some (wi x10), none, none, none, none, none, none, none] [] V (zi K) := by
  intro G A hR
  obtain ⟨L, P, rfl, hS⟩ := hR
  have hx := Xt.refl (V := pl G A L P) (A := A)
  show wp E d M_X12_search 220 [some (vr (A 6 0)), some (vi x1), some (vi x2), some (vi x3), some (vi x4), some (vi x5), some (vi x6), some (vi x7), some (vi x8), some (vi x9), some (vi x10), none, none, none, none, none, none, none] [] G _
  refine v_X12_search_220 h0 ?_
  refine ⟨fun hc => ?_, fun hc => ?_⟩
  · have h := h.1 hc
    refine ⟨hS.o (s6_0 hS), ?_⟩
    refine wpM.mono (h G A ⟨L, P, rfl, hS⟩) (fun rr1 G1 hr => ?_)
    obtain ⟨A1, W1, w1, ⟨L1, P1, rfl, hS1⟩, hy1, rfl, rfl, h⟩ := hr
    refine ⟨rfl, ?_⟩
    have hx1 := Xt.trans hx hy1
    have ee2 : A1 6 0 = A 6 0 := hy1.2 _ _ hS.1.2.1 (((n6_0 hS1)).trans ((n6_0 hS)).symm)
    try rw [← ee2]
    exact qx_i hS1 hx1 h
  · have h := h.2 hc
    refine ⟨hS.o (s6_0 hS), ?_⟩
    refine wpM.mono (h G A ⟨L, P, rfl, hS⟩) (fun rr3 G3 hr => ?_)
    obtain ⟨A3, W3, w3, ⟨L3, P3, rfl, hS3⟩, hy3, rfl, r3, rfl, h⟩ := hr
    refine ⟨r3, rfl, ?_⟩
    have hx3 := Xt.trans hx hy3
    have ee4 : A3 6 0 = A 6 0 := hy3.2 _ _ hS.1.2.1 (((n6_0 hS3)).trans ((n6_0 hS)).symm)
    try rw [← ee4]
    refine ⟨hS3.o (s6_0 hS3), ?_⟩
    rw [l6_0_80 hS3]
    refine wpM.mono (h G3 A3 ⟨L3, P3, rfl, hS3⟩) (fun rr5 G5 hr => ?_)
    obtain ⟨A5, W5, w5, ⟨L5, P5, rfl, hS5⟩, hy5, rfl, r5, rfl, h⟩ := hr
    refine ⟨r5, rfl, ?_⟩
    have hx5 := Xt.trans hx3 hy5
    have ee6 : A5 6 0 = A3 6 0 := hy5.2 _ _ hS3.1.2.1 (((n6_0 hS5)).trans ((n6_0 hS3)).symm)
    try rw [← ee6]
    have ee7 : A5 6 52 = A3 6 52 := hy5.2 _ _ hS3.1.2.1 (((n6_52 hS5)).trans ((n6_52 hS3)).symm)
    try rw [← ee7]
    refine ⟨hS5.o (s6_52 hS5), ?_⟩
    obtain ⟨hi8, h⟩ := h
    refine ⟨by first | (rw [(n6_52 hS5)]; exact hi8) | exact (congrArg (vp_in _) (n6_52 hS5)).mpr hi8 | exact hi8, ?_⟩
    refine ⟨fun hc => ?_, fun hc => ?_⟩
    · have h := h.1 hc
      refine ⟨hS5.o (s6_0 hS5), ?_⟩
      rw [l6_0_80 hS5]
      refine wpM.mono (h G5 A5 ⟨L5, P5, rfl, hS5⟩) (fun rr9 G9 hr => ?_)
      obtain ⟨A9, W9, w9, ⟨L9, P9, rfl, hS9⟩, hy9, rfl, r9, rfl, h⟩ := hr
      refine ⟨r9, rfl, ?_⟩
      have hx9 := Xt.trans hx5 hy9
      have ee10 : A9 6 0 = A5 6 0 := hy9.2 _ _ hS5.1.2.1 (((n6_0 hS9)).trans ((n6_0 hS5)).symm)
      try rw [← ee10]
      have ee11 : A9 6 52 = A5 6 52 := hy9.2 _ _ hS5.1.2.1 (((n6_52 hS9)).trans ((n6_52 hS5)).symm)
      try rw [← ee11]
      try rw [show gI G5 (A9 6 52) = gI G5 (A5 6 52) from by rw [ee11]]
      refine ⟨hS9.o (s6_52 hS9), ?_⟩
      obtain ⟨hi12, h⟩ := h
      refine ⟨by first | (rw [(n6_52 hS9)]; exact hi12) | exact (congrArg (vp_in _) (n6_52 hS9)).mpr hi12 | exact hi12, ?_⟩
      refine ⟨hS9.o (s6_0 hS9), ?_⟩
      refine wpM.mono (h G9 A9 ⟨L9, P9, rfl, hS9⟩) (fun rr13 G13 hr => ?_)
      obtain ⟨A13, W13, w13, ⟨L13, P13, rfl, hS13⟩, hy13, rfl, r13, rfl, h⟩ := hr
      refine ⟨r13, rfl, ?_⟩
      have hx13 := Xt.trans hx9 hy13
      have ee14 : A13 6 0 = A9 6 0 := hy13.2 _ _ hS9.1.2.1 (((n6_0 hS13)).trans ((n6_0 hS9)).symm)
      try rw [← ee14]
      refine ⟨hS13.o (s6_0 hS13), ?_⟩
      refine wpM.mono (h G13 A13 ⟨L13, P13, rfl, hS13⟩) (fun rr15 G15 hr => ?_)
      obtain ⟨A15, W15, w15, ⟨L15, P15, rfl, hS15⟩, hy15, rfl, r15, rfl, h⟩ := hr
      refine ⟨r15, rfl, ?_⟩
      have hx15 := Xt.trans hx13 hy15
      have ee16 : A15 6 0 = A13 6 0 := hy15.2 _ _ hS13.1.2.1 (((n6_0 hS15)).trans ((n6_0 hS13)).symm)
      try rw [← ee16]
      refine ⟨hS15.o (s6_0 hS15), ?_⟩
      refine wpM.mono (h G15 A15 ⟨L15, P15, rfl, hS15⟩) (fun rr17 G17 hr => ?_)
      obtain ⟨A17, W17, w17, ⟨L17, P17, rfl, hS17⟩, hy17, rfl, r17, rfl, h⟩ := hr
      refine ⟨r17, rfl, ?_⟩
      have hx17 := Xt.trans hx15 hy17
      have ee18 : A17 6 0 = A15 6 0 := hy17.2 _ _ hS15.1.2.1 (((n6_0 hS17)).trans ((n6_0 hS15)).symm)
      try rw [← ee18]
      refine ⟨hS17.o (s6_0 hS17), ?_⟩
      refine wpM.mono (h G17 A17 ⟨L17, P17, rfl, hS17⟩) (fun rr19 G19 hr => ?_)
      obtain ⟨A19, W19, w19, ⟨L19, P19, rfl, hS19⟩, hy19, rfl, r19, rfl, h⟩ := hr
      refine ⟨r19, rfl, ?_⟩
      have hx19 := Xt.trans hx17 hy19
      have ee20 : A19 6 0 = A17 6 0 := hy19.2 _ _ hS17.1.2.1 (((n6_0 hS19)).trans ((n6_0 hS17)).symm)
      try rw [← ee20]
      refine ⟨fun hc => ?_, fun hc => ?_⟩
      · have h := h.1 hc
        exact wp.mono (h G19 A19 ⟨L19, P19, rfl, hS19⟩) (fun r G' q => qx_trans hx19 q)
      · have h := h.2 hc
        refine ⟨fun hc => ?_, fun hc => ?_⟩
        · have h := h.1 hc
          exact wp.mono (h G19 A19 ⟨L19, P19, rfl, hS19⟩) (fun r G' q => qx_trans hx19 q)
        · have h := h.2 hc
          refine ⟨fun hc => ?_, fun hc => ?_⟩
          · have h := h.1 hc
            refine ⟨hS19.o (s6_0 hS19), ?_⟩
            refine wpM.mono (h G19 A19 ⟨L19, P19, rfl, hS19⟩) (fun rr21 G21 hr => ?_)
            obtain ⟨A21, W21, w21, ⟨L21, P21, rfl, hS21⟩, hy21, rfl, r21, rfl, h⟩ := hr
            refine ⟨r21, rfl, ?_⟩
            have hx21 := Xt.trans hx19 hy21
            have ee22 : A21 6 0 = A19 6 0 := hy21.2 _ _ hS19.1.2.1 (((n6_0 hS21)).trans ((n6_0 hS19)).symm)
            try rw [← ee22]
            refine ⟨hS21.o (s6_0 hS21), ?_⟩
            refine wpM.mono (h G21 A21 ⟨L21, P21, rfl, hS21⟩) (fun rr23 G23 hr => ?_)
            obtain ⟨A23, W23, w23, ⟨L23, P23, rfl, hS23⟩, hy23, rfl, r23, rfl, h⟩ := hr
            refine ⟨r23, rfl, ?_⟩
            have hx23 := Xt.trans hx21 hy23
            have ee24 : A23 6 0 = A21 6 0 := hy23.2 _ _ hS21.1.2.1 (((n6_0 hS23)).trans ((n6_0 hS21)).symm)
            try rw [← ee24]
            exact wp.mono (h G23 A23 ⟨L23, P23, rfl, hS23⟩) (fun r G' q => qx_trans hx23 q)
          · have h := h.2 hc
            exact wp.mono (h G19 A19 ⟨L19, P19, rfl, hS19⟩) (fun r G' q => qx_trans hx19 q)
    · have h := h.2 hc
      refine ⟨hS5.o (s6_0 hS5), ?_⟩
      rw [l6_0_19 hS5]
      refine ⟨hS5.o (s6_16 hS5), ?_⟩
      obtain ⟨hi25, h⟩ := h
      refine ⟨by first | (rw [(n6_16 hS5)]; exact hi25) | exact (congrArg (vp_in _) (n6_16 hS5)).mpr hi25 | exact hi25, ?_⟩
      refine wpM.mono (h G5 A5 ⟨L5, P5, rfl, hS5⟩) (fun rr26 G26 hr => ?_)
      obtain ⟨A26, W26, w26, ⟨L26, P26, rfl, hS26⟩, hy26, rfl, r26, rfl, h⟩ := hr
      refine ⟨r26, rfl, ?_⟩
      have hx26 := Xt.trans hx5 hy26
      have ee27 : A26 6 0 = A5 6 0 := hy26.2 _ _ hS5.1.2.1 (((n6_0 hS26)).trans ((n6_0 hS5)).symm)
      try rw [← ee27]
      refine ⟨hS26.o (s6_0 hS26), ?_⟩
      refine wpM.mono (h G26 A26 ⟨L26, P26, rfl, hS26⟩) (fun rr28 G28 hr => ?_)
      obtain ⟨A28, W28, w28, ⟨L28, P28, rfl, hS28⟩, hy28, rfl, r28, rfl, h⟩ := hr
      refine ⟨r28, rfl, ?_⟩
      have hx28 := Xt.trans hx26 hy28
      have ee29 : A28 6 0 = A26 6 0 := hy28.2 _ _ hS26.1.2.1 (((n6_0 hS28)).trans ((n6_0 hS26)).symm)
      try rw [← ee29]
      refine ⟨fun hc => ?_, fun hc => ?_⟩
      · have h := h.1 hc
        exact wp.mono (h G28 A28 ⟨L28, P28, rfl, hS28⟩) (fun r G' q => qx_trans hx28 q)
      · have h := h.2 hc
        exact wp.mono (h G28 A28 ⟨L28, P28, rfl, hS28⟩) (fun r G' q => qx_trans hx28 q)
theorem w_X12_search_302 {E : EE} {d : Nat} {V : VH} {K : Int32 → VH → Prop} {x1 : Int32} {x2 : Int32} {x3 : Int32} {x4 : Int32} {x5 : Int32} {x6 : Int32} {x7 : Int32} {x8 : Int32} {x9 : Int32} {x10 : Int32} {x11 : Int32} {x12 : Int32} {x13 : Int32} {x14 : Int32} {x15 : Int32} {t0 : Int32} {t1 : Int32}  (h0 : 0 < d) (h : vMI E (d - 1) M_X12_withPlace [sl 6 0, wi x1, wi x7, wi x12, wi (t0 + t1)] V (fun r1 V1 => vwp E d M_X12_search 412 [some (sl 6 0), some (wi x1), some (wi x2), some (wi x3), some (wi x4), some (wi x5), some (wi x6), some (wi x7), some (wi x8), some (wi x9), some (wi x10), some (wi x11), some (wi x12), some (wi x13), some (wi r1), some (wi (t0 + t1)), none, none] [] V1 (zi K))) : vwp E d M_X12_search 302 [some (sl 6 0), some (wi x1), some (wi x2), some (wi x3), some (wi x4), some (wi x5), some (wi x6), some (wi x7), some (wi x8), some (wi x9), some (wi x10), some (wi x11), some (wi x12), some (wi x13), some (wi x14), some (wi x15), none, none] [wi t1, wi t0] V (zi K) := by
  intro G A hR
  obtain ⟨L, P, rfl, hS⟩ := hR
  have hx := Xt.refl (V := pl G A L P) (A := A)
  show wp E d M_X12_search 302 [some (vr (A 6 0)), some (vi x1), some (vi x2), some (vi x3), some (vi x4), some (vi x5), some (vi x6), some (vi x7), some (vi x8), some (vi x9), some (vi x10), some (vi x11), some (vi x12), some (vi x13), some (vi x14), some (vi x15), none, none] [vi t1, vi t0] G _
  refine v_X12_search_302 h0 ?_
  refine ⟨hS.o (s6_0 hS), ?_⟩
  refine wpM.mono (h G A ⟨L, P, rfl, hS⟩) (fun rr1 G1 hr => ?_)
  obtain ⟨A1, W1, w1, ⟨L1, P1, rfl, hS1⟩, hy1, rfl, r1, rfl, h⟩ := hr
  refine ⟨r1, rfl, ?_⟩
  have hx1 := Xt.trans hx hy1
  have ee2 : A1 6 0 = A 6 0 := hy1.2 _ _ hS.1.2.1 (((n6_0 hS1)).trans ((n6_0 hS)).symm)
  try rw [← ee2]
  exact wp.mono (h G1 A1 ⟨L1, P1, rfl, hS1⟩) (fun r G' q => qx_trans hx1 q)
theorem w_X12_search_412 {E : EE} {d : Nat} {V : VH} {K : Int32 → VH → Prop} {x1 : Int32} {x2 : Int32} {x3 : Int32} {x4 : Int32} {x5 : Int32} {x6 : Int32} {x7 : Int32} {x8 : Int32} {x9 : Int32} {x10 : Int32} {x11 : Int32} {x12 : Int32} {x13 : Int32} {x14 : Int32} {x15 : Int32}  (h0 : 0 < d) (h : vMI E (d - 1) M_X12_isBetter [sl 6 0, wi x7, wi x14] V (fun r1 V1 => (¬ r1 = 0 → vwp E d M_X12_search 428 [some (sl 6 0), some (wi x1), some (wi x2), some (wi x3), some (wi x4), some (wi x5), some (wi x6), some (wi x7), some (wi x8), some (wi x9), some (wi x10), some (wi x11), some (wi x12), some (wi x13), some (wi x14), some (wi x15), none, none] [wi 0] V1 (zi K)) ∧ (r1 = 0 → vwp E d M_X12_search 428 [some (sl 6 0), some (wi x1), some (wi x2), some (wi x3), some (wi x4), some (wi x5), some (wi x6), some (wi x7), some (wi x8), some (wi x9), some (wi x10), some (wi x11), some (wi x12), some (wi x13), some (wi x14), some (wi x15), none, none] [wi 1] V1 (zi K)))) : vwp E d M_X12_search 412 [some (sl 6 0), some (wi x1), some (wi x2), some (wi x3), some (wi x4), some (wi x5), some (wi x6), some (wi x7), some (wi x8), some (wi x9), some (wi x10), some (wi x11), some (wi x12), some (wi x13), some (wi x14), some (wi x15), none, none] [] V (zi K) := by
  intro G A hR
  obtain ⟨L, P, rfl, hS⟩ := hR
  have hx := Xt.refl (V := pl G A L P) (A := A)
  show wp E d M_X12_search 412 [some (vr (A 6 0)), some (vi x1), some (vi x2), some (vi x3), some (vi x4), some (vi x5), some (vi x6), some (vi x7), some (vi x8), some (vi x9), some (vi x10), some (vi x11), some (vi x12), some (vi x13), some (vi x14), some (vi x15), none, none] [] G _
  refine v_X12_search_412 h0 ?_
  refine ⟨hS.o (s6_0 hS), ?_⟩
  refine wpM.mono (h G A ⟨L, P, rfl, hS⟩) (fun rr1 G1 hr => ?_)
  obtain ⟨A1, W1, w1, ⟨L1, P1, rfl, hS1⟩, hy1, rfl, r1, rfl, h⟩ := hr
  refine ⟨r1, rfl, ?_⟩
  have hx1 := Xt.trans hx hy1
  have ee2 : A1 6 0 = A 6 0 := hy1.2 _ _ hS.1.2.1 (((n6_0 hS1)).trans ((n6_0 hS)).symm)
  try rw [← ee2]
  refine ⟨fun hc => ?_, fun hc => ?_⟩
  · have h := h.1 hc
    exact wp.mono (h G1 A1 ⟨L1, P1, rfl, hS1⟩) (fun r G' q => qx_trans hx1 q)
  · have h := h.2 hc
    exact wp.mono (h G1 A1 ⟨L1, P1, rfl, hS1⟩) (fun r G' q => qx_trans hx1 q)
theorem w_X12_search_428 {E : EE} {d : Nat} {V : VH} {K : Int32 → VH → Prop} {x1 : Int32} {x2 : Int32} {x3 : Int32} {x4 : Int32} {x5 : Int32} {x6 : Int32} {x7 : Int32} {x8 : Int32} {x9 : Int32} {x10 : Int32} {x11 : Int32} {x12 : Int32} {x13 : Int32} {x14 : Int32} {x15 : Int32} {t0 : Int32}  (h0 : 0 < d) (h : (¬ x2 = 1 → (¬ x2 = 2 → (¬ x2 = 3 → vwp E d M_X12_search 608 [some (sl 6 0), some (wi x1), some (wi x2), some (wi x3), some (wi x4), some (wi x5), some (wi x6), some (wi x7), some (wi x8), some (wi x9), some (wi x10), some (wi x11), some (wi x12), some (wi x13), some (wi x14), some (wi t0), some (wi t0), none] [] V (zi K)) ∧ (x2 = 3 → vMJ E (d - 1) M_X12_worth [sl 6 0, wi x14] V (fun r1 V1 => vMJ E (d - 1) M_X12_worth [sl 6 0, wi x7] V1 (fun r3 V3 => ¬ x5 = 0 ∧ (((Int32.toInt64 (x3 - ((x3 * x10) / x5))) < (r1 - r3) → vwp E d M_X12_search 606 [some (sl 6 0), some (wi x1), some (wi x2), some (wi x3), some (wi x4), some (wi x5), some (wi x6), some (wi x7), some (wi x8), some (wi x9), some (wi x10), some (wi x11), some (wi x12), some (wi x13), some (wi x14), some (wi t0), some (wi t0), none] [wi 0] V3 (zi K)) ∧ (¬ ((Int32.toInt64 (x3 - ((x3 * x10) / x5))) < (r1 - r3)) → vwp E d M_X12_search 606 [some (sl 6 0), some (wi x1), some (wi x2), some (wi x3), some (wi x4), some (wi x5), some (wi x6), some (wi x7), some (wi x8), some (wi x9), some (wi x10), some (wi x11), some (wi x12), some (wi x13), some (wi x14), some (wi t0), some (wi t0), none] [wi 1] V3 (zi K))))))) ∧ (x2 = 2 → vp_in x12 12 ∧ (((x10 - (vI V 6 53 (Int32.toNatClampNeg x12))) ≤ x3 → vwp E d M_X12_search 505 [some (sl 6 0), some (wi x1), some (wi x2), some (wi x3), some (wi x4), some (wi x5), some (wi x6), some (wi x7), some (wi x8), some (wi x9), some (wi x10), some (wi x11), some (wi x12), some (wi x13), some (wi x14), some (wi t0), some (wi t0), none] [] V (zi K)) ∧ (¬ ((x10 - (vI V 6 53 (Int32.toNatClampNeg x12))) ≤ x3) → vp_in x13 12 ∧ ((x3 < (x10 - (vI V 6 53 (Int32.toNatClampNeg x13))) → vwp E d M_X12_search 516 [some (sl 6 0), some (wi x1), some (wi x2), some (wi x3), some (wi x4), some (wi x5), some (wi x6), some (wi x7), some (wi x8), some (wi x9), some (wi x10), some (wi x11), some (wi x12), some (wi x13), some (wi x14), some (wi t0), some (wi t0), none] [] V (zi K)) ∧ (¬ (x3 < (x10 - (vI V 6 53 (Int32.toNatClampNeg x13)))) → vwp E d M_X12_search 505 [some (sl 6 0), some (wi x1), some (wi x2), some (wi x3), some (wi x4), some (wi x5), some (wi x6), some (wi x7), some (wi x8), some (wi x9), some (wi x10), some (wi x11), some (wi x12), some (wi x13), some (wi x14), some (wi t0), some (wi t0), none] [] V (zi K))))))) ∧ (x2 = 1 → (¬ t0 = 0 → vwp E d M_X12_search 462 [some (sl 6 0), some (wi x1), some (wi x2), some (wi x3), some (wi x4), some (wi x5), some (wi x6), some (wi x7), some (wi x8), some (wi x9), some (wi x10), some (wi x11), some (wi x12), some (wi x13), some (wi x14), some (wi t0), some (wi t0), none] [] V (zi K)) ∧ (t0 = 0 → ¬ x3 = 0 ∧ (vp_in (x10 - x10 / x3 * x3) 20 ∧ (vMI E (d - 1) M_X12_isBetter [sl 6 0, wi (vI V 6 54 (Int32.toNatClampNeg (x10 - x10 / x3 * x3))), wi x14] V (fun r10 V10 => (¬ r10 = 0 → vwp E d M_X12_search 467 [some (sl 6 0), some (wi x1), some (wi x2), some (wi x3), some (wi x4), some (wi x5), some (wi x6), some (wi x7), some (wi x8), some (wi x9), some (wi x10), some (wi x11), some (wi x12), some (wi x13), some (wi x14), some (wi t0), some (wi t0), none] [wi 0] V10 (zi K)) ∧ (r10 = 0 → vwp E d M_X12_search 462 [some (sl 6 0), some (wi x1), some (wi x2), some (wi x3), some (wi x4), some (wi x5), some (wi x6), some (wi x7), some (wi x8), some (wi x9), some (wi x10), some (wi x11), some (wi x12), some (wi x13), some (wi x14), some (wi t0), some (wi t0), none] [] V10 (zi K)))))))) : vwp E d M_X12_search 428 [some (sl 6 0), some (wi x1), some (wi x2), some (wi x3), some (wi x4), some (wi x5), some (wi x6), some (wi x7), some (wi x8), some (wi x9), some (wi x10), some (wi x11), some (wi x12), some (wi x13), some (wi x14), some (wi x15), none, none] [wi t0] V (zi K) := by
  intro G A hR
  obtain ⟨L, P, rfl, hS⟩ := hR
  have hx := Xt.refl (V := pl G A L P) (A := A)
  show wp E d M_X12_search 428 [some (vr (A 6 0)), some (vi x1), some (vi x2), some (vi x3), some (vi x4), some (vi x5), some (vi x6), some (vi x7), some (vi x8), some (vi x9), some (vi x10), some (vi x11), some (vi x12), some (vi x13), some (vi x14), some (vi x15), none, none] [vi t0] G _
  refine v_X12_search_428 h0 ?_
  refine ⟨fun hc => ?_, fun hc => ?_⟩
  · have h := h.1 hc
    refine ⟨fun hc => ?_, fun hc => ?_⟩
    · have h := h.1 hc
      refine ⟨fun hc => ?_, fun hc => ?_⟩
      · have h := h.1 hc
        exact wp.mono (h G A ⟨L, P, rfl, hS⟩) (fun r G' q => qx_trans hx q)
      · have h := h.2 hc
        refine ⟨hS.o (s6_0 hS), ?_⟩
        refine wpM.mono (h G A ⟨L, P, rfl, hS⟩) (fun rr1 G1 hr => ?_)
        obtain ⟨A1, W1, w1, ⟨L1, P1, rfl, hS1⟩, hy1, rfl, r1, rfl, h⟩ := hr
        refine ⟨r1, rfl, ?_⟩
        have hx1 := Xt.trans hx hy1
        have ee2 : A1 6 0 = A 6 0 := hy1.2 _ _ hS.1.2.1 (((n6_0 hS1)).trans ((n6_0 hS)).symm)
        try rw [← ee2]
        refine ⟨hS1.o (s6_0 hS1), ?_⟩
        refine wpM.mono (h G1 A1 ⟨L1, P1, rfl, hS1⟩) (fun rr3 G3 hr => ?_)
        obtain ⟨A3, W3, w3, ⟨L3, P3, rfl, hS3⟩, hy3, rfl, r3, rfl, h⟩ := hr
        refine ⟨r3, rfl, ?_⟩
        have hx3 := Xt.trans hx1 hy3
        have ee4 : A3 6 0 = A1 6 0 := hy3.2 _ _ hS1.1.2.1 (((n6_0 hS3)).trans ((n6_0 hS1)).symm)
        try rw [← ee4]
        obtain ⟨hz5, h⟩ := h
        refine ⟨hz5, ?_⟩
        refine ⟨fun hc => ?_, fun hc => ?_⟩
        · have h := h.1 hc
          exact wp.mono (h G3 A3 ⟨L3, P3, rfl, hS3⟩) (fun r G' q => qx_trans hx3 q)
        · have h := h.2 hc
          exact wp.mono (h G3 A3 ⟨L3, P3, rfl, hS3⟩) (fun r G' q => qx_trans hx3 q)
    · have h := h.2 hc
      refine ⟨hS.o (s6_0 hS), ?_⟩
      rw [l6_0_81 hS]
      refine ⟨hS.o (s6_53 hS), ?_⟩
      obtain ⟨hi6, h⟩ := h
      refine ⟨by first | (rw [(n6_53 hS)]; exact hi6) | exact (congrArg (vp_in _) (n6_53 hS)).mpr hi6 | exact hi6, ?_⟩
      refine ⟨fun hc => ?_, fun hc => ?_⟩
      · have h := h.1 hc
        exact wp.mono (h G A ⟨L, P, rfl, hS⟩) (fun r G' q => qx_trans hx q)
      · have h := h.2 hc
        obtain ⟨hi7, h⟩ := h
        refine ⟨by first | (rw [(n6_53 hS)]; exact hi7) | exact (congrArg (vp_in _) (n6_53 hS)).mpr hi7 | exact hi7, ?_⟩
        refine ⟨fun hc => ?_, fun hc => ?_⟩
        · have h := h.1 hc
          exact wp.mono (h G A ⟨L, P, rfl, hS⟩) (fun r G' q => qx_trans hx q)
        · have h := h.2 hc
          exact wp.mono (h G A ⟨L, P, rfl, hS⟩) (fun r G' q => qx_trans hx q)
  · have h := h.2 hc
    refine ⟨fun hc => ?_, fun hc => ?_⟩
    · have h := h.1 hc
      exact wp.mono (h G A ⟨L, P, rfl, hS⟩) (fun r G' q => qx_trans hx q)
    · have h := h.2 hc
      refine ⟨hS.o (s6_0 hS), ?_⟩
      rw [l6_0_82 hS]
      obtain ⟨hz8, h⟩ := h
      refine ⟨hz8, ?_⟩
      refine ⟨hS.o (s6_54 hS), ?_⟩
      obtain ⟨hi9, h⟩ := h
      refine ⟨by first | (rw [(n6_54 hS)]; exact hi9) | exact (congrArg (vp_in _) (n6_54 hS)).mpr hi9 | exact hi9, ?_⟩
      refine wpM.mono (h G A ⟨L, P, rfl, hS⟩) (fun rr10 G10 hr => ?_)
      obtain ⟨A10, W10, w10, ⟨L10, P10, rfl, hS10⟩, hy10, rfl, r10, rfl, h⟩ := hr
      refine ⟨r10, rfl, ?_⟩
      have hx10 := Xt.trans hx hy10
      have ee11 : A10 6 0 = A 6 0 := hy10.2 _ _ hS.1.2.1 (((n6_0 hS10)).trans ((n6_0 hS)).symm)
      try rw [← ee11]
      refine ⟨fun hc => ?_, fun hc => ?_⟩
      · have h := h.1 hc
        exact wp.mono (h G10 A10 ⟨L10, P10, rfl, hS10⟩) (fun r G' q => qx_trans hx10 q)
      · have h := h.2 hc
        exact wp.mono (h G10 A10 ⟨L10, P10, rfl, hS10⟩) (fun r G' q => qx_trans hx10 q)
theorem w_X12_search_462 {E : EE} {d : Nat} {V : VH} {K : Int32 → VH → Prop} {x1 : Int32} {x2 : Int32} {x3 : Int32} {x4 : Int32} {x5 : Int32} {x6 : Int32} {x7 : Int32} {x8 : Int32} {x9 : Int32} {x10 : Int32} {x11 : Int32} {x12 : Int32} {x13 : Int32} {x14 : Int32} {x15 : Int32} {x16 : Int32}  (h : vwp E d M_X12_search 467 [some (sl 6 0), some (wi x1), some (wi x2), some (wi x3), some (wi x4), some (wi x5), some (wi x6), some (wi x7), some (wi x8), some (wi x9), some (wi x10), some (wi x11), some (wi x12), some (wi x13), some (wi x14), some (wi x15), some (wi x16), none] [wi 1] V (zi K)) : vwp E d M_X12_search 462 [some (sl 6 0), some (wi x1), some (wi x2), some (wi x3), some (wi x4), some (wi x5), some (wi x6), some (wi x7), some (wi x8), some (wi x9), some (wi x10), some (wi x11), some (wi x12), some (wi x13), some (wi x14), some (wi x15), some (wi x16), none] [] V (zi K) := by
  intro G A hR
  obtain ⟨L, P, rfl, hS⟩ := hR
  have hx := Xt.refl (V := pl G A L P) (A := A)
  show wp E d M_X12_search 462 [some (vr (A 6 0)), some (vi x1), some (vi x2), some (vi x3), some (vi x4), some (vi x5), some (vi x6), some (vi x7), some (vi x8), some (vi x9), some (vi x10), some (vi x11), some (vi x12), some (vi x13), some (vi x14), some (vi x15), some (vi x16), none] [] G _
  refine v_X12_search_462 ?_
  exact wp.mono (h G A ⟨L, P, rfl, hS⟩) (fun r G' q => qx_trans hx q)
theorem w_X12_search_467 {E : EE} {d : Nat} {V : VH} {K : Int32 → VH → Prop} {x1 : Int32} {x2 : Int32} {x3 : Int32} {x4 : Int32} {x5 : Int32} {x6 : Int32} {x7 : Int32} {x8 : Int32} {x9 : Int32} {x10 : Int32} {x11 : Int32} {x12 : Int32} {x13 : Int32} {x14 : Int32} {x15 : Int32} {x16 : Int32} {t0 : Int32}  (h : vwp E d M_X12_search 608 [some (sl 6 0), some (wi x1), some (wi x2), some (wi x3), some (wi x4), some (wi x5), some (wi x6), some (wi x7), some (wi x8), some (wi x9), some (wi x10), some (wi x11), some (wi x12), some (wi x13), some (wi x14), some (wi x15), some (wi t0), none] [] V (zi K)) : vwp E d M_X12_search 467 [some (sl 6 0), some (wi x1), some (wi x2), some (wi x3), some (wi x4), some (wi x5), some (wi x6), some (wi x7), some (wi x8), some (wi x9), some (wi x10), some (wi x11), some (wi x12), some (wi x13), some (wi x14), some (wi x15), some (wi x16), none] [wi t0] V (zi K) := by
  intro G A hR
  obtain ⟨L, P, rfl, hS⟩ := hR
  have hx := Xt.refl (V := pl G A L P) (A := A)
  show wp E d M_X12_search 467 [some (vr (A 6 0)), some (vi x1), some (vi x2), some (vi x3), some (vi x4), some (vi x5), some (vi x6), some (vi x7), some (vi x8), some (vi x9), some (vi x10), some (vi x11), some (vi x12), some (vi x13), some (vi x14), some (vi x15), some (vi x16), none] [vi t0] G _
  refine v_X12_search_467 ?_
  exact wp.mono (h G A ⟨L, P, rfl, hS⟩) (fun r G' q => qx_trans hx q)
theorem w_X12_search_505 {E : EE} {d : Nat} {V : VH} {K : Int32 → VH → Prop} {x1 : Int32} {x2 : Int32} {x3 : Int32} {x4 : Int32} {x5 : Int32} {x6 : Int32} {x7 : Int32} {x8 : Int32} {x9 : Int32} {x10 : Int32} {x11 : Int32} {x12 : Int32} {x13 : Int32} {x14 : Int32} {x15 : Int32} {x16 : Int32}  (h0 : 0 < d) (h : vMI E (d - 1) M_X12_isBetter [sl 6 0, wi x14, wi x8] V (fun r1 V1 => (r1 = 0 → vwp E d M_X12_search 521 [some (sl 6 0), some (wi x1), some (wi x2), some (wi x3), some (wi x4), some (wi x5), some (wi x6), some (wi x7), some (wi x8), some (wi x9), some (wi x10), some (wi x11), some (wi x12), some (wi x13), some (wi x14), some (wi x15), some (wi x16), none] [wi 0] V1 (zi K)) ∧ (¬ (r1 = 0) → vwp E d M_X12_search 516 [some (sl 6 0), some (wi x1), some (wi x2), some (wi x3), some (wi x4), some (wi x5), some (wi x6), some (wi x7), some (wi x8), some (wi x9), some (wi x10), some (wi x11), some (wi x12), some (wi x13), some (wi x14), some (wi x15), some (wi x16), none] [] V1 (zi K)))) : vwp E d M_X12_search 505 [some (sl 6 0), some (wi x1), some (wi x2), some (wi x3), some (wi x4), some (wi x5), some (wi x6), some (wi x7), some (wi x8), some (wi x9), some (wi x10), some (wi x11), some (wi x12), some (wi x13), some (wi x14), some (wi x15), some (wi x16), none] [] V (zi K) := by
  intro G A hR
  obtain ⟨L, P, rfl, hS⟩ := hR
  have hx := Xt.refl (V := pl G A L P) (A := A)
  show wp E d M_X12_search 505 [some (vr (A 6 0)), some (vi x1), some (vi x2), some (vi x3), some (vi x4), some (vi x5), some (vi x6), some (vi x7), some (vi x8), some (vi x9), some (vi x10), some (vi x11), some (vi x12), some (vi x13), some (vi x14), some (vi x15), some (vi x16), none] [] G _
  refine v_X12_search_505 h0 ?_
  refine ⟨hS.o (s6_0 hS), ?_⟩
  refine wpM.mono (h G A ⟨L, P, rfl, hS⟩) (fun rr1 G1 hr => ?_)
  obtain ⟨A1, W1, w1, ⟨L1, P1, rfl, hS1⟩, hy1, rfl, r1, rfl, h⟩ := hr
  refine ⟨r1, rfl, ?_⟩
  have hx1 := Xt.trans hx hy1
  have ee2 : A1 6 0 = A 6 0 := hy1.2 _ _ hS.1.2.1 (((n6_0 hS1)).trans ((n6_0 hS)).symm)
  try rw [← ee2]
  refine ⟨fun hc => ?_, fun hc => ?_⟩
  · have h := h.1 hc
    exact wp.mono (h G1 A1 ⟨L1, P1, rfl, hS1⟩) (fun r G' q => qx_trans hx1 q)
  · have h := h.2 hc
    exact wp.mono (h G1 A1 ⟨L1, P1, rfl, hS1⟩) (fun r G' q => qx_trans hx1 q)
theorem w_X12_search_516 {E : EE} {d : Nat} {V : VH} {K : Int32 → VH → Prop} {x1 : Int32} {x2 : Int32} {x3 : Int32} {x4 : Int32} {x5 : Int32} {x6 : Int32} {x7 : Int32} {x8 : Int32} {x9 : Int32} {x10 : Int32} {x11 : Int32} {x12 : Int32} {x13 : Int32} {x14 : Int32} {x15 : Int32} {x16 : Int32}  (h : vwp E d M_X12_search 521 [some (sl 6 0), some (wi x1), some (wi x2), some (wi x3), some (wi x4), some (wi x5), some (wi x6), some (wi x7), some (wi x8), some (wi x9), some (wi x10), some (wi x11), some (wi x12), some (wi x13), some (wi x14), some (wi x15), some (wi x16), none] [wi 1] V (zi K)) : vwp E d M_X12_search 516 [some (sl 6 0), some (wi x1), some (wi x2), some (wi x3), some (wi x4), some (wi x5), some (wi x6), some (wi x7), some (wi x8), some (wi x9), some (wi x10), some (wi x11), some (wi x12), some (wi x13), some (wi x14), some (wi x15), some (wi x16), none] [] V (zi K) := by
  intro G A hR
  obtain ⟨L, P, rfl, hS⟩ := hR
  have hx := Xt.refl (V := pl G A L P) (A := A)
  show wp E d M_X12_search 516 [some (vr (A 6 0)), some (vi x1), some (vi x2), some (vi x3), some (vi x4), some (vi x5), some (vi x6), some (vi x7), some (vi x8), some (vi x9), some (vi x10), some (vi x11), some (vi x12), some (vi x13), some (vi x14), some (vi x15), some (vi x16), none] [] G _
  refine v_X12_search_516 ?_
  exact wp.mono (h G A ⟨L, P, rfl, hS⟩) (fun r G' q => qx_trans hx q)
theorem w_X12_search_521 {E : EE} {d : Nat} {V : VH} {K : Int32 → VH → Prop} {x1 : Int32} {x2 : Int32} {x3 : Int32} {x4 : Int32} {x5 : Int32} {x6 : Int32} {x7 : Int32} {x8 : Int32} {x9 : Int32} {x10 : Int32} {x11 : Int32} {x12 : Int32} {x13 : Int32} {x14 : Int32} {x15 : Int32} {x16 : Int32} {t0 : Int32}  (h : (t0 = 0 → vwp E d M_X12_search 537 [some (sl 6 0), some (wi x1), some (wi x2), some (wi x3), some (wi x4), some (wi x5), some (wi x6), some (wi x7), some (wi x8), some (wi x9), some (wi x10), some (wi x11), some (wi x12), some (wi x13), some (wi x14), some (wi x15), some (wi x16), some (wi t0)] [] V (zi K)) ∧ (¬ (t0 = 0) → (x15 = 0 → vwp E d M_X12_search 537 [some (sl 6 0), some (wi x1), some (wi x2), some (wi x3), some (wi x4), some (wi x5), some (wi x6), some (wi x7), some (wi x8), some (wi x9), some (wi x10), some (wi x11), some (wi x12), some (wi x13), some (wi x14), some (wi x15), some (wi x16), some (wi t0)] [] V (zi K)) ∧ (¬ (x15 = 0) → vwp E d M_X12_search 538 [some (sl 6 0), some (wi x1), some (wi x2), some (wi x3), some (wi x4), some (wi x5), some (wi x6), some (wi x7), some (wi x8), some (wi x9), some (wi x10), some (wi x11), some (wi x12), some (wi x13), some (wi x14), some (wi x15), some (wi x16), some (wi t0)] [wi 1] V (zi K)))) : vwp E d M_X12_search 521 [some (sl 6 0), some (wi x1), some (wi x2), some (wi x3), some (wi x4), some (wi x5), some (wi x6), some (wi x7), some (wi x8), some (wi x9), some (wi x10), some (wi x11), some (wi x12), some (wi x13), some (wi x14), some (wi x15), some (wi x16), none] [wi t0] V (zi K) := by
  intro G A hR
  obtain ⟨L, P, rfl, hS⟩ := hR
  have hx := Xt.refl (V := pl G A L P) (A := A)
  show wp E d M_X12_search 521 [some (vr (A 6 0)), some (vi x1), some (vi x2), some (vi x3), some (vi x4), some (vi x5), some (vi x6), some (vi x7), some (vi x8), some (vi x9), some (vi x10), some (vi x11), some (vi x12), some (vi x13), some (vi x14), some (vi x15), some (vi x16), none] [vi t0] G _
  refine v_X12_search_521 ?_
  refine ⟨fun hc => ?_, fun hc => ?_⟩
  · have h := h.1 hc
    exact wp.mono (h G A ⟨L, P, rfl, hS⟩) (fun r G' q => qx_trans hx q)
  · have h := h.2 hc
    refine ⟨fun hc => ?_, fun hc => ?_⟩
    · have h := h.1 hc
      exact wp.mono (h G A ⟨L, P, rfl, hS⟩) (fun r G' q => qx_trans hx q)
    · have h := h.2 hc
      exact wp.mono (h G A ⟨L, P, rfl, hS⟩) (fun r G' q => qx_trans hx q)
theorem w_X12_search_537 {E : EE} {d : Nat} {V : VH} {K : Int32 → VH → Prop} {x1 : Int32} {x2 : Int32} {x3 : Int32} {x4 : Int32} {x5 : Int32} {x6 : Int32} {x7 : Int32} {x8 : Int32} {x9 : Int32} {x10 : Int32} {x11 : Int32} {x12 : Int32} {x13 : Int32} {x14 : Int32} {x15 : Int32} {x16 : Int32} {x17 : Int32}  (h : vwp E d M_X12_search 538 [some (sl 6 0), some (wi x1), some (wi x2), some (wi x3), some (wi x4), some (wi x5), some (wi x6), some (wi x7), some (wi x8), some (wi x9), some (wi x10), some (wi x11), some (wi x12), some (wi x13), some (wi x14), some (wi x15), some (wi x16), some (wi x17)] [wi 0] V (zi K)) : vwp E d M_X12_search 537 [some (sl 6 0), some (wi x1), some (wi x2), some (wi x3), some (wi x4), some (wi x5), some (wi x6), some (wi x7), some (wi x8), some (wi x9), some (wi x10), some (wi x11), some (wi x12), some (wi x13), some (wi x14), some (wi x15), some (wi x16), some (wi x17)] [] V (zi K) := by
  intro G A hR
  obtain ⟨L, P, rfl, hS⟩ := hR
  have hx := Xt.refl (V := pl G A L P) (A := A)
  show wp E d M_X12_search 537 [some (vr (A 6 0)), some (vi x1), some (vi x2), some (vi x3), some (vi x4), some (vi x5), some (vi x6), some (vi x7), some (vi x8), some (vi x9), some (vi x10), some (vi x11), some (vi x12), some (vi x13), some (vi x14), some (vi x15), some (vi x16), some (vi x17)] [] G _
  refine v_X12_search_537 ?_
  exact wp.mono (h G A ⟨L, P, rfl, hS⟩) (fun r G' q => qx_trans hx q)
theorem w_X12_search_538 {E : EE} {d : Nat} {V : VH} {K : Int32 → VH → Prop} {x1 : Int32} {x2 : Int32} {x3 : Int32} {x4 : Int32} {x5 : Int32} {x6 : Int32} {x7 : Int32} {x8 : Int32} {x9 : Int32} {x10 : Int32} {x11 : Int32} {x12 : Int32} {x13 : Int32} {x14 : Int32} {x15 : Int32} {x16 : Int32} {x17 : Int32} {t0 : Int32}  (h0 : 0 < d) (h : (x17 = 0 → vwp E d M_X12_search 566 [some (sl 6 0), some (wi x1), some (wi x2), some (wi x3), some (wi x4), some (wi x5), some (wi x6), some (wi x7), some (wi x8), some (wi x9), some (wi x10), some (wi x11), some (wi x12), some (wi x13), some (wi x14), some (wi x15), some (wi t0), some (wi x17)] [] V (zi K)) ∧ (¬ (x17 = 0) → (¬ x15 = 0 → vwp E d M_X12_search 566 [some (sl 6 0), some (wi x1), some (wi x2), some (wi x3), some (wi x4), some (wi x5), some (wi x6), some (wi x7), some (wi x8), some (wi x9), some (wi x10), some (wi x11), some (wi x12), some (wi x13), some (wi x14), some (wi x15), some (wi t0), some (wi x17)] [] V (zi K)) ∧ (x15 = 0 → vMI E (d - 1) M_X12_draw [sl 6 0, wi 8] V (fun r1 V1 => (¬ r1 = 0 → vwp E d M_X12_search 564 [some (sl 6 0), some (wi x1), some (wi x2), some (wi x3), some (wi x4), some (wi x5), some (wi x6), some (wi x7), some (wi x8), some (wi x9), some (wi x10), some (wi x11), some (wi x12), some (wi x13), some (wi x14), some (wi x15), some (wi t0), some (wi x17)] [wi 0] V1 (zi K)) ∧ (r1 = 0 → vwp E d M_X12_search 564 [some (sl 6 0), some (wi x1), some (wi x2), some (wi x3), some (wi x4), some (wi x5), some (wi x6), some (wi x7), some (wi x8), some (wi x9), some (wi x10), some (wi x11), some (wi x12), some (wi x13), some (wi x14), some (wi x15), some (wi t0), some (wi x17)] [wi 1] V1 (zi K)))))) : vwp E d M_X12_search 538 [some (sl 6 0), some (wi x1), some (wi x2), some (wi x3), some (wi x4), some (wi x5), some (wi x6), some (wi x7), some (wi x8), some (wi x9), some (wi x10), some (wi x11), some (wi x12), some (wi x13), some (wi x14), some (wi x15), some (wi x16), some (wi x17)] [wi t0] V (zi K) := by
  intro G A hR
  obtain ⟨L, P, rfl, hS⟩ := hR
  have hx := Xt.refl (V := pl G A L P) (A := A)
  show wp E d M_X12_search 538 [some (vr (A 6 0)), some (vi x1), some (vi x2), some (vi x3), some (vi x4), some (vi x5), some (vi x6), some (vi x7), some (vi x8), some (vi x9), some (vi x10), some (vi x11), some (vi x12), some (vi x13), some (vi x14), some (vi x15), some (vi x16), some (vi x17)] [vi t0] G _
  refine v_X12_search_538 h0 ?_
  refine ⟨fun hc => ?_, fun hc => ?_⟩
  · have h := h.1 hc
    exact wp.mono (h G A ⟨L, P, rfl, hS⟩) (fun r G' q => qx_trans hx q)
  · have h := h.2 hc
    refine ⟨fun hc => ?_, fun hc => ?_⟩
    · have h := h.1 hc
      exact wp.mono (h G A ⟨L, P, rfl, hS⟩) (fun r G' q => qx_trans hx q)
    · have h := h.2 hc
      refine ⟨hS.o (s6_0 hS), ?_⟩
      refine wpM.mono (h G A ⟨L, P, rfl, hS⟩) (fun rr1 G1 hr => ?_)
      obtain ⟨A1, W1, w1, ⟨L1, P1, rfl, hS1⟩, hy1, rfl, r1, rfl, h⟩ := hr
      refine ⟨r1, rfl, ?_⟩
      have hx1 := Xt.trans hx hy1
      have ee2 : A1 6 0 = A 6 0 := hy1.2 _ _ hS.1.2.1 (((n6_0 hS1)).trans ((n6_0 hS)).symm)
      try rw [← ee2]
      refine ⟨fun hc => ?_, fun hc => ?_⟩
      · have h := h.1 hc
        exact wp.mono (h G1 A1 ⟨L1, P1, rfl, hS1⟩) (fun r G' q => qx_trans hx1 q)
      · have h := h.2 hc
        exact wp.mono (h G1 A1 ⟨L1, P1, rfl, hS1⟩) (fun r G' q => qx_trans hx1 q)
theorem w_X12_search_564 {E : EE} {d : Nat} {V : VH} {K : Int32 → VH → Prop} {x1 : Int32} {x2 : Int32} {x3 : Int32} {x4 : Int32} {x5 : Int32} {x6 : Int32} {x7 : Int32} {x8 : Int32} {x9 : Int32} {x10 : Int32} {x11 : Int32} {x12 : Int32} {x13 : Int32} {x14 : Int32} {x15 : Int32} {x16 : Int32} {x17 : Int32} {t0 : Int32}  (h : vwp E d M_X12_search 566 [some (sl 6 0), some (wi x1), some (wi x2), some (wi x3), some (wi x4), some (wi x5), some (wi x6), some (wi x7), some (wi x8), some (wi x9), some (wi x10), some (wi x11), some (wi x12), some (wi x13), some (wi x14), some (wi x15), some (wi t0), some (wi x17)] [] V (zi K)) : vwp E d M_X12_search 564 [some (sl 6 0), some (wi x1), some (wi x2), some (wi x3), some (wi x4), some (wi x5), some (wi x6), some (wi x7), some (wi x8), some (wi x9), some (wi x10), some (wi x11), some (wi x12), some (wi x13), some (wi x14), some (wi x15), some (wi x16), some (wi x17)] [wi t0] V (zi K) := by
  intro G A hR
  obtain ⟨L, P, rfl, hS⟩ := hR
  have hx := Xt.refl (V := pl G A L P) (A := A)
  show wp E d M_X12_search 564 [some (vr (A 6 0)), some (vi x1), some (vi x2), some (vi x3), some (vi x4), some (vi x5), some (vi x6), some (vi x7), some (vi x8), some (vi x9), some (vi x10), some (vi x11), some (vi x12), some (vi x13), some (vi x14), some (vi x15), some (vi x16), some (vi x17)] [vi t0] G _
  refine v_X12_search_564 ?_
  exact wp.mono (h G A ⟨L, P, rfl, hS⟩) (fun r G' q => qx_trans hx q)
theorem w_X12_search_566 {E : EE} {d : Nat} {V : VH} {K : Int32 → VH → Prop} {x1 : Int32} {x2 : Int32} {x3 : Int32} {x4 : Int32} {x5 : Int32} {x6 : Int32} {x7 : Int32} {x8 : Int32} {x9 : Int32} {x10 : Int32} {x11 : Int32} {x12 : Int32} {x13 : Int32} {x14 : Int32} {x15 : Int32} {x16 : Int32} {x17 : Int32}  (h : vwp E d M_X12_search 608 [some (sl 6 0), some (wi x1), some (wi x2), some (wi x3), some (wi x4), some (wi x5), some (wi x6), some (wi x7), some (wi x8), some (wi x9), some (wi x10), some (wi x11), some (wi x12), some (wi x13), some (wi x14), some (wi x15), some (wi x16), none] [] V (zi K)) : vwp E d M_X12_search 566 [some (sl 6 0), some (wi x1), some (wi x2), some (wi x3), some (wi x4), some (wi x5), some (wi x6), some (wi x7), some (wi x8), some (wi x9), some (wi x10), some (wi x11), some (wi x12), some (wi x13), some (wi x14), some (wi x15), some (wi x16), some (wi x17)] [] V (zi K) := by
  intro G A hR
  obtain ⟨L, P, rfl, hS⟩ := hR
  have hx := Xt.refl (V := pl G A L P) (A := A)
  show wp E d M_X12_search 566 [some (vr (A 6 0)), some (vi x1), some (vi x2), some (vi x3), some (vi x4), some (vi x5), some (vi x6), some (vi x7), some (vi x8), some (vi x9), some (vi x10), some (vi x11), some (vi x12), some (vi x13), some (vi x14), some (vi x15), some (vi x16), some (vi x17)] [] G _
  refine v_X12_search_566 ?_
  exact wp.mono (h G A ⟨L, P, rfl, hS⟩) (fun r G' q => qx_trans hx q)
theorem w_X12_search_606 {E : EE} {d : Nat} {V : VH} {K : Int32 → VH → Prop} {x1 : Int32} {x2 : Int32} {x3 : Int32} {x4 : Int32} {x5 : Int32} {x6 : Int32} {x7 : Int32} {x8 : Int32} {x9 : Int32} {x10 : Int32} {x11 : Int32} {x12 : Int32} {x13 : Int32} {x14 : Int32} {x15 : Int32} {x16 : Int32} {t0 : Int32}  (h : vwp E d M_X12_search 608 [some (sl 6 0), some (wi x1), some (wi x2), some (wi x3), some (wi x4), some (wi x5), some (wi x6), some (wi x7), some (wi x8), some (wi x9), some (wi x10), some (wi x11), some (wi x12), some (wi x13), some (wi x14), some (wi x15), some (wi t0), none] [] V (zi K)) : vwp E d M_X12_search 606 [some (sl 6 0), some (wi x1), some (wi x2), some (wi x3), some (wi x4), some (wi x5), some (wi x6), some (wi x7), some (wi x8), some (wi x9), some (wi x10), some (wi x11), some (wi x12), some (wi x13), some (wi x14), some (wi x15), some (wi x16), none] [wi t0] V (zi K) := by
  intro G A hR
  obtain ⟨L, P, rfl, hS⟩ := hR
  have hx := Xt.refl (V := pl G A L P) (A := A)
  show wp E d M_X12_search 606 [some (vr (A 6 0)), some (vi x1), some (vi x2), some (vi x3), some (vi x4), some (vi x5), some (vi x6), some (vi x7), some (vi x8), some (vi x9), some (vi x10), some (vi x11), some (vi x12), some (vi x13), some (vi x14), some (vi x15), some (vi x16), none] [vi t0] G _
  refine v_X12_search_606 ?_
  exact wp.mono (h G A ⟨L, P, rfl, hS⟩) (fun r G' q => qx_trans hx q)
theorem w_X12_search_608 {E : EE} {d : Nat} {V : VH} {K : Int32 → VH → Prop} {x1 : Int32} {x2 : Int32} {x3 : Int32} {x4 : Int32} {x5 : Int32} {x6 : Int32} {x7 : Int32} {x8 : Int32} {x9 : Int32} {x10 : Int32} {x11 : Int32} {x12 : Int32} {x13 : Int32} {x14 : Int32} {x15 : Int32} {x16 : Int32}  (h0 : 0 < d) (h : (x16 = 0 → vwp E d M_X12_search 673 [some (sl 6 0), some (wi x1), some (wi x2), some (wi x3), some (wi x4), some (wi x5), some (wi x6), some (wi x7), some (wi x8), some (wi x9), some (wi x10), some (wi x11), some (wi x12), some (wi x13), some (wi x14), some (wi x15), some (wi x16), none] [] V (zi K)) ∧ (¬ (x16 = 0) → ∀ V1 : VH, V1 = wrI V 6 0 77 ((31 * (vI V 6 0 77)) + x11) → vp_in x12 12 ∧ (∀ V3 : VH, V3 = wrI V1 6 53 (Int32.toNatClampNeg x12) x10 → vp_in x13 12 ∧ (∀ V5 : VH, V5 = wrI V3 6 53 (Int32.toNatClampNeg x13) x10 → vMI E (d - 1) M_X12_isBetter [sl 6 0, wi x14, wi x8] V5 (fun r6 V6 => (r6 = 0 → vwp E d M_X12_search 673 [some (sl 6 0), some (wi x1), some (wi x2), some (wi x3), some (wi x4), some (wi x5), some (wi x6), some (wi x14), some (wi x8), some (wi (x9 + 1)), some (wi x10), some (wi x11), some (wi x12), some (wi x13), some (wi x14), some (wi x15), some (wi x16), none] [] V6 (zi K)) ∧ (¬ (r6 = 0) → ∀ V8 : VH, V8 = wrI V6 6 0 78 x10 → vwp E d M_X12_search 673 [some (sl 6 0), some (wi x1), some (wi x2), some (wi x3), some (wi x4), some (wi x5), some (wi x6), some (wi x14), some (wi x14), some (wi (x9 + 1)), some (wi x10), some (wi x11), some (wi x12), some (wi x13), some (wi x14), some (wi x15), some (wi x16), none] [] V8 (zi K))))))) : vwp E d M_X12_search 608 [some (sl 6 0), some (wi x1), some (wi x2), some (wi x3), some (wi x4), some (wi x5), some (wi x6), some (wi x7), some (wi x8), some (wi x9), some (wi x10), some (wi x11), some (wi x12), some (wi x13), some (wi x14), some (wi x15), some (wi x16), none] [] V (zi K) := by
  intro G A hR
  obtain ⟨L, P, rfl, hS⟩ := hR
  have hx := Xt.refl (V := pl G A L P) (A := A)
  show wp E d M_X12_search 608 [some (vr (A 6 0)), some (vi x1), some (vi x2), some (vi x3), some (vi x4), some (vi x5), some (vi x6), some (vi x7), some (vi x8), some (vi x9), some (vi x10), some (vi x11), some (vi x12), some (vi x13), some (vi x14), some (vi x15), some (vi x16), none] [] G _
  refine v_X12_search_608 h0 ?_
  refine ⟨fun hc => ?_, fun hc => ?_⟩
  · have h := h.1 hc
    exact wp.mono (h G A ⟨L, P, rfl, hS⟩) (fun r G' q => qx_trans hx q)
  · have h := h.2 hc
    refine ⟨hS.o (s6_0 hS), ?_⟩
    intro G1 eG1
    have hS1 : Sh E G1 A L P := Sh_sI eG1 hS (s6_0 hS) (okT_0 rfl)
    have h := h (pl G1 A L P) (pl_sI eG1 hS (s6_0 hS))
    have hx1 : Xt (pl G A L P) A (pl G1 A L P) A := Xt_sI eG1 hx
    rw [l6_0_81 hS1]
    refine ⟨hS1.o (s6_53 hS1), ?_⟩
    obtain ⟨hi2, h⟩ := h
    refine ⟨by first | (rw [(n6_53 hS1)]; exact hi2) | exact (congrArg (vp_in _) (n6_53 hS1)).mpr hi2 | exact hi2, ?_⟩
    intro G3 eG3
    have hS3 : Sh E G3 A L P := Sh_sI eG3 hS1 (s6_53 hS1) (okT_0 rfl)
    have h := h (pl G3 A L P) (pl_sI eG3 hS1 (s6_53 hS1))
    have hx3 : Xt (pl G A L P) A (pl G3 A L P) A := Xt_sI eG3 hx1
    rw [l6_0_81 hS3]
    refine ⟨hS3.o (s6_53 hS3), ?_⟩
    obtain ⟨hi4, h⟩ := h
    refine ⟨by first | (rw [(n6_53 hS3)]; exact hi4) | exact (congrArg (vp_in _) (n6_53 hS3)).mpr hi4 | exact hi4, ?_⟩
    intro G5 eG5
    have hS5 : Sh E G5 A L P := Sh_sI eG5 hS3 (s6_53 hS3) (okT_0 rfl)
    have h := h (pl G5 A L P) (pl_sI eG5 hS3 (s6_53 hS3))
    have hx5 : Xt (pl G A L P) A (pl G5 A L P) A := Xt_sI eG5 hx3
    refine wpM.mono (h G5 A ⟨L, P, rfl, hS5⟩) (fun rr6 G6 hr => ?_)
    obtain ⟨A6, W6, w6, ⟨L6, P6, rfl, hS6⟩, hy6, rfl, r6, rfl, h⟩ := hr
    refine ⟨r6, rfl, ?_⟩
    have hx6 := Xt.trans hx5 hy6
    have ee7 : A6 6 0 = A 6 0 := hy6.2 _ _ hS5.1.2.1 (((n6_0 hS6)).trans ((n6_0 hS5)).symm)
    try rw [← ee7]
    refine ⟨fun hc => ?_, fun hc => ?_⟩
    · have h := h.1 hc
      exact wp.mono (h G6 A6 ⟨L6, P6, rfl, hS6⟩) (fun r G' q => qx_trans hx6 q)
    · have h := h.2 hc
      refine ⟨hS6.o (s6_0 hS6), ?_⟩
      intro G8 eG8
      have hS8 : Sh E G8 A6 L6 P6 := Sh_sI eG8 hS6 (s6_0 hS6) (okT_0 rfl)
      have h := h (pl G8 A6 L6 P6) (pl_sI eG8 hS6 (s6_0 hS6))
      have hx8 : Xt (pl G A L P) A (pl G8 A6 L6 P6) A6 := Xt_sI eG8 hx6
      exact wp.mono (h G8 A6 ⟨L6, P6, rfl, hS8⟩) (fun r G' q => qx_trans hx8 q)
theorem w_X12_search_673 {E : EE} {d : Nat} {V : VH} {K : Int32 → VH → Prop} {x1 : Int32} {x2 : Int32} {x3 : Int32} {x4 : Int32} {x5 : Int32} {x6 : Int32} {x7 : Int32} {x8 : Int32} {x9 : Int32} {x10 : Int32} {x11 : Int32} {x12 : Int32} {x13 : Int32} {x14 : Int32} {x15 : Int32} {x16 : Int32}  (h : (¬ x2 = 1 → vwp E d M_X12_search 689 [some (sl 6 0), some (wi x1), some (wi x2), some (wi x3), some (wi x4), some (wi x5), some (wi x6), some (wi x7), some (wi x8), some (wi x9), some (wi x10), some (wi x11), some (wi x12), some (wi x13), some (wi x14), some (wi x15), some (wi x16), none] [] V (zi K)) ∧ (x2 = 1 → ¬ x3 = 0 ∧ (vp_in (x10 - x10 / x3 * x3) 20 ∧ (∀ V3 : VH, V3 = wrI V 6 54 (Int32.toNatClampNeg (x10 - x10 / x3 * x3)) x7 → vwp E d M_X12_search 689 [some (sl 6 0), some (wi x1), some (wi x2), some (wi x3), some (wi x4), some (wi x5), some (wi x6), some (wi x7), some (wi x8), some (wi x9), some (wi x10), some (wi x11), some (wi x12), some (wi x13), some (wi x14), some (wi x15), some (wi x16), none] [] V3 (zi K))))) : vwp E d M_X12_search 673 [some (sl 6 0), some (wi x1), some (wi x2), some (wi x3), some (wi x4), some (wi x5), some (wi x6), some (wi x7), some (wi x8), some (wi x9), some (wi x10), some (wi x11), some (wi x12), some (wi x13), some (wi x14), some (wi x15), some (wi x16), none] [] V (zi K) := by
  intro G A hR
  obtain ⟨L, P, rfl, hS⟩ := hR
  have hx := Xt.refl (V := pl G A L P) (A := A)
  show wp E d M_X12_search 673 [some (vr (A 6 0)), some (vi x1), some (vi x2), some (vi x3), some (vi x4), some (vi x5), some (vi x6), some (vi x7), some (vi x8), some (vi x9), some (vi x10), some (vi x11), some (vi x12), some (vi x13), some (vi x14), some (vi x15), some (vi x16), none] [] G _
  refine v_X12_search_673 ?_
  refine ⟨fun hc => ?_, fun hc => ?_⟩
  · have h := h.1 hc
    exact wp.mono (h G A ⟨L, P, rfl, hS⟩) (fun r G' q => qx_trans hx q)
  · have h := h.2 hc
    refine ⟨hS.o (s6_0 hS), ?_⟩
    rw [l6_0_82 hS]
    obtain ⟨hz1, h⟩ := h
    refine ⟨hz1, ?_⟩
    refine ⟨hS.o (s6_54 hS), ?_⟩
    obtain ⟨hi2, h⟩ := h
    refine ⟨by first | (rw [(n6_54 hS)]; exact hi2) | exact (congrArg (vp_in _) (n6_54 hS)).mpr hi2 | exact hi2, ?_⟩
    have hS3 : Sh E (sI G (A 6 54) (Int32.toNatClampNeg (x10 - x10 / x3 * x3)) x7) A L P := Sh_sI (rfl : sI G (A 6 54) (Int32.toNatClampNeg (x10 - x10 / x3 * x3)) x7 = sI G (A 6 54) (Int32.toNatClampNeg (x10 - x10 / x3 * x3)) x7) hS (s6_54 hS) (okT_0 rfl)
    have h := h (pl (sI G (A 6 54) (Int32.toNatClampNeg (x10 - x10 / x3 * x3)) x7) A L P) (pl_sI (rfl : sI G (A 6 54) (Int32.toNatClampNeg (x10 - x10 / x3 * x3)) x7 = sI G (A 6 54) (Int32.toNatClampNeg (x10 - x10 / x3 * x3)) x7) hS (s6_54 hS))
    have hx3 : Xt (pl G A L P) A (pl (sI G (A 6 54) (Int32.toNatClampNeg (x10 - x10 / x3 * x3)) x7) A L P) A := Xt_sI (rfl : sI G (A 6 54) (Int32.toNatClampNeg (x10 - x10 / x3 * x3)) x7 = sI G (A 6 54) (Int32.toNatClampNeg (x10 - x10 / x3 * x3)) x7) hx
    exact wp.mono (h (sI G (A 6 54) (Int32.toNatClampNeg (x10 - x10 / x3 * x3)) x7) A ⟨L, P, rfl, hS3⟩) (fun r G' q => qx_trans hx3 q)
theorem w_X12_search_689 {E : EE} {d : Nat} {V : VH} {K : Int32 → VH → Prop} {x1 : Int32} {x2 : Int32} {x3 : Int32} {x4 : Int32} {x5 : Int32} {x6 : Int32} {x7 : Int32} {x8 : Int32} {x9 : Int32} {x10 : Int32} {x11 : Int32} {x12 : Int32} {x13 : Int32} {x14 : Int32} {x15 : Int32} {x16 : Int32}  (h : vwp E d M_X12_search 220 [some (sl 6 0), some (wi x1), some (wi x2), some (wi x3), some (wi x4), some (wi x5), some (wi x6), some (wi x7), some (wi x8), some (wi x9), some (wi (x10 + 1)), none, none, none, none, none, none, none] [] V (zi K)) : vwp E d M_X12_search 689 [some (sl 6 0), some (wi x1), some (wi x2), some (wi x3), some (wi x4), some (wi x5), some (wi x6), some (wi x7), some (wi x8), some (wi x9), some (wi x10), some (wi x11), some (wi x12), some (wi x13), some (wi x14), some (wi x15), some (wi x16), none] [] V (zi K) := by
  intro G A hR
  obtain ⟨L, P, rfl, hS⟩ := hR
  have hx := Xt.refl (V := pl G A L P) (A := A)
  show wp E d M_X12_search 689 [some (vr (A 6 0)), some (vi x1), some (vi x2), some (vi x3), some (vi x4), some (vi x5), some (vi x6), some (vi x7), some (vi x8), some (vi x9), some (vi x10), some (vi x11), some (vi x12), some (vi x13), some (vi x14), some (vi x15), some (vi x16), none] [] G _
  refine v_X12_search_689 ?_
  exact wp.mono (h G A ⟨L, P, rfl, hS⟩) (fun r G' q => qx_trans hx q)
theorem w_X12_draw_0 {E : EE} {d : Nat} {V : VH} {K : Int32 → VH → Prop} {x1 : Int32}  (h : ∀ V1 : VH, V1 = wrI V 6 0 76 (((vI V 6 0 76) * 1664525) + 1013904223) → ¬ x1 = 0 ∧ (K ((iushr (vI V1 6 0 76) 8) - (iushr (vI V1 6 0 76) 8) / x1 * x1) V1)) : vMI E d M_X12_draw [sl 6 0, wi x1] V K := by
  intro G A hR
  obtain ⟨L, P, rfl, hS⟩ := hR
  have hx := Xt.refl (V := pl G A L P) (A := A)
  show wpM E d M_X12_draw [vr (A 6 0), vi x1] G _
  refine wpM_of mk_X12_draw (Nat.le_of_ble_eq_true rfl) ?_
  refine v_X12_draw_0 ?_
  refine ⟨hS.o (s6_0 hS), ?_⟩
  have hS1 : Sh E (sI G (A 6 0) 76 (((gI G (A 6 0) 76) * 1664525) + 1013904223)) A L P := Sh_sI (rfl : sI G (A 6 0) 76 (((gI G (A 6 0) 76) * 1664525) + 1013904223) = sI G (A 6 0) 76 (((gI G (A 6 0) 76) * 1664525) + 1013904223)) hS (s6_0 hS) (okT_0 rfl)
  have h := h (pl (sI G (A 6 0) 76 (((gI G (A 6 0) 76) * 1664525) + 1013904223)) A L P) (pl_sI (rfl : sI G (A 6 0) 76 (((gI G (A 6 0) 76) * 1664525) + 1013904223) = sI G (A 6 0) 76 (((gI G (A 6 0) 76) * 1664525) + 1013904223)) hS (s6_0 hS))
  have hx1 : Xt (pl G A L P) A (pl (sI G (A 6 0) 76 (((gI G (A 6 0) 76) * 1664525) + 1013904223)) A L P) A := Xt_sI (rfl : sI G (A 6 0) 76 (((gI G (A 6 0) 76) * 1664525) + 1013904223) = sI G (A 6 0) 76 (((gI G (A 6 0) 76) * 1664525) + 1013904223)) hx
  obtain ⟨hz2, h⟩ := h
  refine ⟨hz2, ?_⟩
  exact qx_i hS1 hx1 h
theorem w_X12_withPlace_0 {E : EE} {d : Nat} {V : VH} {K : Int32 → VH → Prop} {x1 : Int32} {x2 : Int32} {x3 : Int32} {x4 : Int32}  (h0 : 0 < d) (h : vMI E (d - 1) M_X12_place [sl 6 0, wi x1, wi x2, wi x3] V (fun r1 V1 => vp_in ((12 * x1) + x3) 60 ∧ (K (x2 + ((x4 - r1) * (vI V1 6 17 (Int32.toNatClampNeg ((12 * x1) + x3))))) V1))) : vMI E d M_X12_withPlace [sl 6 0, wi x1, wi x2, wi x3, wi x4] V K := by
  intro G A hR
  obtain ⟨L, P, rfl, hS⟩ := hR
  have hx := Xt.refl (V := pl G A L P) (A := A)
  show wpM E d M_X12_withPlace [vr (A 6 0), vi x1, vi x2, vi x3, vi x4] G _
  refine wpM_of mk_X12_withPlace (Nat.le_of_ble_eq_true rfl) ?_
  refine v_X12_withPlace_0 h0 ?_
  refine ⟨hS.o (s6_0 hS), ?_⟩
  refine wpM.mono (h G A ⟨L, P, rfl, hS⟩) (fun rr1 G1 hr => ?_)
  obtain ⟨A1, W1, w1, ⟨L1, P1, rfl, hS1⟩, hy1, rfl, r1, rfl, h⟩ := hr
  refine ⟨r1, rfl, ?_⟩
  have hx1 := Xt.trans hx hy1
  have ee2 : A1 6 0 = A 6 0 := hy1.2 _ _ hS.1.2.1 (((n6_0 hS1)).trans ((n6_0 hS)).symm)
  try rw [← ee2]
  refine ⟨hS1.o (s6_0 hS1), ?_⟩
  rw [l6_0_20 hS1]
  refine ⟨hS1.o (s6_17 hS1), ?_⟩
  obtain ⟨hi3, h⟩ := h
  refine ⟨by first | (rw [(n6_17 hS1)]; exact hi3) | exact (congrArg (vp_in _) (n6_17 hS1)).mpr hi3 | exact hi3, ?_⟩
  exact qx_i hS1 hx1 h
theorem w_X12_worth_0 {E : EE} {d : Nat} {V : VH} {K : Int64 → VH → Prop} {x1 : Int32}  (h : vp_in x1 60000 ∧ (vp_in (20000 + x1) 60000 ∧ (vp_in (40000 + x1) 60000 ∧ (K (((10000 * (vJ V 6 45 (Int32.toNatClampNeg x1))) + (100 * (vJ V 6 45 (Int32.toNatClampNeg (20000 + x1))))) + (vJ V 6 45 (Int32.toNatClampNeg (40000 + x1)))) V)))) : vMJ E d M_X12_worth [sl 6 0, wi x1] V K := by
  intro G A hR
  obtain ⟨L, P, rfl, hS⟩ := hR
  have hx := Xt.refl (V := pl G A L P) (A := A)
  show wpM E d M_X12_worth [vr (A 6 0), vi x1] G _
  refine wpM_of mk_X12_worth (Nat.le_of_ble_eq_true rfl) ?_
  refine v_X12_worth_0 ?_
  refine ⟨hS.o (s6_0 hS), ?_⟩
  rw [l6_0_66 hS]
  refine ⟨hS.o (s6_45 hS), ?_⟩
  obtain ⟨hi1, h⟩ := h
  refine ⟨by first | (rw [(n6_45 hS)]; exact hi1) | exact (congrArg (vp_in _) (n6_45 hS)).mpr hi1 | exact hi1, ?_⟩
  obtain ⟨hi2, h⟩ := h
  refine ⟨by first | (rw [(n6_45 hS)]; exact hi2) | exact (congrArg (vp_in _) (n6_45 hS)).mpr hi2 | exact hi2, ?_⟩
  obtain ⟨hi3, h⟩ := h
  refine ⟨by first | (rw [(n6_45 hS)]; exact hi3) | exact (congrArg (vp_in _) (n6_45 hS)).mpr hi3 | exact hi3, ?_⟩
  exact qx_j hS hx h
theorem w_X12_valueIn_0 {E : EE} {d : Nat} {V : VH} {K : Int32 → VH → Prop} {x1 : Int32} {x2 : Int32} {x3 : Int32}  (h0 : 0 < d) (h : vMI E (d - 1) M_X12_place [sl 6 0, wi x1, wi x2, wi x3] V (fun r1 V1 => vp_in ((20 * ((12 * x1) + x3)) + r1) 1200 ∧ (K (vI V1 6 18 (Int32.toNatClampNeg ((20 * ((12 * x1) + x3)) + r1))) V1))) : vMI E d M_X12_valueIn [sl 6 0, wi x1, wi x2, wi x3] V K := by
  intro G A hR
  obtain ⟨L, P, rfl, hS⟩ := hR
  have hx := Xt.refl (V := pl G A L P) (A := A)
  show wpM E d M_X12_valueIn [vr (A 6 0), vi x1, vi x2, vi x3] G _
  refine wpM_of mk_X12_valueIn (Nat.le_of_ble_eq_true rfl) ?_
  refine v_X12_valueIn_0 h0 ?_
  refine ⟨hS.o (s6_0 hS), ?_⟩
  rw [l6_0_21 hS]
  refine wpM.mono (h G A ⟨L, P, rfl, hS⟩) (fun rr1 G1 hr => ?_)
  obtain ⟨A1, W1, w1, ⟨L1, P1, rfl, hS1⟩, hy1, rfl, r1, rfl, h⟩ := hr
  refine ⟨r1, rfl, ?_⟩
  have hx1 := Xt.trans hx hy1
  have ee2 : A1 6 0 = A 6 0 := hy1.2 _ _ hS.1.2.1 (((n6_0 hS1)).trans ((n6_0 hS)).symm)
  try rw [← ee2]
  have ee3 : A1 6 18 = A 6 18 := hy1.2 _ _ hS.1.2.1 (((n6_18 hS1)).trans ((n6_18 hS)).symm)
  try rw [← ee3]
  refine ⟨hS1.o (s6_18 hS1), ?_⟩
  obtain ⟨hi4, h⟩ := h
  refine ⟨by first | (rw [(n6_18 hS1)]; exact hi4) | exact (congrArg (vp_in _) (n6_18 hS1)).mpr hi4 | exact hi4, ?_⟩
  exact qx_i hS1 hx1 h
theorem w_X12_putAtHand_0 {E : EE} {d : Nat} {V : VH} {K : VH → Prop} {x1 : Int32} {x2 : Int32}  (h : vwp E d M_X12_putAtHand 2 [some (sl 6 0), some (wi x1), some (wi x2), some (wi 0)] [] V (zv K)) : vMV E d M_X12_putAtHand [sl 6 0, wi x1, wi x2] V K := by
  intro G A hR
  obtain ⟨L, P, rfl, hS⟩ := hR
  have hx := Xt.refl (V := pl G A L P) (A := A)
  show wpM E d M_X12_putAtHand [vr (A 6 0), vi x1, vi x2] G _
  refine wpM_of mk_X12_putAtHand (Nat.le_of_ble_eq_true rfl) ?_
  refine v_X12_putAtHand_0 ?_
  exact wp.mono (h G A ⟨L, P, rfl, hS⟩) (fun r G' q => qx_trans hx q)
theorem w_X12_putAtHand_2 {E : EE} {d : Nat} {V : VH} {K : VH → Prop} {x1 : Int32} {x2 : Int32} {x3 : Int32}  (h0 : 0 < d) (h : vMI E (d - 1) M_X12_vars [sl 6 0, wi x1] V (fun r1 V1 => (r1 ≤ x3 → K V1) ∧ (¬ (r1 ≤ x3) → vMI E (d - 1) M_X12_place [sl 6 0, wi x1, wi x2, wi x3] V1 (fun r3 V3 => vp_in ((12 * x1) + x3) 60 ∧ (∀ V7 : VH, V7 = wrI V3 6 19 (Int32.toNatClampNeg ((12 * x1) + x3)) r3 → vwp E d M_X12_putAtHand 2 [some (sl 6 0), some (wi x1), some (wi x2), some (wi (x3 + 1))] [] V7 (zv K)))))) : vwp E d M_X12_putAtHand 2 [some (sl 6 0), some (wi x1), some (wi x2), some (wi x3)] [] V (zv K) := by
  intro G A hR
  obtain ⟨L, P, rfl, hS⟩ := hR
  have hx := Xt.refl (V := pl G A L P) (A := A)
  show wp E d M_X12_putAtHand 2 [some (vr (A 6 0)), some (vi x1), some (vi x2), some (vi x3)] [] G _
  refine v_X12_putAtHand_2 h0 ?_
  refine ⟨hS.o (s6_0 hS), ?_⟩
  refine wpM.mono (h G A ⟨L, P, rfl, hS⟩) (fun rr1 G1 hr => ?_)
  obtain ⟨A1, W1, w1, ⟨L1, P1, rfl, hS1⟩, hy1, rfl, r1, rfl, h⟩ := hr
  refine ⟨r1, rfl, ?_⟩
  have hx1 := Xt.trans hx hy1
  have ee2 : A1 6 0 = A 6 0 := hy1.2 _ _ hS.1.2.1 (((n6_0 hS1)).trans ((n6_0 hS)).symm)
  try rw [← ee2]
  refine ⟨fun hc => ?_, fun hc => ?_⟩
  · have h := h.1 hc
    exact qx_v hS1 hx1 h
  · have h := h.2 hc
    refine ⟨hS1.o (s6_0 hS1), ?_⟩
    rw [l6_0_22 hS1]
    refine wpM.mono (h G1 A1 ⟨L1, P1, rfl, hS1⟩) (fun rr3 G3 hr => ?_)
    obtain ⟨A3, W3, w3, ⟨L3, P3, rfl, hS3⟩, hy3, rfl, r3, rfl, h⟩ := hr
    refine ⟨r3, rfl, ?_⟩
    have hx3 := Xt.trans hx1 hy3
    have ee4 : A3 6 0 = A1 6 0 := hy3.2 _ _ hS1.1.2.1 (((n6_0 hS3)).trans ((n6_0 hS1)).symm)
    try rw [← ee4]
    have ee5 : A3 6 19 = A1 6 19 := hy3.2 _ _ hS1.1.2.1 (((n6_19 hS3)).trans ((n6_19 hS1)).symm)
    try rw [← ee5]
    refine ⟨hS3.o (s6_19 hS3), ?_⟩
    obtain ⟨hi6, h⟩ := h
    refine ⟨by first | (rw [(n6_19 hS3)]; exact hi6) | exact (congrArg (vp_in _) (n6_19 hS3)).mpr hi6 | exact hi6, ?_⟩
    have hS7 : Sh E (sI G3 (A3 6 19) (Int32.toNatClampNeg ((12 * x1) + x3)) r3) A3 L3 P3 := Sh_sI (rfl : sI G3 (A3 6 19) (Int32.toNatClampNeg ((12 * x1) + x3)) r3 = sI G3 (A3 6 19) (Int32.toNatClampNeg ((12 * x1) + x3)) r3) hS3 (s6_19 hS3) (okT_0 rfl)
    have h := h (pl (sI G3 (A3 6 19) (Int32.toNatClampNeg ((12 * x1) + x3)) r3) A3 L3 P3) (pl_sI (rfl : sI G3 (A3 6 19) (Int32.toNatClampNeg ((12 * x1) + x3)) r3 = sI G3 (A3 6 19) (Int32.toNatClampNeg ((12 * x1) + x3)) r3) hS3 (s6_19 hS3))
    have hx7 : Xt (pl G A L P) A (pl (sI G3 (A3 6 19) (Int32.toNatClampNeg ((12 * x1) + x3)) r3) A3 L3 P3) A3 := Xt_sI (rfl : sI G3 (A3 6 19) (Int32.toNatClampNeg ((12 * x1) + x3)) r3 = sI G3 (A3 6 19) (Int32.toNatClampNeg ((12 * x1) + x3)) r3) hx3
    exact wp.mono (h (sI G3 (A3 6 19) (Int32.toNatClampNeg ((12 * x1) + x3)) r3) A3 ⟨L3, P3, rfl, hS7⟩) (fun r G' q => qx_trans hx7 q)
theorem w_X12_regret_0 {E : EE} {d : Nat} {V : VH} {K : Int64 → VH → Prop} {x1 : Int32} {x2 : Int32}  (h0 : 0 < d) (h : vMI E (d - 1) M_X12_isProblem [sl 6 0, wi x1] V (fun r1 V1 => (r1 = 0 → K (-9223372036854775808) V1) ∧ (¬ (r1 = 0) → vMI E (d - 1) M_X12_isLevel [wi x2] V1 (fun r3 V3 => (r3 = 0 → K (-9223372036854775808) V3) ∧ (¬ (r3 = 0) → vp_in x1 5 ∧ ((¬ (vI V3 6 29 (Int32.toNatClampNeg x1)) = 0 → vMI E (d - 1) M_X12_handOf [sl 6 0, wi x1] V3 (fun r6 V6 => vwp E d M_X12_regret 45 [some (sl 6 0), some (wi x1), some (wi x2), some (wi r6), some (wj (-9223372036854775808)), none, some (wi 1), some (wi 0), none, none, none, none, none] [] V6 (zj K))) ∧ ((vI V3 6 29 (Int32.toNatClampNeg x1)) = 0 → K (-9223372036854775808) V3))))))) : vMJ E d M_X12_regret [sl 6 0, wi x1, wi x2] V K := by
  intro G A hR
  obtain ⟨L, P, rfl, hS⟩ := hR
  have hx := Xt.refl (V := pl G A L P) (A := A)
  show wpM E d M_X12_regret [vr (A 6 0), vi x1, vi x2] G _
  refine wpM_of mk_X12_regret (Nat.le_of_ble_eq_true rfl) ?_
  refine v_X12_regret_0 h0 ?_
  refine ⟨hS.o (s6_0 hS), ?_⟩
  refine wpM.mono (h G A ⟨L, P, rfl, hS⟩) (fun rr1 G1 hr => ?_)
  obtain ⟨A1, W1, w1, ⟨L1, P1, rfl, hS1⟩, hy1, rfl, r1, rfl, h⟩ := hr
  refine ⟨r1, rfl, ?_⟩
  have hx1 := Xt.trans hx hy1
  have ee2 : A1 6 0 = A 6 0 := hy1.2 _ _ hS.1.2.1 (((n6_0 hS1)).trans ((n6_0 hS)).symm)
  try rw [← ee2]
  refine ⟨fun hc => ?_, fun hc => ?_⟩
  · have h := h.1 hc
    exact qx_j hS1 hx1 h
  · have h := h.2 hc
    refine wpM.mono (h G1 A1 ⟨L1, P1, rfl, hS1⟩) (fun rr3 G3 hr => ?_)
    obtain ⟨A3, W3, w3, ⟨L3, P3, rfl, hS3⟩, hy3, rfl, r3, rfl, h⟩ := hr
    refine ⟨r3, rfl, ?_⟩
    have hx3 := Xt.trans hx1 hy3
    have ee4 : A3 6 0 = A1 6 0 := hy3.2 _ _ hS1.1.2.1 (((n6_0 hS3)).trans ((n6_0 hS1)).symm)
    try rw [← ee4]
    refine ⟨fun hc => ?_, fun hc => ?_⟩
    · have h := h.1 hc
      exact qx_j hS3 hx3 h
    · have h := h.2 hc
      refine ⟨hS3.o (s6_0 hS3), ?_⟩
      rw [l6_0_32 hS3]
      refine ⟨hS3.o (s6_29 hS3), ?_⟩
      obtain ⟨hi5, h⟩ := h
      refine ⟨by first | (rw [(n6_29 hS3)]; exact hi5) | exact (congrArg (vp_in _) (n6_29 hS3)).mpr hi5 | exact hi5, ?_⟩
      refine ⟨fun hc => ?_, fun hc => ?_⟩
      · have h := h.1 hc
        refine wpM.mono (h G3 A3 ⟨L3, P3, rfl, hS3⟩) (fun rr6 G6 hr => ?_)
        obtain ⟨A6, W6, w6, ⟨L6, P6, rfl, hS6⟩, hy6, rfl, r6, rfl, h⟩ := hr
        refine ⟨r6, rfl, ?_⟩
        have hx6 := Xt.trans hx3 hy6
        have ee7 : A6 6 0 = A3 6 0 := hy6.2 _ _ hS3.1.2.1 (((n6_0 hS6)).trans ((n6_0 hS3)).symm)
        try rw [← ee7]
        exact wp.mono (h G6 A6 ⟨L6, P6, rfl, hS6⟩) (fun r G' q => qx_trans hx6 q)
      · have h := h.2 hc
        exact qx_j hS3 hx3 h
theorem w_X12_regret_45 {E : EE} {d : Nat} {V : VH} {K : Int64 → VH → Prop} {x1 : Int32} {x2 : Int32} {x3 : Int32} {x4 : Int64} {x6 : Int32} {x7 : Int32}  (h0 : 0 < d) (h : (x6 = 0 → vwp E d M_X12_regret 195 [some (sl 6 0), some (wi x1), some (wi x2), some (wi x3), some (wj x4), none, some (wi x6), some (wi x7), none, none, none, none, none] [] V (zj K)) ∧ (¬ (x6 = 0) → vp_in x1 5 ∧ (((vI V 6 29 (Int32.toNatClampNeg x1)) ≤ x7 → vwp E d M_X12_regret 195 [some (sl 6 0), some (wi x1), some (wi x2), some (wi x3), some (wj x4), none, some (wi x6), some (wi x7), none, none, none, none, none] [] V (zj K)) ∧ (¬ ((vI V 6 29 (Int32.toNatClampNeg x1)) ≤ x7) → vMV E (d - 1) M_X12_weighAll [sl 6 0, wi x1, wi x7] V (fun V2 => vwp E d M_X12_regret 77 [some (sl 6 0), some (wi x1), some (wi x2), some (wi x3), some (wj x4), none, some (wi x6), some (wi x7), some (wj 0), none, some (wi 0), some (wi 0), none] [] V2 (zj K)))))) : vwp E d M_X12_regret 45 [some (sl 6 0), some (wi x1), some (wi x2), some (wi x3), some (wj x4), none, some (wi x6), some (wi x7), none, none, none, none, none] [] V (zj K) := by
  intro G A hR
  obtain ⟨L, P, rfl, hS⟩ := hR
  have hx := Xt.refl (V := pl G A L P) (A := A)
  show wp E d M_X12_regret 45 [some (vr (A 6 0)), some (vi x1), some (vi x2), some (vi x3), some (vj x4), none, some (vi x6), some (vi x7), none, none, none, none, none] [] G _
  refine v_X12_regret_45 h0 ?_
  refine ⟨fun hc => ?_, fun hc => ?_⟩
  · have h := h.1 hc
    exact wp.mono (h G A ⟨L, P, rfl, hS⟩) (fun r G' q => qx_trans hx q)
  · have h := h.2 hc
    refine ⟨hS.o (s6_0 hS), ?_⟩
    rw [l6_0_32 hS]
    refine ⟨hS.o (s6_29 hS), ?_⟩
    obtain ⟨hi1, h⟩ := h
    refine ⟨by first | (rw [(n6_29 hS)]; exact hi1) | exact (congrArg (vp_in _) (n6_29 hS)).mpr hi1 | exact hi1, ?_⟩
    refine ⟨fun hc => ?_, fun hc => ?_⟩
    · have h := h.1 hc
      exact wp.mono (h G A ⟨L, P, rfl, hS⟩) (fun r G' q => qx_trans hx q)
    · have h := h.2 hc
      refine wpM.mono (h G A ⟨L, P, rfl, hS⟩) (fun rr2 G2 hr => ?_)
      obtain ⟨A2, W2, w2, ⟨L2, P2, rfl, hS2⟩, hy2, rfl, rfl, h⟩ := hr
      refine ⟨rfl, ?_⟩
      have hx2 := Xt.trans hx hy2
      have ee3 : A2 6 0 = A 6 0 := hy2.2 _ _ hS.1.2.1 (((n6_0 hS2)).trans ((n6_0 hS)).symm)
      try rw [← ee3]
      exact wp.mono (h G2 A2 ⟨L2, P2, rfl, hS2⟩) (fun r G' q => qx_trans hx2 q)
theorem w_X12_regret_77 {E : EE} {d : Nat} {V : VH} {K : Int64 → VH → Prop} {x1 : Int32} {x2 : Int32} {x3 : Int32} {x4 : Int64} {x6 : Int32} {x7 : Int32} {x8 : Int64} {x10 : Int32} {x11 : Int32}  (h0 : 0 < d) (h : vp_in x1 5 ∧ (((vI V 6 22 (Int32.toNatClampNeg x1)) ≤ x11 → vp_in ((20000 * x2) + x3) 60000 ∧ ((x7 = 0 → vwp E d M_X12_regret 180 [some (sl 6 0), some (wi x1), some (wi x2), some (wi x3), some (wj x4), none, some (wi x10), some (wi x7), some (wj x8), none, some (wi x10), some (wj ((vJ V 6 45 (Int32.toNatClampNeg ((20000 * x2) + x3))) - x8)), none] [] V (zj K)) ∧ (¬ (x7 = 0) → (((vJ V 6 45 (Int32.toNatClampNeg ((20000 * x2) + x3))) - x8) ≤ x4 → vwp E d M_X12_regret 187 [some (sl 6 0), some (wi x1), some (wi x2), some (wi x3), some (wj x4), none, some (wi x10), some (wi x7), some (wj x8), none, some (wi x10), some (wj ((vJ V 6 45 (Int32.toNatClampNeg ((20000 * x2) + x3))) - x8)), none] [wj x4] V (zj K)) ∧ (¬ (((vJ V 6 45 (Int32.toNatClampNeg ((20000 * x2) + x3))) - x8) ≤ x4) → vwp E d M_X12_regret 180 [some (sl 6 0), some (wi x1), some (wi x2), some (wi x3), some (wj x4), none, some (wi x10), some (wi x7), some (wj x8), none, some (wi x10), some (wj ((vJ V 6 45 (Int32.toNatClampNeg ((20000 * x2) + x3))) - x8)), none] [] V (zj K))))) ∧ (¬ ((vI V 6 22 (Int32.toNatClampNeg x1)) ≤ x11) → vMI E (d - 1) M_X12_isGood [sl 6 0, wi x1, wi x11] V (fun r3 V3 => (r3 = 0 → vwp E d M_X12_regret 140 [some (sl 6 0), some (wi x1), some (wi x2), some (wi x3), some (wj x4), none, some (wi x6), some (wi x7), some (wj x8), none, some (wi x10), some (wi x11), none] [] V3 (zj K)) ∧ (¬ (r3 = 0) → (x10 = 0 → vwp E d M_X12_regret 122 [some (sl 6 0), some (wi x1), some (wi x2), some (wi x3), some (wj x4), none, some (wi x6), some (wi x7), some (wj x8), none, some (wi x10), some (wi x11), none] [] V3 (zj K)) ∧ (¬ (x10 = 0) → vp_in ((20000 * x2) + x11) 60000 ∧ ((x8 ≤ (vJ V3 6 45 (Int32.toNatClampNeg ((20000 * x2) + x11))) → vwp E d M_X12_regret 140 [some (sl 6 0), some (wi x1), some (wi x2), some (wi x3), some (wj x4), none, some (wi x6), some (wi x7), some (wj x8), none, some (wi x10), some (wi x11), none] [] V3 (zj K)) ∧ (¬ (x8 ≤ (vJ V3 6 45 (Int32.toNatClampNeg ((20000 * x2) + x11)))) → vwp E d M_X12_regret 122 [some (sl 6 0), some (wi x1), some (wi x2), some (wi x3), some (wj x4), none, some (wi x6), some (wi x7), some (wj x8), none, some (wi x10), some (wi x11), none] [] V3 (zj K))))))))) : vwp E d M_X12_regret 77 [some (sl 6 0), some (wi x1), some (wi x2), some (wi x3), some (wj x4), none, some (wi x6), some (wi x7), some (wj x8), none, some (wi x10), some (wi x11), none] [] V (zj K) := by
  intro G A hR
  obtain ⟨L, P, rfl, hS⟩ := hR
  have hx := Xt.refl (V := pl G A L P) (A := A)
  show wp E d M_X12_regret 77 [some (vr (A 6 0)), some (vi x1), some (vi x2), some (vi x3), some (vj x4), none, some (vi x6), some (vi x7), some (vj x8), none, some (vi x10), some (vi x11), none] [] G _
  refine v_X12_regret_77 h0 ?_
  refine ⟨hS.o (s6_0 hS), ?_⟩
  rw [l6_0_25 hS]
  refine ⟨hS.o (s6_22 hS), ?_⟩
  obtain ⟨hi1, h⟩ := h
  refine ⟨by first | (rw [(n6_22 hS)]; exact hi1) | exact (congrArg (vp_in _) (n6_22 hS)).mpr hi1 | exact hi1, ?_⟩
  refine ⟨fun hc => ?_, fun hc => ?_⟩
  · have h := h.1 hc
    rw [l6_0_66 hS]
    refine ⟨hS.o (s6_45 hS), ?_⟩
    obtain ⟨hi2, h⟩ := h
    refine ⟨by first | (rw [(n6_45 hS)]; exact hi2) | exact (congrArg (vp_in _) (n6_45 hS)).mpr hi2 | exact hi2, ?_⟩
    refine ⟨fun hc => ?_, fun hc => ?_⟩
    · have h := h.1 hc
      exact wp.mono (h G A ⟨L, P, rfl, hS⟩) (fun r G' q => qx_trans hx q)
    · have h := h.2 hc
      refine ⟨fun hc => ?_, fun hc => ?_⟩
      · have h := h.1 hc
        exact wp.mono (h G A ⟨L, P, rfl, hS⟩) (fun r G' q => qx_trans hx q)
      · have h := h.2 hc
        exact wp.mono (h G A ⟨L, P, rfl, hS⟩) (fun r G' q => qx_trans hx q)
  · have h := h.2 hc
    refine wpM.mono (h G A ⟨L, P, rfl, hS⟩) (fun rr3 G3 hr => ?_)
    obtain ⟨A3, W3, w3, ⟨L3, P3, rfl, hS3⟩, hy3, rfl, r3, rfl, h⟩ := hr
    refine ⟨r3, rfl, ?_⟩
    have hx3 := Xt.trans hx hy3
    have ee4 : A3 6 0 = A 6 0 := hy3.2 _ _ hS.1.2.1 (((n6_0 hS3)).trans ((n6_0 hS)).symm)
    try rw [← ee4]
    refine ⟨fun hc => ?_, fun hc => ?_⟩
    · have h := h.1 hc
      exact wp.mono (h G3 A3 ⟨L3, P3, rfl, hS3⟩) (fun r G' q => qx_trans hx3 q)
    · have h := h.2 hc
      refine ⟨fun hc => ?_, fun hc => ?_⟩
      · have h := h.1 hc
        exact wp.mono (h G3 A3 ⟨L3, P3, rfl, hS3⟩) (fun r G' q => qx_trans hx3 q)
      · have h := h.2 hc
        refine ⟨hS3.o (s6_0 hS3), ?_⟩
        rw [l6_0_66 hS3]
        refine ⟨hS3.o (s6_45 hS3), ?_⟩
        obtain ⟨hi5, h⟩ := h
        refine ⟨by first | (rw [(n6_45 hS3)]; exact hi5) | exact (congrArg (vp_in _) (n6_45 hS3)).mpr hi5 | exact hi5, ?_⟩
        refine ⟨fun hc => ?_, fun hc => ?_⟩
        · have h := h.1 hc
          exact wp.mono (h G3 A3 ⟨L3, P3, rfl, hS3⟩) (fun r G' q => qx_trans hx3 q)
        · have h := h.2 hc
          exact wp.mono (h G3 A3 ⟨L3, P3, rfl, hS3⟩) (fun r G' q => qx_trans hx3 q)
theorem w_X12_regret_122 {E : EE} {d : Nat} {V : VH} {K : Int64 → VH → Prop} {x1 : Int32} {x2 : Int32} {x3 : Int32} {x4 : Int64} {x6 : Int32} {x7 : Int32} {x8 : Int64} {x10 : Int32} {x11 : Int32}  (h : vp_in ((20000 * x2) + x11) 60000 ∧ (vwp E d M_X12_regret 140 [some (sl 6 0), some (wi x1), some (wi x2), some (wi x3), some (wj x4), none, some (wi x6), some (wi x7), some (wj (vJ V 6 45 (Int32.toNatClampNeg ((20000 * x2) + x11)))), none, some (wi 1), some (wi x11), none] [] V (zj K))) : vwp E d M_X12_regret 122 [some (sl 6 0), some (wi x1), some (wi x2), some (wi x3), some (wj x4), none, some (wi x6), some (wi x7), some (wj x8), none, some (wi x10), some (wi x11), none] [] V (zj K) := by
  intro G A hR
  obtain ⟨L, P, rfl, hS⟩ := hR
  have hx := Xt.refl (V := pl G A L P) (A := A)
  show wp E d M_X12_regret 122 [some (vr (A 6 0)), some (vi x1), some (vi x2), some (vi x3), some (vj x4), none, some (vi x6), some (vi x7), some (vj x8), none, some (vi x10), some (vi x11), none] [] G _
  refine v_X12_regret_122 ?_
  refine ⟨hS.o (s6_0 hS), ?_⟩
  rw [l6_0_66 hS]
  refine ⟨hS.o (s6_45 hS), ?_⟩
  obtain ⟨hi1, h⟩ := h
  refine ⟨by first | (rw [(n6_45 hS)]; exact hi1) | exact (congrArg (vp_in _) (n6_45 hS)).mpr hi1 | exact hi1, ?_⟩
  exact wp.mono (h G A ⟨L, P, rfl, hS⟩) (fun r G' q => qx_trans hx q)
theorem w_X12_regret_140 {E : EE} {d : Nat} {V : VH} {K : Int64 → VH → Prop} {x1 : Int32} {x2 : Int32} {x3 : Int32} {x4 : Int64} {x6 : Int32} {x7 : Int32} {x8 : Int64} {x10 : Int32} {x11 : Int32}  (h : vwp E d M_X12_regret 77 [some (sl 6 0), some (wi x1), some (wi x2), some (wi x3), some (wj x4), none, some (wi x6), some (wi x7), some (wj x8), none, some (wi x10), some (wi (x11 + 1)), none] [] V (zj K)) : vwp E d M_X12_regret 140 [some (sl 6 0), some (wi x1), some (wi x2), some (wi x3), some (wj x4), none, some (wi x6), some (wi x7), some (wj x8), none, some (wi x10), some (wi x11), none] [] V (zj K) := by
  intro G A hR
  obtain ⟨L, P, rfl, hS⟩ := hR
  have hx := Xt.refl (V := pl G A L P) (A := A)
  show wp E d M_X12_regret 140 [some (vr (A 6 0)), some (vi x1), some (vi x2), some (vi x3), some (vj x4), none, some (vi x6), some (vi x7), some (vj x8), none, some (vi x10), some (vi x11), none] [] G _
  refine v_X12_regret_140 ?_
  exact wp.mono (h G A ⟨L, P, rfl, hS⟩) (fun r G' q => qx_trans hx q)
theorem w_X12_regret_180 {E : EE} {d : Nat} {V : VH} {K : Int64 → VH → Prop} {x1 : Int32} {x2 : Int32} {x3 : Int32} {x4 : Int64} {x6 : Int32} {x7 : Int32} {x8 : Int64} {x10 : Int32} {x11 : Int64}  (h : vwp E d M_X12_regret 187 [some (sl 6 0), some (wi x1), some (wi x2), some (wi x3), some (wj x4), none, some (wi x6), some (wi x7), some (wj x8), none, some (wi x10), some (wj x11), none] [wj x11] V (zj K)) : vwp E d M_X12_regret 180 [some (sl 6 0), some (wi x1), some (wi x2), some (wi x3), some (wj x4), none, some (wi x6), some (wi x7), some (wj x8), none, some (wi x10), some (wj x11), none] [] V (zj K) := by
  intro G A hR
  obtain ⟨L, P, rfl, hS⟩ := hR
  have hx := Xt.refl (V := pl G A L P) (A := A)
  show wp E d M_X12_regret 180 [some (vr (A 6 0)), some (vi x1), some (vi x2), some (vi x3), some (vj x4), none, some (vi x6), some (vi x7), some (vj x8), none, some (vi x10), some (vj x11), none] [] G _
  refine v_X12_regret_180 ?_
  exact wp.mono (h G A ⟨L, P, rfl, hS⟩) (fun r G' q => qx_trans hx q)
theorem w_X12_regret_187 {E : EE} {d : Nat} {V : VH} {K : Int64 → VH → Prop} {x1 : Int32} {x2 : Int32} {x3 : Int32} {x4 : Int64} {x6 : Int32} {x7 : Int32} {x8 : Int64} {x10 : Int32} {x11 : Int64} {t0 : Int64}  (h : vwp E d M_X12_regret 45 [some (sl 6 0), some (wi x1), some (wi x2), some (wi x3), some (wj t0), none, some (wi x6), some (wi (x7 + 1)), none, none, none, none, none] [] V (zj K)) : vwp E d M_X12_regret 187 [some (sl 6 0), some (wi x1), some (wi x2), some (wi x3), some (wj x4), none, some (wi x6), some (wi x7), some (wj x8), none, some (wi x10), some (wj x11), none] [wj t0] V (zj K) := by
  intro G A hR
  obtain ⟨L, P, rfl, hS⟩ := hR
  have hx := Xt.refl (V := pl G A L P) (A := A)
  show wp E d M_X12_regret 187 [some (vr (A 6 0)), some (vi x1), some (vi x2), some (vi x3), some (vj x4), none, some (vi x6), some (vi x7), some (vj x8), none, some (vi x10), some (vj x11), none] [vj t0] G _
  refine v_X12_regret_187 ?_
  exact wp.mono (h G A ⟨L, P, rfl, hS⟩) (fun r G' q => qx_trans hx q)
theorem w_X12_regret_195 {E : EE} {d : Nat} {V : VH} {K : Int64 → VH → Prop} {x1 : Int32} {x2 : Int32} {x3 : Int32} {x4 : Int64} {x6 : Int32} {x7 : Int32}  (h : (x6 = 0 → K (-9223372036854775808) V) ∧ (¬ (x6 = 0) → K x4 V)) : vwp E d M_X12_regret 195 [some (sl 6 0), some (wi x1), some (wi x2), some (wi x3), some (wj x4), none, some (wi x6), some (wi x7), none, none, none, none, none] [] V (zj K) := by
  intro G A hR
  obtain ⟨L, P, rfl, hS⟩ := hR
  have hx := Xt.refl (V := pl G A L P) (A := A)
  show wp E d M_X12_regret 195 [some (vr (A 6 0)), some (vi x1), some (vi x2), some (vi x3), some (vj x4), none, some (vi x6), some (vi x7), none, none, none, none, none] [] G _
  refine v_X12_regret_195 ?_
  refine ⟨fun hc => ?_, fun hc => ?_⟩
  · have h := h.1 hc
    exact qx_j hS hx h
  · have h := h.2 hc
    exact qx_j hS hx h
theorem w_X12_isLevel_0 {E : EE} {d : Nat} {V : VH} {K : Int32 → VH → Prop} {x0 : Int32}  (h : (x0 < 0 → K 0 V) ∧ (¬ (x0 < 0) → (3 ≤ x0 → K 0 V) ∧ (¬ (3 ≤ x0) → K 1 V))) : vMI E d M_X12_isLevel [wi x0] V K := by
  intro G A hR
  obtain ⟨L, P, rfl, hS⟩ := hR
  have hx := Xt.refl (V := pl G A L P) (A := A)
  show wpM E d M_X12_isLevel [vi x0] G _
  refine wpM_of mk_X12_isLevel (Nat.le_of_ble_eq_true rfl) ?_
  refine v_X12_isLevel_0 ?_
  refine ⟨fun hc => ?_, fun hc => ?_⟩
  · have h := h.1 hc
    exact qx_i hS hx h
  · have h := h.2 hc
    refine ⟨fun hc => ?_, fun hc => ?_⟩
    · have h := h.1 hc
      exact qx_i hS hx h
    · have h := h.2 hc
      exact qx_i hS hx h
theorem w_X12_expected_0 {E : EE} {d : Nat} {V : VH} {K : Int64 → VH → Prop} {x1 : Int32} {x2 : Int32}  (h0 : 0 < d) (h : vMI E (d - 1) M_X12_isProblem [sl 6 0, wi x1] V (fun r1 V1 => (r1 = 0 → K (-9223372036854775808) V1) ∧ (¬ (r1 = 0) → vMI E (d - 1) M_X12_isLevel [wi x2] V1 (fun r3 V3 => (r3 = 0 → K (-9223372036854775808) V3) ∧ (¬ (r3 = 0) → vp_in x1 5 ∧ ((¬ (vI V3 6 29 (Int32.toNatClampNeg x1)) = 0 → vMI E (d - 1) M_X12_handOf [sl 6 0, wi x1] V3 (fun r6 V6 => ∀ V8 : VH, V8 = wrI V6 6 0 62 (-1) → vwp E d M_X12_expected 48 [some (sl 6 0), some (wi x1), some (wi x2), some (wi r6), some (wj 0), none, some (wj 0), none, some (wi 0)] [] V8 (zj K))) ∧ ((vI V3 6 29 (Int32.toNatClampNeg x1)) = 0 → K (-9223372036854775808) V3))))))) : vMJ E d M_X12_expected [sl 6 0, wi x1, wi x2] V K := by
  intro G A hR
  obtain ⟨L, P, rfl, hS⟩ := hR
  have hx := Xt.refl (V := pl G A L P) (A := A)
  show wpM E d M_X12_expected [vr (A 6 0), vi x1, vi x2] G _
  refine wpM_of mk_X12_expected (Nat.le_of_ble_eq_true rfl) ?_
  refine v_X12_expected_0 h0 ?_
  refine ⟨hS.o (s6_0 hS), ?_⟩
  refine wpM.mono (h G A ⟨L, P, rfl, hS⟩) (fun rr1 G1 hr => ?_)
  obtain ⟨A1, W1, w1, ⟨L1, P1, rfl, hS1⟩, hy1, rfl, r1, rfl, h⟩ := hr
  refine ⟨r1, rfl, ?_⟩
  have hx1 := Xt.trans hx hy1
  have ee2 : A1 6 0 = A 6 0 := hy1.2 _ _ hS.1.2.1 (((n6_0 hS1)).trans ((n6_0 hS)).symm)
  try rw [← ee2]
  refine ⟨fun hc => ?_, fun hc => ?_⟩
  · have h := h.1 hc
    exact qx_j hS1 hx1 h
  · have h := h.2 hc
    refine wpM.mono (h G1 A1 ⟨L1, P1, rfl, hS1⟩) (fun rr3 G3 hr => ?_)
    obtain ⟨A3, W3, w3, ⟨L3, P3, rfl, hS3⟩, hy3, rfl, r3, rfl, h⟩ := hr
    refine ⟨r3, rfl, ?_⟩
    have hx3 := Xt.trans hx1 hy3
    have ee4 : A3 6 0 = A1 6 0 := hy3.2 _ _ hS1.1.2.1 (((n6_0 hS3)).trans ((n6_0 hS1)).symm)
    try rw [← ee4]
    refine ⟨fun hc => ?_, fun hc => ?_⟩
    · have h := h.1 hc
      exact qx_j hS3 hx3 h
    · have h := h.2 hc
      refine ⟨hS3.o (s6_0 hS3), ?_⟩
      rw [l6_0_32 hS3]
      refine ⟨hS3.o (s6_29 hS3), ?_⟩
      obtain ⟨hi5, h⟩ := h
      refine ⟨by first | (rw [(n6_29 hS3)]; exact hi5) | exact (congrArg (vp_in _) (n6_29 hS3)).mpr hi5 | exact hi5, ?_⟩
      refine ⟨fun hc => ?_, fun hc => ?_⟩
      · have h := h.1 hc
        refine wpM.mono (h G3 A3 ⟨L3, P3, rfl, hS3⟩) (fun rr6 G6 hr => ?_)
        obtain ⟨A6, W6, w6, ⟨L6, P6, rfl, hS6⟩, hy6, rfl, r6, rfl, h⟩ := hr
        refine ⟨r6, rfl, ?_⟩
        have hx6 := Xt.trans hx3 hy6
        have ee7 : A6 6 0 = A3 6 0 := hy6.2 _ _ hS3.1.2.1 (((n6_0 hS6)).trans ((n6_0 hS3)).symm)
        try rw [← ee7]
        refine ⟨hS6.o (s6_0 hS6), ?_⟩
        have hS8 : Sh E (sI G6 (A6 6 0) 62 (-1)) A6 L6 P6 := Sh_sI (rfl : sI G6 (A6 6 0) 62 (-1) = sI G6 (A6 6 0) 62 (-1)) hS6 (s6_0 hS6) (okT_0 rfl)
        have h := h (pl (sI G6 (A6 6 0) 62 (-1)) A6 L6 P6) (pl_sI (rfl : sI G6 (A6 6 0) 62 (-1) = sI G6 (A6 6 0) 62 (-1)) hS6 (s6_0 hS6))
        have hx8 : Xt (pl G A L P) A (pl (sI G6 (A6 6 0) 62 (-1)) A6 L6 P6) A6 := Xt_sI (rfl : sI G6 (A6 6 0) 62 (-1) = sI G6 (A6 6 0) 62 (-1)) hx6
        exact wp.mono (h (sI G6 (A6 6 0) 62 (-1)) A6 ⟨L6, P6, rfl, hS8⟩) (fun r G' q => qx_trans hx8 q)
      · have h := h.2 hc
        exact qx_j hS3 hx3 h
theorem w_X12_expected_48 {E : EE} {d : Nat} {V : VH} {K : Int64 → VH → Prop} {x1 : Int32} {x2 : Int32} {x3 : Int32} {x4 : Int64} {x6 : Int64} {x8 : Int32}  (h0 : 0 < d) (h : vp_in x1 5 ∧ (((vI V 6 29 (Int32.toNatClampNeg x1)) ≤ x8 → vMV E (d - 1) M_X12_show [sl 6 0, wj x4, wj x6] V (fun V2 => K x4 V2)) ∧ (¬ ((vI V 6 29 (Int32.toNatClampNeg x1)) ≤ x8) → vMV E (d - 1) M_X12_takeFacts [sl 6 0, wi x1, wi x8] V (fun V4 => vMV E (d - 1) M_X12_weighPlan [sl 6 0, wi x1, wi x3] V4 (fun V6 => vp_in ((6 * x1) + x8) 30 ∧ (vp_in ((20000 * x2) + x3) 60000 ∧ (vp_in ((6 * x1) + x8) 30 ∧ (vwp E d M_X12_expected 48 [some (sl 6 0), some (wi x1), some (wi x2), some (wi x3), some (wj (x4 + ((Int32.toInt64 (vI V6 6 30 (Int32.toNatClampNeg ((6 * x1) + x8)))) * (vJ V6 6 45 (Int32.toNatClampNeg ((20000 * x2) + x3)))))), none, some (wj (x6 + (Int32.toInt64 (vI V6 6 30 (Int32.toNatClampNeg ((6 * x1) + x8)))))), none, some (wi (x8 + 1))] [] V6 (zj K))))))))) : vwp E d M_X12_expected 48 [some (sl 6 0), some (wi x1), some (wi x2), some (wi x3), some (wj x4), none, some (wj x6), none, some (wi x8)] [] V (zj K) := by
  intro G A hR
  obtain ⟨L, P, rfl, hS⟩ := hR
  have hx := Xt.refl (V := pl G A L P) (A := A)
  show wp E d M_X12_expected 48 [some (vr (A 6 0)), some (vi x1), some (vi x2), some (vi x3), some (vj x4), none, some (vj x6), none, some (vi x8)] [] G _
  refine v_X12_expected_48 h0 ?_
  refine ⟨hS.o (s6_0 hS), ?_⟩
  rw [l6_0_32 hS]
  refine ⟨hS.o (s6_29 hS), ?_⟩
  obtain ⟨hi1, h⟩ := h
  refine ⟨by first | (rw [(n6_29 hS)]; exact hi1) | exact (congrArg (vp_in _) (n6_29 hS)).mpr hi1 | exact hi1, ?_⟩
  refine ⟨fun hc => ?_, fun hc => ?_⟩
  · have h := h.1 hc
    refine wpM.mono (h G A ⟨L, P, rfl, hS⟩) (fun rr2 G2 hr => ?_)
    obtain ⟨A2, W2, w2, ⟨L2, P2, rfl, hS2⟩, hy2, rfl, rfl, h⟩ := hr
    refine ⟨rfl, ?_⟩
    have hx2 := Xt.trans hx hy2
    have ee3 : A2 6 0 = A 6 0 := hy2.2 _ _ hS.1.2.1 (((n6_0 hS2)).trans ((n6_0 hS)).symm)
    try rw [← ee3]
    exact qx_j hS2 hx2 h
  · have h := h.2 hc
    refine wpM.mono (h G A ⟨L, P, rfl, hS⟩) (fun rr4 G4 hr => ?_)
    obtain ⟨A4, W4, w4, ⟨L4, P4, rfl, hS4⟩, hy4, rfl, rfl, h⟩ := hr
    refine ⟨rfl, ?_⟩
    have hx4 := Xt.trans hx hy4
    have ee5 : A4 6 0 = A 6 0 := hy4.2 _ _ hS.1.2.1 (((n6_0 hS4)).trans ((n6_0 hS)).symm)
    try rw [← ee5]
    refine ⟨hS4.o (s6_0 hS4), ?_⟩
    refine wpM.mono (h G4 A4 ⟨L4, P4, rfl, hS4⟩) (fun rr6 G6 hr => ?_)
    obtain ⟨A6, W6, w6, ⟨L6, P6, rfl, hS6⟩, hy6, rfl, rfl, h⟩ := hr
    refine ⟨rfl, ?_⟩
    have hx6 := Xt.trans hx4 hy6
    have ee7 : A6 6 0 = A4 6 0 := hy6.2 _ _ hS4.1.2.1 (((n6_0 hS6)).trans ((n6_0 hS4)).symm)
    try rw [← ee7]
    refine ⟨hS6.o (s6_0 hS6), ?_⟩
    rw [l6_0_33 hS6]
    refine ⟨hS6.o (s6_30 hS6), ?_⟩
    obtain ⟨hi8, h⟩ := h
    refine ⟨by first | (rw [(n6_30 hS6)]; exact hi8) | exact (congrArg (vp_in _) (n6_30 hS6)).mpr hi8 | exact hi8, ?_⟩
    rw [l6_0_66 hS6]
    refine ⟨hS6.o (s6_45 hS6), ?_⟩
    obtain ⟨hi9, h⟩ := h
    refine ⟨by first | (rw [(n6_45 hS6)]; exact hi9) | exact (congrArg (vp_in _) (n6_45 hS6)).mpr hi9 | exact hi9, ?_⟩
    obtain ⟨hi10, h⟩ := h
    refine ⟨by first | (rw [(n6_30 hS6)]; exact hi10) | exact (congrArg (vp_in _) (n6_30 hS6)).mpr hi10 | exact hi10, ?_⟩
    exact wp.mono (h G6 A6 ⟨L6, P6, rfl, hS6⟩) (fun r G' q => qx_trans hx6 q)
theorem w_X12_show_0 {E : EE} {d : Nat} {V : VH} {K : VH → Prop} {x1 : Int64} {x3 : Int64}  (h : (0 ≤ x1 → vwp E d M_X12_show 12 [some (sl 6 0), some (wj x1), none, some (wj x3), none, none, none, none, none, none, none] [wj x1] V (zv K)) ∧ (¬ (0 ≤ x1) → vwp E d M_X12_show 12 [some (sl 6 0), some (wj x1), none, some (wj x3), none, none, none, none, none, none, none] [wj (-x1)] V (zv K))) : vMV E d M_X12_show [sl 6 0, wj x1, wj x3] V K := by
  intro G A hR
  obtain ⟨L, P, rfl, hS⟩ := hR
  have hx := Xt.refl (V := pl G A L P) (A := A)
  show wpM E d M_X12_show [vr (A 6 0), vj x1, vj x3] G _
  refine wpM_of mk_X12_show (Nat.le_of_ble_eq_true rfl) ?_
  refine v_X12_show_0 ?_
  refine ⟨fun hc => ?_, fun hc => ?_⟩
  · have h := h.1 hc
    exact wp.mono (h G A ⟨L, P, rfl, hS⟩) (fun r G' q => qx_trans hx q)
  · have h := h.2 hc
    exact wp.mono (h G A ⟨L, P, rfl, hS⟩) (fun r G' q => qx_trans hx q)
theorem w_X12_show_12 {E : EE} {d : Nat} {V : VH} {K : VH → Prop} {x1 : Int64} {x3 : Int64} {t0 : Int64}  (h : vwp E d M_X12_show 17 [some (sl 6 0), some (wj x1), none, some (wj x3), none, some (wj t0), none, some (wj x3), none, none, none] [] V (zv K)) : vwp E d M_X12_show 12 [some (sl 6 0), some (wj x1), none, some (wj x3), none, none, none, none, none, none, none] [wj t0] V (zv K) := by
  intro G A hR
  obtain ⟨L, P, rfl, hS⟩ := hR
  have hx := Xt.refl (V := pl G A L P) (A := A)
  show wp E d M_X12_show 12 [some (vr (A 6 0)), some (vj x1), none, some (vj x3), none, none, none, none, none, none, none] [vj t0] G _
  refine v_X12_show_12 ?_
  exact wp.mono (h G A ⟨L, P, rfl, hS⟩) (fun r G' q => qx_trans hx q)
theorem w_X12_show_17 {E : EE} {d : Nat} {V : VH} {K : VH → Prop} {x1 : Int64} {x3 : Int64} {x5 : Int64} {x7 : Int64}  (h : (x7 = 0 → ¬ x5 = 0 ∧ (∀ V2 : VH, V2 = wrJ V 6 0 2 (x1 / x5) → ¬ x5 = 0 ∧ (∀ V4 : VH, V4 = wrJ V2 6 0 3 (x3 / x5) → K V4))) ∧ (¬ (x7 = 0) → ¬ x7 = 0 ∧ (vwp E d M_X12_show 17 [some (sl 6 0), some (wj x1), none, some (wj x3), none, some (wj x7), none, some (wj (x5 - x5 / x7 * x7)), none, none, none] [] V (zv K)))) : vwp E d M_X12_show 17 [some (sl 6 0), some (wj x1), none, some (wj x3), none, some (wj x5), none, some (wj x7), none, none, none] [] V (zv K) := by
  intro G A hR
  obtain ⟨L, P, rfl, hS⟩ := hR
  have hx := Xt.refl (V := pl G A L P) (A := A)
  show wp E d M_X12_show 17 [some (vr (A 6 0)), some (vj x1), none, some (vj x3), none, some (vj x5), none, some (vj x7), none, none, none] [] G _
  refine v_X12_show_17 ?_
  refine ⟨fun hc => ?_, fun hc => ?_⟩
  · have h := h.1 hc
    obtain ⟨hz1, h⟩ := h
    refine ⟨hz1, ?_⟩
    refine ⟨hS.o (s6_0 hS), ?_⟩
    intro G2 eG2
    have hS2 : Sh E G2 A L P := Sh_sJ eG2 hS
    have h := h (pl G2 A L P) (pl_sJ eG2 hS (s6_0 hS))
    have hx2 : Xt (pl G A L P) A (pl G2 A L P) A := Xt_sJ eG2 hx
    obtain ⟨hz3, h⟩ := h
    refine ⟨hz3, ?_⟩
    intro G4 eG4
    have hS4 : Sh E G4 A L P := Sh_sJ eG4 hS2
    have h := h (pl G4 A L P) (pl_sJ eG4 hS2 (s6_0 hS2))
    have hx4 : Xt (pl G A L P) A (pl G4 A L P) A := Xt_sJ eG4 hx2
    exact qx_v hS4 hx4 h
  · have h := h.2 hc
    obtain ⟨hz5, h⟩ := h
    refine ⟨hz5, ?_⟩
    exact wp.mono (h G A ⟨L, P, rfl, hS⟩) (fun r G' q => qx_trans hx q)
theorem w_X12_robust_0 {E : EE} {d : Nat} {V : VH} {K : Int32 → VH → Prop} {x1 : Int32}  (h0 : 0 < d) (h : vMI E (d - 1) M_X12_isProblem [sl 6 0, wi x1] V (fun r1 V1 => (¬ r1 = 0 → vp_in x1 5 ∧ ((¬ (vI V1 6 29 (Int32.toNatClampNeg x1)) = 0 → vwp E d M_X12_robust 23 [some (sl 6 0), some (wi x1), some (wi 0), none, none] [] V1 (zi K)) ∧ ((vI V1 6 29 (Int32.toNatClampNeg x1)) = 0 → K 0 V1))) ∧ (r1 = 0 → K (-1) V1))) : vMI E d M_X12_robust [sl 6 0, wi x1] V K := by
  intro G A hR
  obtain ⟨L, P, rfl, hS⟩ := hR
  have hx := Xt.refl (V := pl G A L P) (A := A)
  show wpM E d M_X12_robust [vr (A 6 0), vi x1] G _
  refine wpM_of mk_X12_robust (Nat.le_of_ble_eq_true rfl) ?_
  refine v_X12_robust_0 h0 ?_
  refine ⟨hS.o (s6_0 hS), ?_⟩
  refine wpM.mono (h G A ⟨L, P, rfl, hS⟩) (fun rr1 G1 hr => ?_)
  obtain ⟨A1, W1, w1, ⟨L1, P1, rfl, hS1⟩, hy1, rfl, r1, rfl, h⟩ := hr
  refine ⟨r1, rfl, ?_⟩
  have hx1 := Xt.trans hx hy1
  have ee2 : A1 6 0 = A 6 0 := hy1.2 _ _ hS.1.2.1 (((n6_0 hS1)).trans ((n6_0 hS)).symm)
  try rw [← ee2]
  refine ⟨fun hc => ?_, fun hc => ?_⟩
  · have h := h.1 hc
    refine ⟨hS1.o (s6_0 hS1), ?_⟩
    rw [l6_0_32 hS1]
    refine ⟨hS1.o (s6_29 hS1), ?_⟩
    obtain ⟨hi3, h⟩ := h
    refine ⟨by first | (rw [(n6_29 hS1)]; exact hi3) | exact (congrArg (vp_in _) (n6_29 hS1)).mpr hi3 | exact hi3, ?_⟩
    refine ⟨fun hc => ?_, fun hc => ?_⟩
    · have h := h.1 hc
      exact wp.mono (h G1 A1 ⟨L1, P1, rfl, hS1⟩) (fun r G' q => qx_trans hx1 q)
    · have h := h.2 hc
      exact qx_i hS1 hx1 h
  · have h := h.2 hc
    exact qx_i hS1 hx1 h
theorem w_X12_robust_23 {E : EE} {d : Nat} {V : VH} {K : Int32 → VH → Prop} {x1 : Int32} {x2 : Int32}  (h0 : 0 < d) (h : vp_in x1 5 ∧ (((vI V 6 22 (Int32.toNatClampNeg x1)) ≤ x2 → vwp E d M_X12_robust 71 [some (sl 6 0), some (wi x1), some (wi 0), none, none] [] V (zi K)) ∧ (¬ ((vI V 6 22 (Int32.toNatClampNeg x1)) ≤ x2) → vp_in x2 40000 ∧ (∀ V3 : VH, V3 = wrJ V 6 50 (Int32.toNatClampNeg x2) 0 → vp_in (20000 + x2) 40000 ∧ (∀ V5 : VH, V5 = wrJ V3 6 50 (Int32.toNatClampNeg (20000 + x2)) 0 → vMI E (d - 1) M_X12_isAllowed [sl 6 0, wi x1, wi x2] V5 (fun r6 V6 => vp_in x2 20000 ∧ (∀ V10 : VH, V10 = wrI V6 6 51 (Int32.toNatClampNeg x2) (nz r6) → vwp E d M_X12_robust 23 [some (sl 6 0), some (wi x1), some (wi (x2 + 1)), none, none] [] V10 (zi K)))))))) : vwp E d M_X12_robust 23 [some (sl 6 0), some (wi x1), some (wi x2), none, none] [] V (zi K) := by
  intro G A hR
  obtain ⟨L, P, rfl, hS⟩ := hR
  have hx := Xt.refl (V := pl G A L P) (A := A)
  show wp E d M_X12_robust 23 [some (vr (A 6 0)), some (vi x1), some (vi x2), none, none] [] G _
  refine v_X12_robust_23 h0 ?_
  refine ⟨hS.o (s6_0 hS), ?_⟩
  rw [l6_0_25 hS]
  refine ⟨hS.o (s6_22 hS), ?_⟩
  obtain ⟨hi1, h⟩ := h
  refine ⟨by first | (rw [(n6_22 hS)]; exact hi1) | exact (congrArg (vp_in _) (n6_22 hS)).mpr hi1 | exact hi1, ?_⟩
  refine ⟨fun hc => ?_, fun hc => ?_⟩
  · have h := h.1 hc
    exact wp.mono (h G A ⟨L, P, rfl, hS⟩) (fun r G' q => qx_trans hx q)
  · have h := h.2 hc
    rw [l6_0_74 hS]
    refine ⟨hS.o (s6_50 hS), ?_⟩
    obtain ⟨hi2, h⟩ := h
    refine ⟨by first | (rw [(n6_50 hS)]; exact hi2) | exact (congrArg (vp_in _) (n6_50 hS)).mpr hi2 | exact hi2, ?_⟩
    intro G3 eG3
    have hS3 : Sh E G3 A L P := Sh_sJ eG3 hS
    have h := h (pl G3 A L P) (pl_sJ eG3 hS (s6_50 hS))
    have hx3 : Xt (pl G A L P) A (pl G3 A L P) A := Xt_sJ eG3 hx
    rw [l6_0_74 hS3]
    refine ⟨hS3.o (s6_50 hS3), ?_⟩
    obtain ⟨hi4, h⟩ := h
    refine ⟨by first | (rw [(n6_50 hS3)]; exact hi4) | exact (congrArg (vp_in _) (n6_50 hS3)).mpr hi4 | exact hi4, ?_⟩
    intro G5 eG5
    have hS5 : Sh E G5 A L P := Sh_sJ eG5 hS3
    have h := h (pl G5 A L P) (pl_sJ eG5 hS3 (s6_50 hS3))
    have hx5 : Xt (pl G A L P) A (pl G5 A L P) A := Xt_sJ eG5 hx3
    rw [l6_0_75 hS5]
    refine wpM.mono (h G5 A ⟨L, P, rfl, hS5⟩) (fun rr6 G6 hr => ?_)
    obtain ⟨A6, W6, w6, ⟨L6, P6, rfl, hS6⟩, hy6, rfl, r6, rfl, h⟩ := hr
    refine ⟨r6, rfl, ?_⟩
    have hx6 := Xt.trans hx5 hy6
    have ee7 : A6 6 0 = A 6 0 := hy6.2 _ _ hS5.1.2.1 (((n6_0 hS6)).trans ((n6_0 hS5)).symm)
    try rw [← ee7]
    have ee8 : A6 6 51 = A 6 51 := hy6.2 _ _ hS5.1.2.1 (((n6_51 hS6)).trans ((n6_51 hS5)).symm)
    try rw [← ee8]
    refine ⟨hS6.o (s6_51 hS6), ?_⟩
    obtain ⟨hi9, h⟩ := h
    refine ⟨by first | (rw [(n6_51 hS6)]; exact hi9) | exact (congrArg (vp_in _) (n6_51 hS6)).mpr hi9 | exact hi9, ?_⟩
    intro G10 eG10
    have hS10 : Sh E G10 A6 L6 P6 := Sh_sI eG10 hS6 (s6_51 hS6) (okT_nz rfl)
    have h := h (pl G10 A6 L6 P6) (pl_sI eG10 hS6 (s6_51 hS6))
    have hx10 : Xt (pl G A L P) A (pl G10 A6 L6 P6) A6 := Xt_sI eG10 hx6
    exact wp.mono (h G10 A6 ⟨L6, P6, rfl, hS10⟩) (fun r G' q => qx_trans hx10 q)
theorem w_X12_robust_71 {E : EE} {d : Nat} {V : VH} {K : Int32 → VH → Prop} {x1 : Int32} {x2 : Int32}  (h0 : 0 < d) (h : vp_in x1 5 ∧ (((vI V 6 29 (Int32.toNatClampNeg x1)) ≤ x2 → vwp E d M_X12_robust 210 [some (sl 6 0), some (wi x1), some (wi (-1)), some (wi 0), none] [] V (zi K)) ∧ (¬ ((vI V 6 29 (Int32.toNatClampNeg x1)) ≤ x2) → vMV E (d - 1) M_X12_weighAll [sl 6 0, wi x1, wi x2] V (fun V2 => vwp E d M_X12_robust 89 [some (sl 6 0), some (wi x1), some (wi x2), some (wi 0), none] [] V2 (zi K))))) : vwp E d M_X12_robust 71 [some (sl 6 0), some (wi x1), some (wi x2), none, none] [] V (zi K) := by
  intro G A hR
  obtain ⟨L, P, rfl, hS⟩ := hR
  have hx := Xt.refl (V := pl G A L P) (A := A)
  show wp E d M_X12_robust 71 [some (vr (A 6 0)), some (vi x1), some (vi x2), none, none] [] G _
  refine v_X12_robust_71 h0 ?_
  refine ⟨hS.o (s6_0 hS), ?_⟩
  rw [l6_0_32 hS]
  refine ⟨hS.o (s6_29 hS), ?_⟩
  obtain ⟨hi1, h⟩ := h
  refine ⟨by first | (rw [(n6_29 hS)]; exact hi1) | exact (congrArg (vp_in _) (n6_29 hS)).mpr hi1 | exact hi1, ?_⟩
  refine ⟨fun hc => ?_, fun hc => ?_⟩
  · have h := h.1 hc
    exact wp.mono (h G A ⟨L, P, rfl, hS⟩) (fun r G' q => qx_trans hx q)
  · have h := h.2 hc
    refine wpM.mono (h G A ⟨L, P, rfl, hS⟩) (fun rr2 G2 hr => ?_)
    obtain ⟨A2, W2, w2, ⟨L2, P2, rfl, hS2⟩, hy2, rfl, rfl, h⟩ := hr
    refine ⟨rfl, ?_⟩
    have hx2 := Xt.trans hx hy2
    have ee3 : A2 6 0 = A 6 0 := hy2.2 _ _ hS.1.2.1 (((n6_0 hS2)).trans ((n6_0 hS)).symm)
    try rw [← ee3]
    exact wp.mono (h G2 A2 ⟨L2, P2, rfl, hS2⟩) (fun r G' q => qx_trans hx2 q)
theorem w_X12_robust_89 {E : EE} {d : Nat} {V : VH} {K : Int32 → VH → Prop} {x1 : Int32} {x2 : Int32} {x3 : Int32}  (h0 : 0 < d) (h : vp_in x1 5 ∧ (((vI V 6 22 (Int32.toNatClampNeg x1)) ≤ x3 → vwp E d M_X12_robust 71 [some (sl 6 0), some (wi x1), some (wi (x2 + 1)), none, none] [] V (zi K)) ∧ (¬ ((vI V 6 22 (Int32.toNatClampNeg x1)) ≤ x3) → vp_in x3 40000 ∧ (vp_in ((6 * x1) + x2) 30 ∧ (vp_in (20000 + x3) 60000 ∧ (vp_in x3 40000 ∧ (∀ V6 : VH, V6 = wrJ V 6 50 (Int32.toNatClampNeg x3) ((vJ V 6 50 (Int32.toNatClampNeg x3)) + ((Int32.toInt64 (vI V 6 30 (Int32.toNatClampNeg ((6 * x1) + x2)))) * (vJ V 6 45 (Int32.toNatClampNeg (20000 + x3))))) → vp_in (20000 + x3) 40000 ∧ (vp_in ((6 * x1) + x2) 30 ∧ (vp_in (40000 + x3) 60000 ∧ (vp_in (20000 + x3) 40000 ∧ (∀ V11 : VH, V11 = wrJ V6 6 50 (Int32.toNatClampNeg (20000 + x3)) ((vJ V6 6 50 (Int32.toNatClampNeg (20000 + x3))) + ((Int32.toInt64 (vI V6 6 30 (Int32.toNatClampNeg ((6 * x1) + x2)))) * (vJ V6 6 45 (Int32.toNatClampNeg (40000 + x3))))) → vp_in x3 20000 ∧ (((vI V11 6 51 (Int32.toNatClampNeg x3)) = 0 → vwp E d M_X12_robust 192 [some (sl 6 0), some (wi x1), some (wi x2), some (wi x3), none] [wi x3, sl 6 51] V11 (zi K)) ∧ (¬ ((vI V11 6 51 (Int32.toNatClampNeg x3)) = 0) → vMI E (d - 1) M_X12_isFeasible [sl 6 0, wi x3] V11 (fun r13 V13 => (r13 = 0 → vwp E d M_X12_robust 192 [some (sl 6 0), some (wi x1), some (wi x2), some (wi x3), none] [wi x3, sl 6 51] V13 (zi K)) ∧ (¬ (r13 = 0) → vwp E d M_X12_robust 193 [some (sl 6 0), some (wi x1), some (wi x2), some (wi x3), none] [wi 1, wi x3, sl 6 51] V13 (zi K)))))))))))))))) : vwp E d M_X12_robust 89 [some (sl 6 0), some (wi x1), some (wi x2), some (wi x3), none] [] V (zi K) := by
  intro G A hR
  obtain ⟨L, P, rfl, hS⟩ := hR
  have hx := Xt.refl (V := pl G A L P) (A := A)
  show wp E d M_X12_robust 89 [some (vr (A 6 0)), some (vi x1), some (vi x2), some (vi x3), none] [] G _
  refine v_X12_robust_89 h0 ?_
  refine ⟨hS.o (s6_0 hS), ?_⟩
  rw [l6_0_25 hS]
  refine ⟨hS.o (s6_22 hS), ?_⟩
  obtain ⟨hi1, h⟩ := h
  refine ⟨by first | (rw [(n6_22 hS)]; exact hi1) | exact (congrArg (vp_in _) (n6_22 hS)).mpr hi1 | exact hi1, ?_⟩
  refine ⟨fun hc => ?_, fun hc => ?_⟩
  · have h := h.1 hc
    exact wp.mono (h G A ⟨L, P, rfl, hS⟩) (fun r G' q => qx_trans hx q)
  · have h := h.2 hc
    rw [l6_0_74 hS]
    refine ⟨hS.o (s6_50 hS), ?_⟩
    obtain ⟨hi2, h⟩ := h
    refine ⟨by first | (rw [(n6_50 hS)]; exact hi2) | exact (congrArg (vp_in _) (n6_50 hS)).mpr hi2 | exact hi2, ?_⟩
    rw [l6_0_33 hS]
    refine ⟨hS.o (s6_30 hS), ?_⟩
    obtain ⟨hi3, h⟩ := h
    refine ⟨by first | (rw [(n6_30 hS)]; exact hi3) | exact (congrArg (vp_in _) (n6_30 hS)).mpr hi3 | exact hi3, ?_⟩
    rw [l6_0_66 hS]
    refine ⟨hS.o (s6_45 hS), ?_⟩
    obtain ⟨hi4, h⟩ := h
    refine ⟨by first | (rw [(n6_45 hS)]; exact hi4) | exact (congrArg (vp_in _) (n6_45 hS)).mpr hi4 | exact hi4, ?_⟩
    obtain ⟨hi5, h⟩ := h
    refine ⟨by first | (rw [(n6_50 hS)]; exact hi5) | exact (congrArg (vp_in _) (n6_50 hS)).mpr hi5 | exact hi5, ?_⟩
    intro G6 eG6
    have hS6 : Sh E G6 A L P := Sh_sJ eG6 hS
    have h := h (pl G6 A L P) (pl_sJ eG6 hS (s6_50 hS))
    have hx6 : Xt (pl G A L P) A (pl G6 A L P) A := Xt_sJ eG6 hx
    rw [l6_0_74 hS6]
    refine ⟨hS6.o (s6_50 hS6), ?_⟩
    obtain ⟨hi7, h⟩ := h
    refine ⟨by first | (rw [(n6_50 hS6)]; exact hi7) | exact (congrArg (vp_in _) (n6_50 hS6)).mpr hi7 | exact hi7, ?_⟩
    rw [l6_0_33 hS6]
    refine ⟨hS6.o (s6_30 hS6), ?_⟩
    obtain ⟨hi8, h⟩ := h
    refine ⟨by first | (rw [(n6_30 hS6)]; exact hi8) | exact (congrArg (vp_in _) (n6_30 hS6)).mpr hi8 | exact hi8, ?_⟩
    rw [l6_0_66 hS6]
    refine ⟨hS6.o (s6_45 hS6), ?_⟩
    obtain ⟨hi9, h⟩ := h
    refine ⟨by first | (rw [(n6_45 hS6)]; exact hi9) | exact (congrArg (vp_in _) (n6_45 hS6)).mpr hi9 | exact hi9, ?_⟩
    obtain ⟨hi10, h⟩ := h
    refine ⟨by first | (rw [(n6_50 hS6)]; exact hi10) | exact (congrArg (vp_in _) (n6_50 hS6)).mpr hi10 | exact hi10, ?_⟩
    intro G11 eG11
    have hS11 : Sh E G11 A L P := Sh_sJ eG11 hS6
    have h := h (pl G11 A L P) (pl_sJ eG11 hS6 (s6_50 hS6))
    have hx11 : Xt (pl G A L P) A (pl G11 A L P) A := Xt_sJ eG11 hx6
    rw [l6_0_75 hS11]
    refine ⟨hS11.o (s6_51 hS11), ?_⟩
    obtain ⟨hi12, h⟩ := h
    refine ⟨by first | (rw [(n6_51 hS11)]; exact hi12) | exact (congrArg (vp_in _) (n6_51 hS11)).mpr hi12 | exact hi12, ?_⟩
    refine ⟨fun hc => ?_, fun hc => ?_⟩
    · have h := h.1 hc
      exact wp.mono (h G11 A ⟨L, P, rfl, hS11⟩) (fun r G' q => qx_trans hx11 q)
    · have h := h.2 hc
      refine wpM.mono (h G11 A ⟨L, P, rfl, hS11⟩) (fun rr13 G13 hr => ?_)
      obtain ⟨A13, W13, w13, ⟨L13, P13, rfl, hS13⟩, hy13, rfl, r13, rfl, h⟩ := hr
      refine ⟨r13, rfl, ?_⟩
      have hx13 := Xt.trans hx11 hy13
      have ee14 : A13 6 0 = A 6 0 := hy13.2 _ _ hS11.1.2.1 (((n6_0 hS13)).trans ((n6_0 hS11)).symm)
      try rw [← ee14]
      have ee15 : A13 6 51 = A 6 51 := hy13.2 _ _ hS11.1.2.1 (((n6_51 hS13)).trans ((n6_51 hS11)).symm)
      try rw [← ee15]
      refine ⟨fun hc => ?_, fun hc => ?_⟩
      · have h := h.1 hc
        exact wp.mono (h G13 A13 ⟨L13, P13, rfl, hS13⟩) (fun r G' q => qx_trans hx13 q)
      · have h := h.2 hc
        exact wp.mono (h G13 A13 ⟨L13, P13, rfl, hS13⟩) (fun r G' q => qx_trans hx13 q)
theorem w_X12_robust_192 {E : EE} {d : Nat} {V : VH} {K : Int32 → VH → Prop} {x1 : Int32} {x2 : Int32} {x3 : Int32} {a90 f90 : Nat} {t1 : Int32} (hA90 : SL (vL V) a90 f90 16) (h : vwp E d M_X12_robust 193 [some (sl 6 0), some (wi x1), some (wi x2), some (wi x3), none] [wi 0, wi t1, sl a90 f90] V (zi K)) : vwp E d M_X12_robust 192 [some (sl 6 0), some (wi x1), some (wi x2), some (wi x3), none] [wi t1, sl a90 f90] V (zi K) := by
  intro G A hR
  obtain ⟨L, P, rfl, hS⟩ := hR
  have hx := Xt.refl (V := pl G A L P) (A := A)
  show wp E d M_X12_robust 192 [some (vr (A 6 0)), some (vi x1), some (vi x2), some (vi x3), none] [vi t1, vr (A a90 f90)] G _
  refine v_X12_robust_192 ?_
  exact wp.mono (h G A ⟨L, P, rfl, hS⟩) (fun r G' q => qx_trans hx q)
theorem w_X12_robust_193 {E : EE} {d : Nat} {V : VH} {K : Int32 → VH → Prop} {x1 : Int32} {x2 : Int32} {x3 : Int32} {a90 f90 : Nat} {t1 : Int32} {t2 : Int32} (hA90 : SL (vL V) a90 f90 16) (h : vp_in t1 (vN V a90 f90) ∧ (∀ V2 : VH, V2 = wrI V a90 f90 (Int32.toNatClampNeg t1) (nz t2) → vwp E d M_X12_robust 89 [some (sl 6 0), some (wi x1), some (wi x2), some (wi (x3 + 1)), none] [] V2 (zi K))) : vwp E d M_X12_robust 193 [some (sl 6 0), some (wi x1), some (wi x2), some (wi x3), none] [wi t2, wi t1, sl a90 f90] V (zi K) := by
  intro G A hR
  obtain ⟨L, P, rfl, hS⟩ := hR
  have hx := Xt.refl (V := pl G A L P) (A := A)
  show wp E d M_X12_robust 193 [some (vr (A 6 0)), some (vi x1), some (vi x2), some (vi x3), none] [vi t2, vi t1, vr (A a90 f90)] G _
  refine v_X12_robust_193 ?_
  refine ⟨hS.o hA90, ?_⟩
  obtain ⟨hi1, h⟩ := h
  refine ⟨hi1, ?_⟩
  have hS2 : Sh E (sI G (A a90 f90) (Int32.toNatClampNeg t1) (nz t2)) A L P := Sh_sI (rfl : sI G (A a90 f90) (Int32.toNatClampNeg t1) (nz t2) = sI G (A a90 f90) (Int32.toNatClampNeg t1) (nz t2)) hS hA90 (okT_nz rfl)
  have h := h (pl (sI G (A a90 f90) (Int32.toNatClampNeg t1) (nz t2)) A L P) (pl_sI (rfl : sI G (A a90 f90) (Int32.toNatClampNeg t1) (nz t2) = sI G (A a90 f90) (Int32.toNatClampNeg t1) (nz t2)) hS hA90)
  have hx2 : Xt (pl G A L P) A (pl (sI G (A a90 f90) (Int32.toNatClampNeg t1) (nz t2)) A L P) A := Xt_sI (rfl : sI G (A a90 f90) (Int32.toNatClampNeg t1) (nz t2) = sI G (A a90 f90) (Int32.toNatClampNeg t1) (nz t2)) hx
  exact wp.mono (h (sI G (A a90 f90) (Int32.toNatClampNeg t1) (nz t2)) A ⟨L, P, rfl, hS2⟩) (fun r G' q => qx_trans hx2 q)
theorem w_X12_robust_210 {E : EE} {d : Nat} {V : VH} {K : Int32 → VH → Prop} {x1 : Int32} {x2 : Int32} {x3 : Int32}  (h0 : 0 < d) (h : vp_in x1 5 ∧ (((vI V 6 22 (Int32.toNatClampNeg x1)) ≤ x3 → (0 ≤ x2 → vMV E (d - 1) M_X12_putAtHand [sl 6 0, wi x1, wi x2] V (fun V2 => K 1 V2)) ∧ (¬ (0 ≤ x2) → K 0 V)) ∧ (¬ ((vI V 6 22 (Int32.toNatClampNeg x1)) ≤ x3) → vp_in x3 20000 ∧ (((vI V 6 51 (Int32.toNatClampNeg x3)) = 0 → vwp E d M_X12_robust 293 [some (sl 6 0), some (wi x1), some (wi x2), some (wi x3), none] [] V (zi K)) ∧ (¬ ((vI V 6 51 (Int32.toNatClampNeg x3)) = 0) → (x2 < 0 → vwp E d M_X12_robust 289 [some (sl 6 0), some (wi x1), some (wi x2), some (wi x3), none] [] V (zi K)) ∧ (¬ (x2 < 0) → vp_in x3 40000 ∧ (vp_in x2 40000 ∧ (((vJ V 6 50 (Int32.toNatClampNeg x3)) < (vJ V 6 50 (Int32.toNatClampNeg x2)) → vwp E d M_X12_robust 289 [some (sl 6 0), some (wi x1), some (wi x2), some (wi x3), none] [] V (zi K)) ∧ (¬ ((vJ V 6 50 (Int32.toNatClampNeg x3)) < (vJ V 6 50 (Int32.toNatClampNeg x2))) → vp_in x3 40000 ∧ (vp_in x2 40000 ∧ ((¬ (vJ V 6 50 (Int32.toNatClampNeg x3)) = (vJ V 6 50 (Int32.toNatClampNeg x2)) → vwp E d M_X12_robust 293 [some (sl 6 0), some (wi x1), some (wi x2), some (wi x3), none] [] V (zi K)) ∧ ((vJ V 6 50 (Int32.toNatClampNeg x3)) = (vJ V 6 50 (Int32.toNatClampNeg x2)) → vp_in (20000 + x3) 40000 ∧ (vp_in (20000 + x2) 40000 ∧ (((vJ V 6 50 (Int32.toNatClampNeg (20000 + x2))) ≤ (vJ V 6 50 (Int32.toNatClampNeg (20000 + x3))) → vwp E d M_X12_robust 293 [some (sl 6 0), some (wi x1), some (wi x2), some (wi x3), none] [] V (zi K)) ∧ (¬ ((vJ V 6 50 (Int32.toNatClampNeg (20000 + x2))) ≤ (vJ V 6 50 (Int32.toNatClampNeg (20000 + x3)))) → vwp E d M_X12_robust 289 [some (sl 6 0), some (wi x1), some (wi x2), some (wi x3), none] [] V (zi K)))))))))))))))) : vwp E d M_X12_robust 210 [some (sl 6 0), some (wi x1), some (wi x2), some (wi x3), none] [] V (zi K) := by
  intro G A hR
  obtain ⟨L, P, rfl, hS⟩ := hR
  have hx := Xt.refl (V := pl G A L P) (A := A)
  show wp E d M_X12_robust 210 [some (vr (A 6 0)), some (vi x1), some (vi x2), some (vi x3), none] [] G _
  refine v_X12_robust_210 h0 ?_
  refine ⟨hS.o (s6_0 hS), ?_⟩
  rw [l6_0_25 hS]
  refine ⟨hS.o (s6_22 hS), ?_⟩
  obtain ⟨hi1, h⟩ := h
  refine ⟨by first | (rw [(n6_22 hS)]; exact hi1) | exact (congrArg (vp_in _) (n6_22 hS)).mpr hi1 | exact hi1, ?_⟩
  refine ⟨fun hc => ?_, fun hc => ?_⟩
  · have h := h.1 hc
    refine ⟨fun hc => ?_, fun hc => ?_⟩
    · have h := h.1 hc
      refine wpM.mono (h G A ⟨L, P, rfl, hS⟩) (fun rr2 G2 hr => ?_)
      obtain ⟨A2, W2, w2, ⟨L2, P2, rfl, hS2⟩, hy2, rfl, rfl, h⟩ := hr
      refine ⟨rfl, ?_⟩
      have hx2 := Xt.trans hx hy2
      have ee3 : A2 6 0 = A 6 0 := hy2.2 _ _ hS.1.2.1 (((n6_0 hS2)).trans ((n6_0 hS)).symm)
      try rw [← ee3]
      exact qx_i hS2 hx2 h
    · have h := h.2 hc
      exact qx_i hS hx h
  · have h := h.2 hc
    rw [l6_0_75 hS]
    refine ⟨hS.o (s6_51 hS), ?_⟩
    obtain ⟨hi4, h⟩ := h
    refine ⟨by first | (rw [(n6_51 hS)]; exact hi4) | exact (congrArg (vp_in _) (n6_51 hS)).mpr hi4 | exact hi4, ?_⟩
    refine ⟨fun hc => ?_, fun hc => ?_⟩
    · have h := h.1 hc
      exact wp.mono (h G A ⟨L, P, rfl, hS⟩) (fun r G' q => qx_trans hx q)
    · have h := h.2 hc
      refine ⟨fun hc => ?_, fun hc => ?_⟩
      · have h := h.1 hc
        exact wp.mono (h G A ⟨L, P, rfl, hS⟩) (fun r G' q => qx_trans hx q)
      · have h := h.2 hc
        rw [l6_0_74 hS]
        refine ⟨hS.o (s6_50 hS), ?_⟩
        obtain ⟨hi5, h⟩ := h
        refine ⟨by first | (rw [(n6_50 hS)]; exact hi5) | exact (congrArg (vp_in _) (n6_50 hS)).mpr hi5 | exact hi5, ?_⟩
        obtain ⟨hi6, h⟩ := h
        refine ⟨by first | (rw [(n6_50 hS)]; exact hi6) | exact (congrArg (vp_in _) (n6_50 hS)).mpr hi6 | exact hi6, ?_⟩
        refine ⟨fun hc => ?_, fun hc => ?_⟩
        · have h := h.1 hc
          exact wp.mono (h G A ⟨L, P, rfl, hS⟩) (fun r G' q => qx_trans hx q)
        · have h := h.2 hc
          obtain ⟨hi7, h⟩ := h
          refine ⟨by first | (rw [(n6_50 hS)]; exact hi7) | exact (congrArg (vp_in _) (n6_50 hS)).mpr hi7 | exact hi7, ?_⟩
          obtain ⟨hi8, h⟩ := h
          refine ⟨by first | (rw [(n6_50 hS)]; exact hi8) | exact (congrArg (vp_in _) (n6_50 hS)).mpr hi8 | exact hi8, ?_⟩
          refine ⟨fun hc => ?_, fun hc => ?_⟩
          · have h := h.1 hc
            exact wp.mono (h G A ⟨L, P, rfl, hS⟩) (fun r G' q => qx_trans hx q)
          · have h := h.2 hc
            obtain ⟨hi9, h⟩ := h
            refine ⟨by first | (rw [(n6_50 hS)]; exact hi9) | exact (congrArg (vp_in _) (n6_50 hS)).mpr hi9 | exact hi9, ?_⟩
            obtain ⟨hi10, h⟩ := h
            refine ⟨by first | (rw [(n6_50 hS)]; exact hi10) | exact (congrArg (vp_in _) (n6_50 hS)).mpr hi10 | exact hi10, ?_⟩
            refine ⟨fun hc => ?_, fun hc => ?_⟩
            · have h := h.1 hc
              exact wp.mono (h G A ⟨L, P, rfl, hS⟩) (fun r G' q => qx_trans hx q)
            · have h := h.2 hc
              exact wp.mono (h G A ⟨L, P, rfl, hS⟩) (fun r G' q => qx_trans hx q)
theorem w_X12_robust_289 {E : EE} {d : Nat} {V : VH} {K : Int32 → VH → Prop} {x1 : Int32} {x2 : Int32} {x3 : Int32}  (h : vwp E d M_X12_robust 294 [some (sl 6 0), some (wi x1), some (wi x2), some (wi x3), none] [wi 1] V (zi K)) : vwp E d M_X12_robust 289 [some (sl 6 0), some (wi x1), some (wi x2), some (wi x3), none] [] V (zi K) := by
  intro G A hR
  obtain ⟨L, P, rfl, hS⟩ := hR
  have hx := Xt.refl (V := pl G A L P) (A := A)
  show wp E d M_X12_robust 289 [some (vr (A 6 0)), some (vi x1), some (vi x2), some (vi x3), none] [] G _
  refine v_X12_robust_289 ?_
  exact wp.mono (h G A ⟨L, P, rfl, hS⟩) (fun r G' q => qx_trans hx q)
theorem w_X12_robust_293 {E : EE} {d : Nat} {V : VH} {K : Int32 → VH → Prop} {x1 : Int32} {x2 : Int32} {x3 : Int32}  (h : vwp E d M_X12_robust 294 [some (sl 6 0), some (wi x1), some (wi x2), some (wi x3), none] [wi 0] V (zi K)) : vwp E d M_X12_robust 293 [some (sl 6 0), some (wi x1), some (wi x2), some (wi x3), none] [] V (zi K) := by
  intro G A hR
  obtain ⟨L, P, rfl, hS⟩ := hR
  have hx := Xt.refl (V := pl G A L P) (A := A)
  show wp E d M_X12_robust 293 [some (vr (A 6 0)), some (vi x1), some (vi x2), some (vi x3), none] [] G _
  refine v_X12_robust_293 ?_
  exact wp.mono (h G A ⟨L, P, rfl, hS⟩) (fun r G' q => qx_trans hx q)
theorem w_X12_robust_294 {E : EE} {d : Nat} {V : VH} {K : Int32 → VH → Prop} {x1 : Int32} {x2 : Int32} {x3 : Int32} {t0 : Int32}  (h : (t0 = 0 → vwp E d M_X12_robust 306 [some (sl 6 0), some (wi x1), some (wi x2), some (wi x3), some (wi t0)] [wi x2] V (zi K)) ∧ (¬ (t0 = 0) → vwp E d M_X12_robust 306 [some (sl 6 0), some (wi x1), some (wi x2), some (wi x3), some (wi t0)] [wi x3] V (zi K))) : vwp E d M_X12_robust 294 [some (sl 6 0), some (wi x1), some (wi x2), some (wi x3), none] [wi t0] V (zi K) := by
  intro G A hR
  obtain ⟨L, P, rfl, hS⟩ := hR
  have hx := Xt.refl (V := pl G A L P) (A := A)
  show wp E d M_X12_robust 294 [some (vr (A 6 0)), some (vi x1), some (vi x2), some (vi x3), none] [vi t0] G _
  refine v_X12_robust_294 ?_
  refine ⟨fun hc => ?_, fun hc => ?_⟩
  · have h := h.1 hc
    exact wp.mono (h G A ⟨L, P, rfl, hS⟩) (fun r G' q => qx_trans hx q)
  · have h := h.2 hc
    exact wp.mono (h G A ⟨L, P, rfl, hS⟩) (fun r G' q => qx_trans hx q)
theorem w_X12_robust_306 {E : EE} {d : Nat} {V : VH} {K : Int32 → VH → Prop} {x1 : Int32} {x2 : Int32} {x3 : Int32} {x4 : Int32} {t0 : Int32}  (h : vwp E d M_X12_robust 210 [some (sl 6 0), some (wi x1), some (wi t0), some (wi (x3 + 1)), none] [] V (zi K)) : vwp E d M_X12_robust 306 [some (sl 6 0), some (wi x1), some (wi x2), some (wi x3), some (wi x4)] [wi t0] V (zi K) := by
  intro G A hR
  obtain ⟨L, P, rfl, hS⟩ := hR
  have hx := Xt.refl (V := pl G A L P) (A := A)
  show wp E d M_X12_robust 306 [some (vr (A 6 0)), some (vi x1), some (vi x2), some (vi x3), some (vi x4)] [vi t0] G _
  refine v_X12_robust_306 ?_
  exact wp.mono (h G A ⟨L, P, rfl, hS⟩) (fun r G' q => qx_trans hx q)
theorem w_X12_unfold_0 {E : EE} {d : Nat} {V : VH} {K : Int32 → VH → Prop} {x1 : Int32}  (h0 : 0 < d) (h : vMI E (d - 1) M_X12_isProblem [sl 6 0, wi x1] V (fun r1 V1 => (¬ r1 = 0 → vp_in x1 5 ∧ (vp_in x1 5 ∧ (∀ V5 : VH, V5 = wrI V1 6 29 (Int32.toNatClampNeg x1) 0 → K (vI V1 6 29 (Int32.toNatClampNeg x1)) V5))) ∧ (r1 = 0 → K (-1) V1))) : vMI E d M_X12_unfold [sl 6 0, wi x1] V K := by
  intro G A hR
  obtain ⟨L, P, rfl, hS⟩ := hR
  have hx := Xt.refl (V := pl G A L P) (A := A)
  show wpM E d M_X12_unfold [vr (A 6 0), vi x1] G _
  refine wpM_of mk_X12_unfold (Nat.le_of_ble_eq_true rfl) ?_
  refine v_X12_unfold_0 h0 ?_
  refine ⟨hS.o (s6_0 hS), ?_⟩
  refine wpM.mono (h G A ⟨L, P, rfl, hS⟩) (fun rr1 G1 hr => ?_)
  obtain ⟨A1, W1, w1, ⟨L1, P1, rfl, hS1⟩, hy1, rfl, r1, rfl, h⟩ := hr
  refine ⟨r1, rfl, ?_⟩
  have hx1 := Xt.trans hx hy1
  have ee2 : A1 6 0 = A 6 0 := hy1.2 _ _ hS.1.2.1 (((n6_0 hS1)).trans ((n6_0 hS)).symm)
  try rw [← ee2]
  refine ⟨fun hc => ?_, fun hc => ?_⟩
  · have h := h.1 hc
    refine ⟨hS1.o (s6_0 hS1), ?_⟩
    rw [l6_0_32 hS1]
    refine ⟨hS1.o (s6_29 hS1), ?_⟩
    obtain ⟨hi3, h⟩ := h
    refine ⟨by first | (rw [(n6_29 hS1)]; exact hi3) | exact (congrArg (vp_in _) (n6_29 hS1)).mpr hi3 | exact hi3, ?_⟩
    obtain ⟨hi4, h⟩ := h
    refine ⟨by first | (rw [(n6_29 hS1)]; exact hi4) | exact (congrArg (vp_in _) (n6_29 hS1)).mpr hi4 | exact hi4, ?_⟩
    have hS5 : Sh E (sI G1 (A1 6 29) (Int32.toNatClampNeg x1) 0) A1 L1 P1 := Sh_sI (rfl : sI G1 (A1 6 29) (Int32.toNatClampNeg x1) 0 = sI G1 (A1 6 29) (Int32.toNatClampNeg x1) 0) hS1 (s6_29 hS1) (okT_0 rfl)
    have h := h (pl (sI G1 (A1 6 29) (Int32.toNatClampNeg x1) 0) A1 L1 P1) (pl_sI (rfl : sI G1 (A1 6 29) (Int32.toNatClampNeg x1) 0 = sI G1 (A1 6 29) (Int32.toNatClampNeg x1) 0) hS1 (s6_29 hS1))
    have hx5 : Xt (pl G A L P) A (pl (sI G1 (A1 6 29) (Int32.toNatClampNeg x1) 0) A1 L1 P1) A1 := Xt_sI (rfl : sI G1 (A1 6 29) (Int32.toNatClampNeg x1) 0 = sI G1 (A1 6 29) (Int32.toNatClampNeg x1) 0) hx1
    exact qx_i hS5 hx5 h
  · have h := h.2 hc
    exact qx_i hS1 hx1 h
theorem w_X12_told_0 {E : EE} {d : Nat} {V : VH} {K : Int32 → VH → Prop} {x1 : Int32} {x2 : Int32} {x3 : Int32} {x4 : Int32}  (h0 : 0 < d) (h : vMI E (d - 1) M_X12_isFact [sl 6 0, wi x1, wi x3] V (fun r1 V1 => (r1 = 0 → K 0 V1) ∧ (¬ (r1 = 0) → (x2 < 0 → K 0 V1) ∧ (¬ (x2 < 0) → vp_in x1 5 ∧ (((vI V1 6 29 (Int32.toNatClampNeg x1)) ≤ x2 → K 0 V1) ∧ (¬ ((vI V1 6 29 (Int32.toNatClampNeg x1)) ≤ x2) → (x4 < (-9999) → K 0 V1) ∧ (¬ (x4 < (-9999)) → (x4 ≤ 9999 → vp_in ((16 * ((6 * x1) + x2)) + x3) 480 ∧ (∀ V5 : VH, V5 = wrI V1 6 31 (Int32.toNatClampNeg ((16 * ((6 * x1) + x2)) + x3)) (nz 1) → vp_in ((16 * ((6 * x1) + x2)) + x3) 480 ∧ (∀ V7 : VH, V7 = wrI V5 6 32 (Int32.toNatClampNeg ((16 * ((6 * x1) + x2)) + x3)) x4 → K 1 V7))) ∧ (¬ (x4 ≤ 9999) → K 0 V1)))))))) : vMI E d M_X12_told [sl 6 0, wi x1, wi x2, wi x3, wi x4] V K := by
  intro G A hR
  obtain ⟨L, P, rfl, hS⟩ := hR
  have hx := Xt.refl (V := pl G A L P) (A := A)
  show wpM E d M_X12_told [vr (A 6 0), vi x1, vi x2, vi x3, vi x4] G _
  refine wpM_of mk_X12_told (Nat.le_of_ble_eq_true rfl) ?_
  refine v_X12_told_0 h0 ?_
  refine ⟨hS.o (s6_0 hS), ?_⟩
  refine wpM.mono (h G A ⟨L, P, rfl, hS⟩) (fun rr1 G1 hr => ?_)
  obtain ⟨A1, W1, w1, ⟨L1, P1, rfl, hS1⟩, hy1, rfl, r1, rfl, h⟩ := hr
  refine ⟨r1, rfl, ?_⟩
  have hx1 := Xt.trans hx hy1
  have ee2 : A1 6 0 = A 6 0 := hy1.2 _ _ hS.1.2.1 (((n6_0 hS1)).trans ((n6_0 hS)).symm)
  try rw [← ee2]
  refine ⟨fun hc => ?_, fun hc => ?_⟩
  · have h := h.1 hc
    exact qx_i hS1 hx1 h
  · have h := h.2 hc
    refine ⟨fun hc => ?_, fun hc => ?_⟩
    · have h := h.1 hc
      exact qx_i hS1 hx1 h
    · have h := h.2 hc
      refine ⟨hS1.o (s6_0 hS1), ?_⟩
      rw [l6_0_32 hS1]
      refine ⟨hS1.o (s6_29 hS1), ?_⟩
      obtain ⟨hi3, h⟩ := h
      refine ⟨by first | (rw [(n6_29 hS1)]; exact hi3) | exact (congrArg (vp_in _) (n6_29 hS1)).mpr hi3 | exact hi3, ?_⟩
      refine ⟨fun hc => ?_, fun hc => ?_⟩
      · have h := h.1 hc
        exact qx_i hS1 hx1 h
      · have h := h.2 hc
        refine ⟨fun hc => ?_, fun hc => ?_⟩
        · have h := h.1 hc
          exact qx_i hS1 hx1 h
        · have h := h.2 hc
          refine ⟨fun hc => ?_, fun hc => ?_⟩
          · have h := h.1 hc
            rw [l6_0_34 hS1]
            refine ⟨hS1.o (s6_31 hS1), ?_⟩
            obtain ⟨hi4, h⟩ := h
            refine ⟨by first | (rw [(n6_31 hS1)]; exact hi4) | exact (congrArg (vp_in _) (n6_31 hS1)).mpr hi4 | exact hi4, ?_⟩
            intro G5 eG5
            have hS5 : Sh E G5 A1 L1 P1 := Sh_sI eG5 hS1 (s6_31 hS1) (okT_nz rfl)
            have h := h (pl G5 A1 L1 P1) (pl_sI eG5 hS1 (s6_31 hS1))
            have hx5 : Xt (pl G A L P) A (pl G5 A1 L1 P1) A1 := Xt_sI eG5 hx1
            rw [l6_0_35 hS5]
            refine ⟨hS5.o (s6_32 hS5), ?_⟩
            obtain ⟨hi6, h⟩ := h
            refine ⟨by first | (rw [(n6_32 hS5)]; exact hi6) | exact (congrArg (vp_in _) (n6_32 hS5)).mpr hi6 | exact hi6, ?_⟩
            intro G7 eG7
            have hS7 : Sh E G7 A1 L1 P1 := Sh_sI eG7 hS5 (s6_32 hS5) (okT_0 rfl)
            have h := h (pl G7 A1 L1 P1) (pl_sI eG7 hS5 (s6_32 hS5))
            have hx7 : Xt (pl G A L P) A (pl G7 A1 L1 P1) A1 := Xt_sI eG7 hx5
            exact qx_i hS7 hx7 h
          · have h := h.2 hc
            exact qx_i hS1 hx1 h
theorem w_X12_isFact_0 {E : EE} {d : Nat} {V : VH} {K : Int32 → VH → Prop} {x1 : Int32} {x2 : Int32}  (h0 : 0 < d) (h : vMI E (d - 1) M_X12_isProblem [sl 6 0, wi x1] V (fun r1 V1 => (r1 = 0 → K 0 V1) ∧ (¬ (r1 = 0) → (x2 < 0 → K 0 V1) ∧ (¬ (x2 < 0) → vp_in (4 * x1) 20 ∧ (((vI V1 6 14 (Int32.toNatClampNeg (4 * x1))) ≤ x2 → K 0 V1) ∧ (¬ ((vI V1 6 14 (Int32.toNatClampNeg (4 * x1))) ≤ x2) → K 1 V1)))))) : vMI E d M_X12_isFact [sl 6 0, wi x1, wi x2] V K := by
  intro G A hR
  obtain ⟨L, P, rfl, hS⟩ := hR
  have hx := Xt.refl (V := pl G A L P) (A := A)
  show wpM E d M_X12_isFact [vr (A 6 0), vi x1, vi x2] G _
  refine wpM_of mk_X12_isFact (Nat.le_of_ble_eq_true rfl) ?_
  refine v_X12_isFact_0 h0 ?_
  refine ⟨hS.o (s6_0 hS), ?_⟩
  refine wpM.mono (h G A ⟨L, P, rfl, hS⟩) (fun rr1 G1 hr => ?_)
  obtain ⟨A1, W1, w1, ⟨L1, P1, rfl, hS1⟩, hy1, rfl, r1, rfl, h⟩ := hr
  refine ⟨r1, rfl, ?_⟩
  have hx1 := Xt.trans hx hy1
  have ee2 : A1 6 0 = A 6 0 := hy1.2 _ _ hS.1.2.1 (((n6_0 hS1)).trans ((n6_0 hS)).symm)
  try rw [← ee2]
  refine ⟨fun hc => ?_, fun hc => ?_⟩
  · have h := h.1 hc
    exact qx_i hS1 hx1 h
  · have h := h.2 hc
    refine ⟨fun hc => ?_, fun hc => ?_⟩
    · have h := h.1 hc
      exact qx_i hS1 hx1 h
    · have h := h.2 hc
      refine ⟨hS1.o (s6_0 hS1), ?_⟩
      rw [l6_0_17 hS1]
      refine ⟨hS1.o (s6_14 hS1), ?_⟩
      obtain ⟨hi3, h⟩ := h
      refine ⟨by first | (rw [(n6_14 hS1)]; exact hi3) | exact (congrArg (vp_in _) (n6_14 hS1)).mpr hi3 | exact hi3, ?_⟩
      refine ⟨fun hc => ?_, fun hc => ?_⟩
      · have h := h.1 hc
        exact qx_i hS1 hx1 h
      · have h := h.2 hc
        exact qx_i hS1 hx1 h
theorem w_X12_future_0 {E : EE} {d : Nat} {V : VH} {K : Int32 → VH → Prop} {x1 : Int32} {x2 : Int32}  (h0 : 0 < d) (h : vMI E (d - 1) M_X12_isProblem [sl 6 0, wi x1] V (fun r1 V1 => (r1 = 0 → K (-1) V1) ∧ (¬ (r1 = 0) → (x2 < 1 → K (-1) V1) ∧ (¬ (x2 < 1) → (x2 ≤ 100 → vp_in x1 5 ∧ ((¬ (vI V1 6 29 (Int32.toNatClampNeg x1)) = 6 → vp_in x1 5 ∧ (vp_in ((6 * x1) + (vI V1 6 29 (Int32.toNatClampNeg x1))) 30 ∧ (∀ V6 : VH, V6 = wrI V1 6 30 (Int32.toNatClampNeg ((6 * x1) + (vI V1 6 29 (Int32.toNatClampNeg x1)))) x2 → vwp E d M_X12_future 57 [some (sl 6 0), some (wi x1), some (wi x2), some (wi (vI V1 6 29 (Int32.toNatClampNeg x1))), some (wi 0)] [] V6 (zi K)))) ∧ ((vI V1 6 29 (Int32.toNatClampNeg x1)) = 6 → K (-100000) V1))) ∧ (¬ (x2 ≤ 100) → K (-1) V1))))) : vMI E d M_X12_future [sl 6 0, wi x1, wi x2] V K := by
  intro G A hR
  obtain ⟨L, P, rfl, hS⟩ := hR
  have hx := Xt.refl (V := pl G A L P) (A := A)
  show wpM E d M_X12_future [vr (A 6 0), vi x1, vi x2] G _
  refine wpM_of mk_X12_future (Nat.le_of_ble_eq_true rfl) ?_
  refine v_X12_future_0 h0 ?_
  refine ⟨hS.o (s6_0 hS), ?_⟩
  refine wpM.mono (h G A ⟨L, P, rfl, hS⟩) (fun rr1 G1 hr => ?_)
  obtain ⟨A1, W1, w1, ⟨L1, P1, rfl, hS1⟩, hy1, rfl, r1, rfl, h⟩ := hr
  refine ⟨r1, rfl, ?_⟩
  have hx1 := Xt.trans hx hy1
  have ee2 : A1 6 0 = A 6 0 := hy1.2 _ _ hS.1.2.1 (((n6_0 hS1)).trans ((n6_0 hS)).symm)
  try rw [← ee2]
  refine ⟨fun hc => ?_, fun hc => ?_⟩
  · have h := h.1 hc
    exact qx_i hS1 hx1 h
  · have h := h.2 hc
    refine ⟨fun hc => ?_, fun hc => ?_⟩
    · have h := h.1 hc
      exact qx_i hS1 hx1 h
    · have h := h.2 hc
      refine ⟨fun hc => ?_, fun hc => ?_⟩
      · have h := h.1 hc
        refine ⟨hS1.o (s6_0 hS1), ?_⟩
        rw [l6_0_32 hS1]
        refine ⟨hS1.o (s6_29 hS1), ?_⟩
        obtain ⟨hi3, h⟩ := h
        refine ⟨by first | (rw [(n6_29 hS1)]; exact hi3) | exact (congrArg (vp_in _) (n6_29 hS1)).mpr hi3 | exact hi3, ?_⟩
        refine ⟨fun hc => ?_, fun hc => ?_⟩
        · have h := h.1 hc
          obtain ⟨hi4, h⟩ := h
          refine ⟨by first | (rw [(n6_29 hS1)]; exact hi4) | exact (congrArg (vp_in _) (n6_29 hS1)).mpr hi4 | exact hi4, ?_⟩
          rw [l6_0_33 hS1]
          refine ⟨hS1.o (s6_30 hS1), ?_⟩
          obtain ⟨hi5, h⟩ := h
          refine ⟨by first | (rw [(n6_30 hS1)]; exact hi5) | exact (congrArg (vp_in _) (n6_30 hS1)).mpr hi5 | exact hi5, ?_⟩
          have hS6 : Sh E (sI G1 (A1 6 30) (Int32.toNatClampNeg ((6 * x1) + (gI G1 (A1 6 29) (Int32.toNatClampNeg x1)))) x2) A1 L1 P1 := Sh_sI (rfl : sI G1 (A1 6 30) (Int32.toNatClampNeg ((6 * x1) + (gI G1 (A1 6 29) (Int32.toNatClampNeg x1)))) x2 = sI G1 (A1 6 30) (Int32.toNatClampNeg ((6 * x1) + (gI G1 (A1 6 29) (Int32.toNatClampNeg x1)))) x2) hS1 (s6_30 hS1) (okT_0 rfl)
          have h := h (pl (sI G1 (A1 6 30) (Int32.toNatClampNeg ((6 * x1) + (gI G1 (A1 6 29) (Int32.toNatClampNeg x1)))) x2) A1 L1 P1) (pl_sI (rfl : sI G1 (A1 6 30) (Int32.toNatClampNeg ((6 * x1) + (gI G1 (A1 6 29) (Int32.toNatClampNeg x1)))) x2 = sI G1 (A1 6 30) (Int32.toNatClampNeg ((6 * x1) + (gI G1 (A1 6 29) (Int32.toNatClampNeg x1)))) x2) hS1 (s6_30 hS1))
          have hx6 : Xt (pl G A L P) A (pl (sI G1 (A1 6 30) (Int32.toNatClampNeg ((6 * x1) + (gI G1 (A1 6 29) (Int32.toNatClampNeg x1)))) x2) A1 L1 P1) A1 := Xt_sI (rfl : sI G1 (A1 6 30) (Int32.toNatClampNeg ((6 * x1) + (gI G1 (A1 6 29) (Int32.toNatClampNeg x1)))) x2 = sI G1 (A1 6 30) (Int32.toNatClampNeg ((6 * x1) + (gI G1 (A1 6 29) (Int32.toNatClampNeg x1)))) x2) hx1
          exact wp.mono (h (sI G1 (A1 6 30) (Int32.toNatClampNeg ((6 * x1) + (gI G1 (A1 6 29) (Int32.toNatClampNeg x1)))) x2) A1 ⟨L1, P1, rfl, hS6⟩) (fun r G' q => qx_trans hx6 q)
        · have h := h.2 hc
          exact qx_i hS1 hx1 h
      · have h := h.2 hc
        exact qx_i hS1 hx1 h
theorem w_X12_future_57 {E : EE} {d : Nat} {V : VH} {K : Int32 → VH → Prop} {x1 : Int32} {x2 : Int32} {x3 : Int32} {x4 : Int32}  (h : (16 ≤ x4 → vp_in x1 5 ∧ (vp_in x1 5 ∧ (∀ V3 : VH, V3 = wrI V 6 29 (Int32.toNatClampNeg x1) ((vI V 6 29 (Int32.toNatClampNeg x1)) + 1) → K x3 V3))) ∧ (¬ (16 ≤ x4) → vp_in ((16 * ((6 * x1) + x3)) + x4) 480 ∧ (∀ V5 : VH, V5 = wrI V 6 31 (Int32.toNatClampNeg ((16 * ((6 * x1) + x3)) + x4)) (nz 0) → vwp E d M_X12_future 57 [some (sl 6 0), some (wi x1), some (wi x2), some (wi x3), some (wi (x4 + 1))] [] V5 (zi K)))) : vwp E d M_X12_future 57 [some (sl 6 0), some (wi x1), some (wi x2), some (wi x3), some (wi x4)] [] V (zi K) := by
  intro G A hR
  obtain ⟨L, P, rfl, hS⟩ := hR
  have hx := Xt.refl (V := pl G A L P) (A := A)
  show wp E d M_X12_future 57 [some (vr (A 6 0)), some (vi x1), some (vi x2), some (vi x3), some (vi x4)] [] G _
  refine v_X12_future_57 ?_
  refine ⟨fun hc => ?_, fun hc => ?_⟩
  · have h := h.1 hc
    refine ⟨hS.o (s6_0 hS), ?_⟩
    rw [l6_0_32 hS]
    refine ⟨hS.o (s6_29 hS), ?_⟩
    obtain ⟨hi1, h⟩ := h
    refine ⟨by first | (rw [(n6_29 hS)]; exact hi1) | exact (congrArg (vp_in _) (n6_29 hS)).mpr hi1 | exact hi1, ?_⟩
    obtain ⟨hi2, h⟩ := h
    refine ⟨by first | (rw [(n6_29 hS)]; exact hi2) | exact (congrArg (vp_in _) (n6_29 hS)).mpr hi2 | exact hi2, ?_⟩
    have hS3 : Sh E (sI G (A 6 29) (Int32.toNatClampNeg x1) ((gI G (A 6 29) (Int32.toNatClampNeg x1)) + 1)) A L P := Sh_sI (rfl : sI G (A 6 29) (Int32.toNatClampNeg x1) ((gI G (A 6 29) (Int32.toNatClampNeg x1)) + 1) = sI G (A 6 29) (Int32.toNatClampNeg x1) ((gI G (A 6 29) (Int32.toNatClampNeg x1)) + 1)) hS (s6_29 hS) (okT_0 rfl)
    have h := h (pl (sI G (A 6 29) (Int32.toNatClampNeg x1) ((gI G (A 6 29) (Int32.toNatClampNeg x1)) + 1)) A L P) (pl_sI (rfl : sI G (A 6 29) (Int32.toNatClampNeg x1) ((gI G (A 6 29) (Int32.toNatClampNeg x1)) + 1) = sI G (A 6 29) (Int32.toNatClampNeg x1) ((gI G (A 6 29) (Int32.toNatClampNeg x1)) + 1)) hS (s6_29 hS))
    have hx3 : Xt (pl G A L P) A (pl (sI G (A 6 29) (Int32.toNatClampNeg x1) ((gI G (A 6 29) (Int32.toNatClampNeg x1)) + 1)) A L P) A := Xt_sI (rfl : sI G (A 6 29) (Int32.toNatClampNeg x1) ((gI G (A 6 29) (Int32.toNatClampNeg x1)) + 1) = sI G (A 6 29) (Int32.toNatClampNeg x1) ((gI G (A 6 29) (Int32.toNatClampNeg x1)) + 1)) hx
    exact qx_i hS3 hx3 h
  · have h := h.2 hc
    refine ⟨hS.o (s6_0 hS), ?_⟩
    rw [l6_0_34 hS]
    refine ⟨hS.o (s6_31 hS), ?_⟩
    obtain ⟨hi4, h⟩ := h
    refine ⟨by first | (rw [(n6_31 hS)]; exact hi4) | exact (congrArg (vp_in _) (n6_31 hS)).mpr hi4 | exact hi4, ?_⟩
    have hS5 : Sh E (sI G (A 6 31) (Int32.toNatClampNeg ((16 * ((6 * x1) + x3)) + x4)) (nz 0)) A L P := Sh_sI (rfl : sI G (A 6 31) (Int32.toNatClampNeg ((16 * ((6 * x1) + x3)) + x4)) (nz 0) = sI G (A 6 31) (Int32.toNatClampNeg ((16 * ((6 * x1) + x3)) + x4)) (nz 0)) hS (s6_31 hS) (okT_nz rfl)
    have h := h (pl (sI G (A 6 31) (Int32.toNatClampNeg ((16 * ((6 * x1) + x3)) + x4)) (nz 0)) A L P) (pl_sI (rfl : sI G (A 6 31) (Int32.toNatClampNeg ((16 * ((6 * x1) + x3)) + x4)) (nz 0) = sI G (A 6 31) (Int32.toNatClampNeg ((16 * ((6 * x1) + x3)) + x4)) (nz 0)) hS (s6_31 hS))
    have hx5 : Xt (pl G A L P) A (pl (sI G (A 6 31) (Int32.toNatClampNeg ((16 * ((6 * x1) + x3)) + x4)) (nz 0)) A L P) A := Xt_sI (rfl : sI G (A 6 31) (Int32.toNatClampNeg ((16 * ((6 * x1) + x3)) + x4)) (nz 0) = sI G (A 6 31) (Int32.toNatClampNeg ((16 * ((6 * x1) + x3)) + x4)) (nz 0)) hx
    exact wp.mono (h (sI G (A 6 31) (Int32.toNatClampNeg ((16 * ((6 * x1) + x3)) + x4)) (nz 0)) A ⟨L, P, rfl, hS5⟩) (fun r G' q => qx_trans hx5 q)
theorem w_X12_because_0 {E : EE} {d : Nat} {V : VH} {K : Int32 → VH → Prop} {x1 : Int32} {x2 : Int32} {x3 : Int32}  (h0 : 0 < d) (h : vMI E (d - 1) M_X12_isVar [sl 6 0, wi x1, wi x2] V (fun r1 V1 => (¬ r1 = 0 → vMV E (d - 1) M_X12_know [sl 6 0, wi x1] V1 (fun V3 => vMI E (d - 1) M_X12_bestWith [sl 6 0, wi x1, wi x2, wi x3] V3 (fun r5 V5 => vMI E (d - 1) M_X12_firstBest [sl 6 0, wi x1, wi (-1), wi 0] V5 (fun r7 V7 => vwp E d M_X12_because 37 [some (sl 6 0), some (wi x1), some (wi x2), some (wi x3), some (wi r5), some (wi r7), some (wi 0)] [] V7 (zi K))))) ∧ (r1 = 0 → K (-1) V1))) : vMI E d M_X12_because [sl 6 0, wi x1, wi x2, wi x3] V K := by
  intro G A hR
  obtain ⟨L, P, rfl, hS⟩ := hR
  have hx := Xt.refl (V := pl G A L P) (A := A)
  show wpM E d M_X12_because [vr (A 6 0), vi x1, vi x2, vi x3] G _
  refine wpM_of mk_X12_because (Nat.le_of_ble_eq_true rfl) ?_
  refine v_X12_because_0 h0 ?_
  refine ⟨hS.o (s6_0 hS), ?_⟩
  refine wpM.mono (h G A ⟨L, P, rfl, hS⟩) (fun rr1 G1 hr => ?_)
  obtain ⟨A1, W1, w1, ⟨L1, P1, rfl, hS1⟩, hy1, rfl, r1, rfl, h⟩ := hr
  refine ⟨r1, rfl, ?_⟩
  have hx1 := Xt.trans hx hy1
  have ee2 : A1 6 0 = A 6 0 := hy1.2 _ _ hS.1.2.1 (((n6_0 hS1)).trans ((n6_0 hS)).symm)
  try rw [← ee2]
  refine ⟨fun hc => ?_, fun hc => ?_⟩
  · have h := h.1 hc
    refine ⟨hS1.o (s6_0 hS1), ?_⟩
    refine wpM.mono (h G1 A1 ⟨L1, P1, rfl, hS1⟩) (fun rr3 G3 hr => ?_)
    obtain ⟨A3, W3, w3, ⟨L3, P3, rfl, hS3⟩, hy3, rfl, rfl, h⟩ := hr
    refine ⟨rfl, ?_⟩
    have hx3 := Xt.trans hx1 hy3
    have ee4 : A3 6 0 = A1 6 0 := hy3.2 _ _ hS1.1.2.1 (((n6_0 hS3)).trans ((n6_0 hS1)).symm)
    try rw [← ee4]
    refine ⟨hS3.o (s6_0 hS3), ?_⟩
    refine wpM.mono (h G3 A3 ⟨L3, P3, rfl, hS3⟩) (fun rr5 G5 hr => ?_)
    obtain ⟨A5, W5, w5, ⟨L5, P5, rfl, hS5⟩, hy5, rfl, r5, rfl, h⟩ := hr
    refine ⟨r5, rfl, ?_⟩
    have hx5 := Xt.trans hx3 hy5
    have ee6 : A5 6 0 = A3 6 0 := hy5.2 _ _ hS3.1.2.1 (((n6_0 hS5)).trans ((n6_0 hS3)).symm)
    try rw [← ee6]
    refine ⟨hS5.o (s6_0 hS5), ?_⟩
    refine wpM.mono (h G5 A5 ⟨L5, P5, rfl, hS5⟩) (fun rr7 G7 hr => ?_)
    obtain ⟨A7, W7, w7, ⟨L7, P7, rfl, hS7⟩, hy7, rfl, r7, rfl, h⟩ := hr
    refine ⟨r7, rfl, ?_⟩
    have hx7 := Xt.trans hx5 hy7
    have ee8 : A7 6 0 = A5 6 0 := hy7.2 _ _ hS5.1.2.1 (((n6_0 hS7)).trans ((n6_0 hS5)).symm)
    try rw [← ee8]
    exact wp.mono (h G7 A7 ⟨L7, P7, rfl, hS7⟩) (fun r G' q => qx_trans hx7 q)
  · have h := h.2 hc
    exact qx_i hS1 hx1 h
theorem w_X12_because_37 {E : EE} {d : Nat} {V : VH} {K : Int32 → VH → Prop} {x1 : Int32} {x2 : Int32} {x3 : Int32} {x4 : Int32} {x5 : Int32} {x6 : Int32}  (h0 : 0 < d) (h : (x4 < 0 → K (-1) V) ∧ (¬ (x4 < 0) → vMI E (d - 1) M_X12_rulesOf [sl 6 0, wi x1] V (fun r1 V1 => (r1 ≤ x6 → K (-1) V1) ∧ (¬ (r1 ≤ x6) → vp_in ((20000 * x6) + x4) 480000 ∧ (vp_in ((20000 * x6) + x5) 480000 ∧ (((vI V1 6 43 (Int32.toNatClampNeg ((20000 * x6) + x4))) ≤ (vI V1 6 43 (Int32.toNatClampNeg ((20000 * x6) + x5))) → vwp E d M_X12_because 37 [some (sl 6 0), some (wi x1), some (wi x2), some (wi x3), some (wi x4), some (wi x5), some (wi (x6 + 1))] [] V1 (zi K)) ∧ (¬ ((vI V1 6 43 (Int32.toNatClampNeg ((20000 * x6) + x4))) ≤ (vI V1 6 43 (Int32.toNatClampNeg ((20000 * x6) + x5)))) → K x6 V1))))))) : vwp E d M_X12_because 37 [some (sl 6 0), some (wi x1), some (wi x2), some (wi x3), some (wi x4), some (wi x5), some (wi x6)] [] V (zi K) := by
  intro G A hR
  obtain ⟨L, P, rfl, hS⟩ := hR
  have hx := Xt.refl (V := pl G A L P) (A := A)
  show wp E d M_X12_because 37 [some (vr (A 6 0)), some (vi x1), some (vi x2), some (vi x3), some (vi x4), some (vi x5), some (vi x6)] [] G _
  refine v_X12_because_37 h0 ?_
  refine ⟨fun hc => ?_, fun hc => ?_⟩
  · have h := h.1 hc
    exact qx_i hS hx h
  · have h := h.2 hc
    refine ⟨hS.o (s6_0 hS), ?_⟩
    refine wpM.mono (h G A ⟨L, P, rfl, hS⟩) (fun rr1 G1 hr => ?_)
    obtain ⟨A1, W1, w1, ⟨L1, P1, rfl, hS1⟩, hy1, rfl, r1, rfl, h⟩ := hr
    refine ⟨r1, rfl, ?_⟩
    have hx1 := Xt.trans hx hy1
    have ee2 : A1 6 0 = A 6 0 := hy1.2 _ _ hS.1.2.1 (((n6_0 hS1)).trans ((n6_0 hS)).symm)
    try rw [← ee2]
    refine ⟨fun hc => ?_, fun hc => ?_⟩
    · have h := h.1 hc
      exact qx_i hS1 hx1 h
    · have h := h.2 hc
      refine ⟨hS1.o (s6_0 hS1), ?_⟩
      rw [l6_0_64 hS1]
      refine ⟨hS1.o (s6_43 hS1), ?_⟩
      obtain ⟨hi3, h⟩ := h
      refine ⟨by first | (rw [(n6_43 hS1)]; exact hi3) | exact (congrArg (vp_in _) (n6_43 hS1)).mpr hi3 | exact hi3, ?_⟩
      obtain ⟨hi4, h⟩ := h
      refine ⟨by first | (rw [(n6_43 hS1)]; exact hi4) | exact (congrArg (vp_in _) (n6_43 hS1)).mpr hi4 | exact hi4, ?_⟩
      refine ⟨fun hc => ?_, fun hc => ?_⟩
      · have h := h.1 hc
        exact wp.mono (h G1 A1 ⟨L1, P1, rfl, hS1⟩) (fun r G' q => qx_trans hx1 q)
      · have h := h.2 hc
        exact qx_i hS1 hx1 h
theorem w_X12_isVar_0 {E : EE} {d : Nat} {V : VH} {K : Int32 → VH → Prop} {x1 : Int32} {x2 : Int32}  (h0 : 0 < d) (h : vMI E (d - 1) M_X12_isProblem [sl 6 0, wi x1] V (fun r1 V1 => (r1 = 0 → K 0 V1) ∧ (¬ (r1 = 0) → (x2 < 0 → K 0 V1) ∧ (¬ (x2 < 0) → vMI E (d - 1) M_X12_vars [sl 6 0, wi x1] V1 (fun r3 V3 => (r3 ≤ x2 → K 0 V3) ∧ (¬ (r3 ≤ x2) → K 1 V3)))))) : vMI E d M_X12_isVar [sl 6 0, wi x1, wi x2] V K := by
  intro G A hR
  obtain ⟨L, P, rfl, hS⟩ := hR
  have hx := Xt.refl (V := pl G A L P) (A := A)
  show wpM E d M_X12_isVar [vr (A 6 0), vi x1, vi x2] G _
  refine wpM_of mk_X12_isVar (Nat.le_of_ble_eq_true rfl) ?_
  refine v_X12_isVar_0 h0 ?_
  refine ⟨hS.o (s6_0 hS), ?_⟩
  refine wpM.mono (h G A ⟨L, P, rfl, hS⟩) (fun rr1 G1 hr => ?_)
  obtain ⟨A1, W1, w1, ⟨L1, P1, rfl, hS1⟩, hy1, rfl, r1, rfl, h⟩ := hr
  refine ⟨r1, rfl, ?_⟩
  have hx1 := Xt.trans hx hy1
  have ee2 : A1 6 0 = A 6 0 := hy1.2 _ _ hS.1.2.1 (((n6_0 hS1)).trans ((n6_0 hS)).symm)
  try rw [← ee2]
  refine ⟨fun hc => ?_, fun hc => ?_⟩
  · have h := h.1 hc
    exact qx_i hS1 hx1 h
  · have h := h.2 hc
    refine ⟨fun hc => ?_, fun hc => ?_⟩
    · have h := h.1 hc
      exact qx_i hS1 hx1 h
    · have h := h.2 hc
      refine ⟨hS1.o (s6_0 hS1), ?_⟩
      refine wpM.mono (h G1 A1 ⟨L1, P1, rfl, hS1⟩) (fun rr3 G3 hr => ?_)
      obtain ⟨A3, W3, w3, ⟨L3, P3, rfl, hS3⟩, hy3, rfl, r3, rfl, h⟩ := hr
      refine ⟨r3, rfl, ?_⟩
      have hx3 := Xt.trans hx1 hy3
      have ee4 : A3 6 0 = A1 6 0 := hy3.2 _ _ hS1.1.2.1 (((n6_0 hS3)).trans ((n6_0 hS1)).symm)
      try rw [← ee4]
      refine ⟨fun hc => ?_, fun hc => ?_⟩
      · have h := h.1 hc
        exact qx_i hS3 hx3 h
      · have h := h.2 hc
        exact qx_i hS3 hx3 h
theorem w_X12_bestWith_0 {E : EE} {d : Nat} {V : VH} {K : Int32 → VH → Prop} {x1 : Int32} {x2 : Int32} {x3 : Int32}  (h0 : 0 < d) (h : vMI E (d - 1) M_X12_placeOf [sl 6 0, wi x1, wi x2, wi x3] V (fun r1 V1 => (0 ≤ r1 → vMI E (d - 1) M_X12_firstBest [sl 6 0, wi x1, wi x2, wi r1] V1 (fun r3 V3 => K r3 V3)) ∧ (¬ (0 ≤ r1) → K (-1) V1))) : vMI E d M_X12_bestWith [sl 6 0, wi x1, wi x2, wi x3] V K := by
  intro G A hR
  obtain ⟨L, P, rfl, hS⟩ := hR
  have hx := Xt.refl (V := pl G A L P) (A := A)
  show wpM E d M_X12_bestWith [vr (A 6 0), vi x1, vi x2, vi x3] G _
  refine wpM_of mk_X12_bestWith (Nat.le_of_ble_eq_true rfl) ?_
  refine v_X12_bestWith_0 h0 ?_
  refine ⟨hS.o (s6_0 hS), ?_⟩
  refine wpM.mono (h G A ⟨L, P, rfl, hS⟩) (fun rr1 G1 hr => ?_)
  obtain ⟨A1, W1, w1, ⟨L1, P1, rfl, hS1⟩, hy1, rfl, r1, rfl, h⟩ := hr
  refine ⟨r1, rfl, ?_⟩
  have hx1 := Xt.trans hx hy1
  have ee2 : A1 6 0 = A 6 0 := hy1.2 _ _ hS.1.2.1 (((n6_0 hS1)).trans ((n6_0 hS)).symm)
  try rw [← ee2]
  refine ⟨fun hc => ?_, fun hc => ?_⟩
  · have h := h.1 hc
    refine ⟨hS1.o (s6_0 hS1), ?_⟩
    refine wpM.mono (h G1 A1 ⟨L1, P1, rfl, hS1⟩) (fun rr3 G3 hr => ?_)
    obtain ⟨A3, W3, w3, ⟨L3, P3, rfl, hS3⟩, hy3, rfl, r3, rfl, h⟩ := hr
    refine ⟨r3, rfl, ?_⟩
    have hx3 := Xt.trans hx1 hy3
    have ee4 : A3 6 0 = A1 6 0 := hy3.2 _ _ hS1.1.2.1 (((n6_0 hS3)).trans ((n6_0 hS1)).symm)
    try rw [← ee4]
    exact qx_i hS3 hx3 h
  · have h := h.2 hc
    exact qx_i hS1 hx1 h
theorem w_X12_firstBest_0 {E : EE} {d : Nat} {V : VH} {K : Int32 → VH → Prop} {x1 : Int32} {x2 : Int32} {x3 : Int32}  (h : vwp E d M_X12_firstBest 6 [some (sl 6 0), some (wi x1), some (wi x2), some (wi x3), some (wi (-1)), some (wi 0)] [] V (zi K)) : vMI E d M_X12_firstBest [sl 6 0, wi x1, wi x2, wi x3] V K := by
  intro G A hR
  obtain ⟨L, P, rfl, hS⟩ := hR
  have hx := Xt.refl (V := pl G A L P) (A := A)
  show wpM E d M_X12_firstBest [vr (A 6 0), vi x1, vi x2, vi x3] G _
  refine wpM_of mk_X12_firstBest (Nat.le_of_ble_eq_true rfl) ?_
  refine v_X12_firstBest_0 ?_
  exact wp.mono (h G A ⟨L, P, rfl, hS⟩) (fun r G' q => qx_trans hx q)
theorem w_X12_firstBest_6 {E : EE} {d : Nat} {V : VH} {K : Int32 → VH → Prop} {x1 : Int32} {x2 : Int32} {x3 : Int32} {x4 : Int32} {x5 : Int32}  (h0 : 0 < d) (h : vp_in x1 5 ∧ (((vI V 6 22 (Int32.toNatClampNeg x1)) ≤ x5 → K x4 V) ∧ (¬ ((vI V 6 22 (Int32.toNatClampNeg x1)) ≤ x5) → vMI E (d - 1) M_X12_isGood [sl 6 0, wi x1, wi x5] V (fun r2 V2 => (r2 = 0 → vwp E d M_X12_firstBest 63 [some (sl 6 0), some (wi x1), some (wi x2), some (wi x3), some (wi x4), some (wi x5)] [] V2 (zi K)) ∧ (¬ (r2 = 0) → (x2 < 0 → vwp E d M_X12_firstBest 43 [some (sl 6 0), some (wi x1), some (wi x2), some (wi x3), some (wi x4), some (wi x5)] [] V2 (zi K)) ∧ (¬ (x2 < 0) → vMI E (d - 1) M_X12_place [sl 6 0, wi x1, wi x5, wi x2] V2 (fun r4 V4 => (¬ r4 = x3 → vwp E d M_X12_firstBest 63 [some (sl 6 0), some (wi x1), some (wi x2), some (wi x3), some (wi x4), some (wi x5)] [] V4 (zi K)) ∧ (r4 = x3 → vwp E d M_X12_firstBest 43 [some (sl 6 0), some (wi x1), some (wi x2), some (wi x3), some (wi x4), some (wi x5)] [] V4 (zi K))))))))) : vwp E d M_X12_firstBest 6 [some (sl 6 0), some (wi x1), some (wi x2), some (wi x3), some (wi x4), some (wi x5)] [] V (zi K) := by
  intro G A hR
  obtain ⟨L, P, rfl, hS⟩ := hR
  have hx := Xt.refl (V := pl G A L P) (A := A)
  show wp E d M_X12_firstBest 6 [some (vr (A 6 0)), some (vi x1), some (vi x2), some (vi x3), some (vi x4), some (vi x5)] [] G _
  refine v_X12_firstBest_6 h0 ?_
  refine ⟨hS.o (s6_0 hS), ?_⟩
  rw [l6_0_25 hS]
  refine ⟨hS.o (s6_22 hS), ?_⟩
  obtain ⟨hi1, h⟩ := h
  refine ⟨by first | (rw [(n6_22 hS)]; exact hi1) | exact (congrArg (vp_in _) (n6_22 hS)).mpr hi1 | exact hi1, ?_⟩
  refine ⟨fun hc => ?_, fun hc => ?_⟩
  · have h := h.1 hc
    exact qx_i hS hx h
  · have h := h.2 hc
    refine wpM.mono (h G A ⟨L, P, rfl, hS⟩) (fun rr2 G2 hr => ?_)
    obtain ⟨A2, W2, w2, ⟨L2, P2, rfl, hS2⟩, hy2, rfl, r2, rfl, h⟩ := hr
    refine ⟨r2, rfl, ?_⟩
    have hx2 := Xt.trans hx hy2
    have ee3 : A2 6 0 = A 6 0 := hy2.2 _ _ hS.1.2.1 (((n6_0 hS2)).trans ((n6_0 hS)).symm)
    try rw [← ee3]
    refine ⟨fun hc => ?_, fun hc => ?_⟩
    · have h := h.1 hc
      exact wp.mono (h G2 A2 ⟨L2, P2, rfl, hS2⟩) (fun r G' q => qx_trans hx2 q)
    · have h := h.2 hc
      refine ⟨fun hc => ?_, fun hc => ?_⟩
      · have h := h.1 hc
        exact wp.mono (h G2 A2 ⟨L2, P2, rfl, hS2⟩) (fun r G' q => qx_trans hx2 q)
      · have h := h.2 hc
        refine ⟨hS2.o (s6_0 hS2), ?_⟩
        refine wpM.mono (h G2 A2 ⟨L2, P2, rfl, hS2⟩) (fun rr4 G4 hr => ?_)
        obtain ⟨A4, W4, w4, ⟨L4, P4, rfl, hS4⟩, hy4, rfl, r4, rfl, h⟩ := hr
        refine ⟨r4, rfl, ?_⟩
        have hx4 := Xt.trans hx2 hy4
        have ee5 : A4 6 0 = A2 6 0 := hy4.2 _ _ hS2.1.2.1 (((n6_0 hS4)).trans ((n6_0 hS2)).symm)
        try rw [← ee5]
        refine ⟨fun hc => ?_, fun hc => ?_⟩
        · have h := h.1 hc
          exact wp.mono (h G4 A4 ⟨L4, P4, rfl, hS4⟩) (fun r G' q => qx_trans hx4 q)
        · have h := h.2 hc
          exact wp.mono (h G4 A4 ⟨L4, P4, rfl, hS4⟩) (fun r G' q => qx_trans hx4 q)
theorem w_X12_firstBest_43 {E : EE} {d : Nat} {V : VH} {K : Int32 → VH → Prop} {x1 : Int32} {x2 : Int32} {x3 : Int32} {x4 : Int32} {x5 : Int32}  (h0 : 0 < d) (h : (x4 < 0 → vwp E d M_X12_firstBest 59 [some (sl 6 0), some (wi x1), some (wi x2), some (wi x3), some (wi x4), some (wi x5)] [] V (zi K)) ∧ (¬ (x4 < 0) → vMI E (d - 1) M_X12_isBetter [sl 6 0, wi x5, wi x4] V (fun r1 V1 => (r1 = 0 → vwp E d M_X12_firstBest 63 [some (sl 6 0), some (wi x1), some (wi x2), some (wi x3), some (wi x4), some (wi x5)] [] V1 (zi K)) ∧ (¬ (r1 = 0) → vwp E d M_X12_firstBest 59 [some (sl 6 0), some (wi x1), some (wi x2), some (wi x3), some (wi x4), some (wi x5)] [] V1 (zi K))))) : vwp E d M_X12_firstBest 43 [some (sl 6 0), some (wi x1), some (wi x2), some (wi x3), some (wi x4), some (wi x5)] [] V (zi K) := by
  intro G A hR
  obtain ⟨L, P, rfl, hS⟩ := hR
  have hx := Xt.refl (V := pl G A L P) (A := A)
  show wp E d M_X12_firstBest 43 [some (vr (A 6 0)), some (vi x1), some (vi x2), some (vi x3), some (vi x4), some (vi x5)] [] G _
  refine v_X12_firstBest_43 h0 ?_
  refine ⟨fun hc => ?_, fun hc => ?_⟩
  · have h := h.1 hc
    exact wp.mono (h G A ⟨L, P, rfl, hS⟩) (fun r G' q => qx_trans hx q)
  · have h := h.2 hc
    refine ⟨hS.o (s6_0 hS), ?_⟩
    refine wpM.mono (h G A ⟨L, P, rfl, hS⟩) (fun rr1 G1 hr => ?_)
    obtain ⟨A1, W1, w1, ⟨L1, P1, rfl, hS1⟩, hy1, rfl, r1, rfl, h⟩ := hr
    refine ⟨r1, rfl, ?_⟩
    have hx1 := Xt.trans hx hy1
    have ee2 : A1 6 0 = A 6 0 := hy1.2 _ _ hS.1.2.1 (((n6_0 hS1)).trans ((n6_0 hS)).symm)
    try rw [← ee2]
    refine ⟨fun hc => ?_, fun hc => ?_⟩
    · have h := h.1 hc
      exact wp.mono (h G1 A1 ⟨L1, P1, rfl, hS1⟩) (fun r G' q => qx_trans hx1 q)
    · have h := h.2 hc
      exact wp.mono (h G1 A1 ⟨L1, P1, rfl, hS1⟩) (fun r G' q => qx_trans hx1 q)
theorem w_X12_firstBest_59 {E : EE} {d : Nat} {V : VH} {K : Int32 → VH → Prop} {x1 : Int32} {x2 : Int32} {x3 : Int32} {x4 : Int32} {x5 : Int32}  (h : vwp E d M_X12_firstBest 63 [some (sl 6 0), some (wi x1), some (wi x2), some (wi x3), some (wi x5), some (wi x5)] [] V (zi K)) : vwp E d M_X12_firstBest 59 [some (sl 6 0), some (wi x1), some (wi x2), some (wi x3), some (wi x4), some (wi x5)] [] V (zi K) := by
  intro G A hR
  obtain ⟨L, P, rfl, hS⟩ := hR
  have hx := Xt.refl (V := pl G A L P) (A := A)
  show wp E d M_X12_firstBest 59 [some (vr (A 6 0)), some (vi x1), some (vi x2), some (vi x3), some (vi x4), some (vi x5)] [] G _
  refine v_X12_firstBest_59 ?_
  exact wp.mono (h G A ⟨L, P, rfl, hS⟩) (fun r G' q => qx_trans hx q)
theorem w_X12_firstBest_63 {E : EE} {d : Nat} {V : VH} {K : Int32 → VH → Prop} {x1 : Int32} {x2 : Int32} {x3 : Int32} {x4 : Int32} {x5 : Int32}  (h : vwp E d M_X12_firstBest 6 [some (sl 6 0), some (wi x1), some (wi x2), some (wi x3), some (wi x4), some (wi (x5 + 1))] [] V (zi K)) : vwp E d M_X12_firstBest 63 [some (sl 6 0), some (wi x1), some (wi x2), some (wi x3), some (wi x4), some (wi x5)] [] V (zi K) := by
  intro G A hR
  obtain ⟨L, P, rfl, hS⟩ := hR
  have hx := Xt.refl (V := pl G A L P) (A := A)
  show wp E d M_X12_firstBest 63 [some (vr (A 6 0)), some (vi x1), some (vi x2), some (vi x3), some (vi x4), some (vi x5)] [] G _
  refine v_X12_firstBest_63 ?_
  exact wp.mono (h G A ⟨L, P, rfl, hS⟩) (fun r G' q => qx_trans hx q)
theorem w_X12_whyNot_0 {E : EE} {d : Nat} {V : VH} {K : Int64 → VH → Prop} {x1 : Int32} {x2 : Int32} {x3 : Int32} {x4 : Int32}  (h0 : 0 < d) (h : vMI E (d - 1) M_X12_isVar [sl 6 0, wi x1, wi x2] V (fun r1 V1 => (r1 = 0 → K (-9223372036854775808) V1) ∧ (¬ (r1 = 0) → vMI E (d - 1) M_X12_isLevel [wi x4] V1 (fun r3 V3 => (¬ r3 = 0 → vMV E (d - 1) M_X12_know [sl 6 0, wi x1] V3 (fun V5 => vMI E (d - 1) M_X12_bestWith [sl 6 0, wi x1, wi x2, wi x3] V5 (fun r7 V7 => (0 ≤ r7 → vp_in ((20000 * x4) + r7) 60000 ∧ (K (vJ V7 6 45 (Int32.toNatClampNeg ((20000 * x4) + r7))) V7)) ∧ (¬ (0 ≤ r7) → K (-9223372036854775808) V7)))) ∧ (r3 = 0 → K (-9223372036854775808) V3))))) : vMJ E d M_X12_whyNot [sl 6 0, wi x1, wi x2, wi x3, wi x4] V K := by
  intro G A hR
  obtain ⟨L, P, rfl, hS⟩ := hR
  have hx := Xt.refl (V := pl G A L P) (A := A)
  show wpM E d M_X12_whyNot [vr (A 6 0), vi x1, vi x2, vi x3, vi x4] G _
  refine wpM_of mk_X12_whyNot (Nat.le_of_ble_eq_true rfl) ?_
  refine v_X12_whyNot_0 h0 ?_
  refine ⟨hS.o (s6_0 hS), ?_⟩
  refine wpM.mono (h G A ⟨L, P, rfl, hS⟩) (fun rr1 G1 hr => ?_)
  obtain ⟨A1, W1, w1, ⟨L1, P1, rfl, hS1⟩, hy1, rfl, r1, rfl, h⟩ := hr
  refine ⟨r1, rfl, ?_⟩
  have hx1 := Xt.trans hx hy1
  have ee2 : A1 6 0 = A 6 0 := hy1.2 _ _ hS.1.2.1 (((n6_0 hS1)).trans ((n6_0 hS)).symm)
  try rw [← ee2]
  refine ⟨fun hc => ?_, fun hc => ?_⟩
  · have h := h.1 hc
    exact qx_j hS1 hx1 h
  · have h := h.2 hc
    refine wpM.mono (h G1 A1 ⟨L1, P1, rfl, hS1⟩) (fun rr3 G3 hr => ?_)
    obtain ⟨A3, W3, w3, ⟨L3, P3, rfl, hS3⟩, hy3, rfl, r3, rfl, h⟩ := hr
    refine ⟨r3, rfl, ?_⟩
    have hx3 := Xt.trans hx1 hy3
    have ee4 : A3 6 0 = A1 6 0 := hy3.2 _ _ hS1.1.2.1 (((n6_0 hS3)).trans ((n6_0 hS1)).symm)
    try rw [← ee4]
    refine ⟨fun hc => ?_, fun hc => ?_⟩
    · have h := h.1 hc
      refine ⟨hS3.o (s6_0 hS3), ?_⟩
      refine wpM.mono (h G3 A3 ⟨L3, P3, rfl, hS3⟩) (fun rr5 G5 hr => ?_)
      obtain ⟨A5, W5, w5, ⟨L5, P5, rfl, hS5⟩, hy5, rfl, rfl, h⟩ := hr
      refine ⟨rfl, ?_⟩
      have hx5 := Xt.trans hx3 hy5
      have ee6 : A5 6 0 = A3 6 0 := hy5.2 _ _ hS3.1.2.1 (((n6_0 hS5)).trans ((n6_0 hS3)).symm)
      try rw [← ee6]
      refine ⟨hS5.o (s6_0 hS5), ?_⟩
      refine wpM.mono (h G5 A5 ⟨L5, P5, rfl, hS5⟩) (fun rr7 G7 hr => ?_)
      obtain ⟨A7, W7, w7, ⟨L7, P7, rfl, hS7⟩, hy7, rfl, r7, rfl, h⟩ := hr
      refine ⟨r7, rfl, ?_⟩
      have hx7 := Xt.trans hx5 hy7
      have ee8 : A7 6 0 = A5 6 0 := hy7.2 _ _ hS5.1.2.1 (((n6_0 hS7)).trans ((n6_0 hS5)).symm)
      try rw [← ee8]
      refine ⟨fun hc => ?_, fun hc => ?_⟩
      · have h := h.1 hc
        refine ⟨hS7.o (s6_0 hS7), ?_⟩
        rw [l6_0_66 hS7]
        refine ⟨hS7.o (s6_45 hS7), ?_⟩
        obtain ⟨hi9, h⟩ := h
        refine ⟨by first | (rw [(n6_45 hS7)]; exact hi9) | exact (congrArg (vp_in _) (n6_45 hS7)).mpr hi9 | exact hi9, ?_⟩
        exact qx_j hS7 hx7 h
      · have h := h.2 hc
        exact qx_j hS7 hx7 h
    · have h := h.2 hc
      exact qx_j hS3 hx3 h
theorem w_X12_without_0 {E : EE} {d : Nat} {V : VH} {K : Int64 → VH → Prop} {x1 : Int32} {x2 : Int32} {x3 : Int32}  (h0 : 0 < d) (h : vMI E (d - 1) M_X12_isRule [sl 6 0, wi x1, wi x2] V (fun r1 V1 => (r1 = 0 → K (-9223372036854775808) V1) ∧ (¬ (r1 = 0) → vMI E (d - 1) M_X12_isLevel [wi x3] V1 (fun r3 V3 => (¬ r3 = 0 → vMV E (d - 1) M_X12_know [sl 6 0, wi x1] V3 (fun V5 => vp_in ((24 * x1) + x2) 120 ∧ (vwp E d M_X12_without 41 [some (sl 6 0), some (wi x1), some (wi x2), some (wi x3), some (wi (vI V5 6 24 (Int32.toNatClampNeg ((24 * x1) + x2)))), some (wi 0), none, none, none] [] V5 (zj K)))) ∧ (r3 = 0 → K (-9223372036854775808) V3))))) : vMJ E d M_X12_without [sl 6 0, wi x1, wi x2, wi x3] V K := by
  intro G A hR
  obtain ⟨L, P, rfl, hS⟩ := hR
  have hx := Xt.refl (V := pl G A L P) (A := A)
  show wpM E d M_X12_without [vr (A 6 0), vi x1, vi x2, vi x3] G _
  refine wpM_of mk_X12_without (Nat.le_of_ble_eq_true rfl) ?_
  refine v_X12_without_0 h0 ?_
  refine ⟨hS.o (s6_0 hS), ?_⟩
  refine wpM.mono (h G A ⟨L, P, rfl, hS⟩) (fun rr1 G1 hr => ?_)
  obtain ⟨A1, W1, w1, ⟨L1, P1, rfl, hS1⟩, hy1, rfl, r1, rfl, h⟩ := hr
  refine ⟨r1, rfl, ?_⟩
  have hx1 := Xt.trans hx hy1
  have ee2 : A1 6 0 = A 6 0 := hy1.2 _ _ hS.1.2.1 (((n6_0 hS1)).trans ((n6_0 hS)).symm)
  try rw [← ee2]
  refine ⟨fun hc => ?_, fun hc => ?_⟩
  · have h := h.1 hc
    exact qx_j hS1 hx1 h
  · have h := h.2 hc
    refine wpM.mono (h G1 A1 ⟨L1, P1, rfl, hS1⟩) (fun rr3 G3 hr => ?_)
    obtain ⟨A3, W3, w3, ⟨L3, P3, rfl, hS3⟩, hy3, rfl, r3, rfl, h⟩ := hr
    refine ⟨r3, rfl, ?_⟩
    have hx3 := Xt.trans hx1 hy3
    have ee4 : A3 6 0 = A1 6 0 := hy3.2 _ _ hS1.1.2.1 (((n6_0 hS3)).trans ((n6_0 hS1)).symm)
    try rw [← ee4]
    refine ⟨fun hc => ?_, fun hc => ?_⟩
    · have h := h.1 hc
      refine ⟨hS3.o (s6_0 hS3), ?_⟩
      refine wpM.mono (h G3 A3 ⟨L3, P3, rfl, hS3⟩) (fun rr5 G5 hr => ?_)
      obtain ⟨A5, W5, w5, ⟨L5, P5, rfl, hS5⟩, hy5, rfl, rfl, h⟩ := hr
      refine ⟨rfl, ?_⟩
      have hx5 := Xt.trans hx3 hy5
      have ee6 : A5 6 0 = A3 6 0 := hy5.2 _ _ hS3.1.2.1 (((n6_0 hS5)).trans ((n6_0 hS3)).symm)
      try rw [← ee6]
      refine ⟨hS5.o (s6_0 hS5), ?_⟩
      rw [l6_0_27 hS5]
      refine ⟨hS5.o (s6_24 hS5), ?_⟩
      obtain ⟨hi7, h⟩ := h
      refine ⟨by first | (rw [(n6_24 hS5)]; exact hi7) | exact (congrArg (vp_in _) (n6_24 hS5)).mpr hi7 | exact hi7, ?_⟩
      exact wp.mono (h G5 A5 ⟨L5, P5, rfl, hS5⟩) (fun r G' q => qx_trans hx5 q)
    · have h := h.2 hc
      exact qx_j hS3 hx3 h
theorem w_X12_without_41 {E : EE} {d : Nat} {V : VH} {K : Int64 → VH → Prop} {x1 : Int32} {x2 : Int32} {x3 : Int32} {x4 : Int32} {x5 : Int32}  (h0 : 0 < d) (h : vp_in x1 5 ∧ (((vI V 6 22 (Int32.toNatClampNeg x1)) ≤ x5 → vMI E (d - 1) M_X12_firstBest [sl 6 0, wi x1, wi (-1), wi 0] V (fun r2 V2 => (0 ≤ r2 → vp_in ((20000 * x3) + r2) 60000 ∧ (vwp E d M_X12_without 135 [some (sl 6 0), some (wi x1), some (wi x2), some (wi x3), some (wi x4), some (wi r2), none, none, none] [wj (vJ V2 6 45 (Int32.toNatClampNeg ((20000 * x3) + r2)))] V2 (zj K))) ∧ (¬ (0 ≤ r2) → vwp E d M_X12_without 135 [some (sl 6 0), some (wi x1), some (wi x2), some (wi x3), some (wi x4), some (wi r2), none, none, none] [wj (-9223372036854775808)] V2 (zj K)))) ∧ (¬ ((vI V 6 22 (Int32.toNatClampNeg x1)) ≤ x5) → vp_in ((20000 * x4) + x5) 60000 ∧ (vp_in ((24 * x1) + x2) 120 ∧ (vp_in ((20000 * x2) + x5) 480000 ∧ (vp_in ((20000 * x4) + x5) 60000 ∧ (∀ V9 : VH, V9 = wrJ V 6 45 (Int32.toNatClampNeg ((20000 * x4) + x5)) ((vJ V 6 45 (Int32.toNatClampNeg ((20000 * x4) + x5))) - ((Int32.toInt64 (vI V 6 25 (Int32.toNatClampNeg ((24 * x1) + x2)))) * (Int32.toInt64 (vI V 6 43 (Int32.toNatClampNeg ((20000 * x2) + x5)))))) → vwp E d M_X12_without 41 [some (sl 6 0), some (wi x1), some (wi x2), some (wi x3), some (wi x4), some (wi (x5 + 1)), none, none, none] [] V9 (zj K)))))))) : vwp E d M_X12_without 41 [some (sl 6 0), some (wi x1), some (wi x2), some (wi x3), some (wi x4), some (wi x5), none, none, none] [] V (zj K) := by
  intro G A hR
  obtain ⟨L, P, rfl, hS⟩ := hR
  have hx := Xt.refl (V := pl G A L P) (A := A)
  show wp E d M_X12_without 41 [some (vr (A 6 0)), some (vi x1), some (vi x2), some (vi x3), some (vi x4), some (vi x5), none, none, none] [] G _
  refine v_X12_without_41 h0 ?_
  refine ⟨hS.o (s6_0 hS), ?_⟩
  rw [l6_0_25 hS]
  refine ⟨hS.o (s6_22 hS), ?_⟩
  obtain ⟨hi1, h⟩ := h
  refine ⟨by first | (rw [(n6_22 hS)]; exact hi1) | exact (congrArg (vp_in _) (n6_22 hS)).mpr hi1 | exact hi1, ?_⟩
  refine ⟨fun hc => ?_, fun hc => ?_⟩
  · have h := h.1 hc
    refine wpM.mono (h G A ⟨L, P, rfl, hS⟩) (fun rr2 G2 hr => ?_)
    obtain ⟨A2, W2, w2, ⟨L2, P2, rfl, hS2⟩, hy2, rfl, r2, rfl, h⟩ := hr
    refine ⟨r2, rfl, ?_⟩
    have hx2 := Xt.trans hx hy2
    have ee3 : A2 6 0 = A 6 0 := hy2.2 _ _ hS.1.2.1 (((n6_0 hS2)).trans ((n6_0 hS)).symm)
    try rw [← ee3]
    refine ⟨fun hc => ?_, fun hc => ?_⟩
    · have h := h.1 hc
      refine ⟨hS2.o (s6_0 hS2), ?_⟩
      rw [l6_0_66 hS2]
      refine ⟨hS2.o (s6_45 hS2), ?_⟩
      obtain ⟨hi4, h⟩ := h
      refine ⟨by first | (rw [(n6_45 hS2)]; exact hi4) | exact (congrArg (vp_in _) (n6_45 hS2)).mpr hi4 | exact hi4, ?_⟩
      exact wp.mono (h G2 A2 ⟨L2, P2, rfl, hS2⟩) (fun r G' q => qx_trans hx2 q)
    · have h := h.2 hc
      exact wp.mono (h G2 A2 ⟨L2, P2, rfl, hS2⟩) (fun r G' q => qx_trans hx2 q)
  · have h := h.2 hc
    rw [l6_0_66 hS]
    refine ⟨hS.o (s6_45 hS), ?_⟩
    obtain ⟨hi5, h⟩ := h
    refine ⟨by first | (rw [(n6_45 hS)]; exact hi5) | exact (congrArg (vp_in _) (n6_45 hS)).mpr hi5 | exact hi5, ?_⟩
    rw [l6_0_28 hS]
    refine ⟨hS.o (s6_25 hS), ?_⟩
    obtain ⟨hi6, h⟩ := h
    refine ⟨by first | (rw [(n6_25 hS)]; exact hi6) | exact (congrArg (vp_in _) (n6_25 hS)).mpr hi6 | exact hi6, ?_⟩
    rw [l6_0_64 hS]
    refine ⟨hS.o (s6_43 hS), ?_⟩
    obtain ⟨hi7, h⟩ := h
    refine ⟨by first | (rw [(n6_43 hS)]; exact hi7) | exact (congrArg (vp_in _) (n6_43 hS)).mpr hi7 | exact hi7, ?_⟩
    obtain ⟨hi8, h⟩ := h
    refine ⟨by first | (rw [(n6_45 hS)]; exact hi8) | exact (congrArg (vp_in _) (n6_45 hS)).mpr hi8 | exact hi8, ?_⟩
    have hS9 : Sh E (sJ G (A 6 45) (Int32.toNatClampNeg ((20000 * x4) + x5)) ((gJ G (A 6 45) (Int32.toNatClampNeg ((20000 * x4) + x5))) - ((Int32.toInt64 (gI G (A 6 25) (Int32.toNatClampNeg ((24 * x1) + x2)))) * (Int32.toInt64 (gI G (A 6 43) (Int32.toNatClampNeg ((20000 * x2) + x5))))))) A L P := Sh_sJ (rfl : sJ G (A 6 45) (Int32.toNatClampNeg ((20000 * x4) + x5)) ((gJ G (A 6 45) (Int32.toNatClampNeg ((20000 * x4) + x5))) - ((Int32.toInt64 (gI G (A 6 25) (Int32.toNatClampNeg ((24 * x1) + x2)))) * (Int32.toInt64 (gI G (A 6 43) (Int32.toNatClampNeg ((20000 * x2) + x5)))))) = sJ G (A 6 45) (Int32.toNatClampNeg ((20000 * x4) + x5)) ((gJ G (A 6 45) (Int32.toNatClampNeg ((20000 * x4) + x5))) - ((Int32.toInt64 (gI G (A 6 25) (Int32.toNatClampNeg ((24 * x1) + x2)))) * (Int32.toInt64 (gI G (A 6 43) (Int32.toNatClampNeg ((20000 * x2) + x5))))))) hS
    have h := h (pl (sJ G (A 6 45) (Int32.toNatClampNeg ((20000 * x4) + x5)) ((gJ G (A 6 45) (Int32.toNatClampNeg ((20000 * x4) + x5))) - ((Int32.toInt64 (gI G (A 6 25) (Int32.toNatClampNeg ((24 * x1) + x2)))) * (Int32.toInt64 (gI G (A 6 43) (Int32.toNatClampNeg ((20000 * x2) + x5))))))) A L P) (pl_sJ (rfl : sJ G (A 6 45) (Int32.toNatClampNeg ((20000 * x4) + x5)) ((gJ G (A 6 45) (Int32.toNatClampNeg ((20000 * x4) + x5))) - ((Int32.toInt64 (gI G (A 6 25) (Int32.toNatClampNeg ((24 * x1) + x2)))) * (Int32.toInt64 (gI G (A 6 43) (Int32.toNatClampNeg ((20000 * x2) + x5)))))) = sJ G (A 6 45) (Int32.toNatClampNeg ((20000 * x4) + x5)) ((gJ G (A 6 45) (Int32.toNatClampNeg ((20000 * x4) + x5))) - ((Int32.toInt64 (gI G (A 6 25) (Int32.toNatClampNeg ((24 * x1) + x2)))) * (Int32.toInt64 (gI G (A 6 43) (Int32.toNatClampNeg ((20000 * x2) + x5))))))) hS (s6_45 hS))
    have hx9 : Xt (pl G A L P) A (pl (sJ G (A 6 45) (Int32.toNatClampNeg ((20000 * x4) + x5)) ((gJ G (A 6 45) (Int32.toNatClampNeg ((20000 * x4) + x5))) - ((Int32.toInt64 (gI G (A 6 25) (Int32.toNatClampNeg ((24 * x1) + x2)))) * (Int32.toInt64 (gI G (A 6 43) (Int32.toNatClampNeg ((20000 * x2) + x5))))))) A L P) A := Xt_sJ (rfl : sJ G (A 6 45) (Int32.toNatClampNeg ((20000 * x4) + x5)) ((gJ G (A 6 45) (Int32.toNatClampNeg ((20000 * x4) + x5))) - ((Int32.toInt64 (gI G (A 6 25) (Int32.toNatClampNeg ((24 * x1) + x2)))) * (Int32.toInt64 (gI G (A 6 43) (Int32.toNatClampNeg ((20000 * x2) + x5)))))) = sJ G (A 6 45) (Int32.toNatClampNeg ((20000 * x4) + x5)) ((gJ G (A 6 45) (Int32.toNatClampNeg ((20000 * x4) + x5))) - ((Int32.toInt64 (gI G (A 6 25) (Int32.toNatClampNeg ((24 * x1) + x2)))) * (Int32.toInt64 (gI G (A 6 43) (Int32.toNatClampNeg ((20000 * x2) + x5))))))) hx
    exact wp.mono (h (sJ G (A 6 45) (Int32.toNatClampNeg ((20000 * x4) + x5)) ((gJ G (A 6 45) (Int32.toNatClampNeg ((20000 * x4) + x5))) - ((Int32.toInt64 (gI G (A 6 25) (Int32.toNatClampNeg ((24 * x1) + x2)))) * (Int32.toInt64 (gI G (A 6 43) (Int32.toNatClampNeg ((20000 * x2) + x5))))))) A ⟨L, P, rfl, hS9⟩) (fun r G' q => qx_trans hx9 q)
theorem w_X12_without_135 {E : EE} {d : Nat} {V : VH} {K : Int64 → VH → Prop} {x1 : Int32} {x2 : Int32} {x3 : Int32} {x4 : Int32} {x5 : Int32} {t0 : Int64}  (h : vwp E d M_X12_without 140 [some (sl 6 0), some (wi x1), some (wi x2), some (wi x3), some (wi x4), some (wi x5), some (wj t0), none, some (wi 0)] [] V (zj K)) : vwp E d M_X12_without 135 [some (sl 6 0), some (wi x1), some (wi x2), some (wi x3), some (wi x4), some (wi x5), none, none, none] [wj t0] V (zj K) := by
  intro G A hR
  obtain ⟨L, P, rfl, hS⟩ := hR
  have hx := Xt.refl (V := pl G A L P) (A := A)
  show wp E d M_X12_without 135 [some (vr (A 6 0)), some (vi x1), some (vi x2), some (vi x3), some (vi x4), some (vi x5), none, none, none] [vj t0] G _
  refine v_X12_without_135 ?_
  exact wp.mono (h G A ⟨L, P, rfl, hS⟩) (fun r G' q => qx_trans hx q)
theorem w_X12_without_140 {E : EE} {d : Nat} {V : VH} {K : Int64 → VH → Prop} {x1 : Int32} {x2 : Int32} {x3 : Int32} {x4 : Int32} {x5 : Int32} {x6 : Int64} {x8 : Int32}  (h : vp_in x1 5 ∧ (((vI V 6 22 (Int32.toNatClampNeg x1)) ≤ x8 → K x6 V) ∧ (¬ ((vI V 6 22 (Int32.toNatClampNeg x1)) ≤ x8) → vp_in ((20000 * x4) + x8) 60000 ∧ (vp_in ((24 * x1) + x2) 120 ∧ (vp_in ((20000 * x2) + x8) 480000 ∧ (vp_in ((20000 * x4) + x8) 60000 ∧ (∀ V6 : VH, V6 = wrJ V 6 45 (Int32.toNatClampNeg ((20000 * x4) + x8)) ((vJ V 6 45 (Int32.toNatClampNeg ((20000 * x4) + x8))) + ((Int32.toInt64 (vI V 6 25 (Int32.toNatClampNeg ((24 * x1) + x2)))) * (Int32.toInt64 (vI V 6 43 (Int32.toNatClampNeg ((20000 * x2) + x8)))))) → vwp E d M_X12_without 140 [some (sl 6 0), some (wi x1), some (wi x2), some (wi x3), some (wi x4), some (wi x5), some (wj x6), none, some (wi (x8 + 1))] [] V6 (zj K)))))))) : vwp E d M_X12_without 140 [some (sl 6 0), some (wi x1), some (wi x2), some (wi x3), some (wi x4), some (wi x5), some (wj x6), none, some (wi x8)] [] V (zj K) := by
  intro G A hR
  obtain ⟨L, P, rfl, hS⟩ := hR
  have hx := Xt.refl (V := pl G A L P) (A := A)
  show wp E d M_X12_without 140 [some (vr (A 6 0)), some (vi x1), some (vi x2), some (vi x3), some (vi x4), some (vi x5), some (vj x6), none, some (vi x8)] [] G _
  refine v_X12_without_140 ?_
  refine ⟨hS.o (s6_0 hS), ?_⟩
  rw [l6_0_25 hS]
  refine ⟨hS.o (s6_22 hS), ?_⟩
  obtain ⟨hi1, h⟩ := h
  refine ⟨by first | (rw [(n6_22 hS)]; exact hi1) | exact (congrArg (vp_in _) (n6_22 hS)).mpr hi1 | exact hi1, ?_⟩
  refine ⟨fun hc => ?_, fun hc => ?_⟩
  · have h := h.1 hc
    exact qx_j hS hx h
  · have h := h.2 hc
    rw [l6_0_66 hS]
    refine ⟨hS.o (s6_45 hS), ?_⟩
    obtain ⟨hi2, h⟩ := h
    refine ⟨by first | (rw [(n6_45 hS)]; exact hi2) | exact (congrArg (vp_in _) (n6_45 hS)).mpr hi2 | exact hi2, ?_⟩
    rw [l6_0_28 hS]
    refine ⟨hS.o (s6_25 hS), ?_⟩
    obtain ⟨hi3, h⟩ := h
    refine ⟨by first | (rw [(n6_25 hS)]; exact hi3) | exact (congrArg (vp_in _) (n6_25 hS)).mpr hi3 | exact hi3, ?_⟩
    rw [l6_0_64 hS]
    refine ⟨hS.o (s6_43 hS), ?_⟩
    obtain ⟨hi4, h⟩ := h
    refine ⟨by first | (rw [(n6_43 hS)]; exact hi4) | exact (congrArg (vp_in _) (n6_43 hS)).mpr hi4 | exact hi4, ?_⟩
    obtain ⟨hi5, h⟩ := h
    refine ⟨by first | (rw [(n6_45 hS)]; exact hi5) | exact (congrArg (vp_in _) (n6_45 hS)).mpr hi5 | exact hi5, ?_⟩
    have hS6 : Sh E (sJ G (A 6 45) (Int32.toNatClampNeg ((20000 * x4) + x8)) ((gJ G (A 6 45) (Int32.toNatClampNeg ((20000 * x4) + x8))) + ((Int32.toInt64 (gI G (A 6 25) (Int32.toNatClampNeg ((24 * x1) + x2)))) * (Int32.toInt64 (gI G (A 6 43) (Int32.toNatClampNeg ((20000 * x2) + x8))))))) A L P := Sh_sJ (rfl : sJ G (A 6 45) (Int32.toNatClampNeg ((20000 * x4) + x8)) ((gJ G (A 6 45) (Int32.toNatClampNeg ((20000 * x4) + x8))) + ((Int32.toInt64 (gI G (A 6 25) (Int32.toNatClampNeg ((24 * x1) + x2)))) * (Int32.toInt64 (gI G (A 6 43) (Int32.toNatClampNeg ((20000 * x2) + x8)))))) = sJ G (A 6 45) (Int32.toNatClampNeg ((20000 * x4) + x8)) ((gJ G (A 6 45) (Int32.toNatClampNeg ((20000 * x4) + x8))) + ((Int32.toInt64 (gI G (A 6 25) (Int32.toNatClampNeg ((24 * x1) + x2)))) * (Int32.toInt64 (gI G (A 6 43) (Int32.toNatClampNeg ((20000 * x2) + x8))))))) hS
    have h := h (pl (sJ G (A 6 45) (Int32.toNatClampNeg ((20000 * x4) + x8)) ((gJ G (A 6 45) (Int32.toNatClampNeg ((20000 * x4) + x8))) + ((Int32.toInt64 (gI G (A 6 25) (Int32.toNatClampNeg ((24 * x1) + x2)))) * (Int32.toInt64 (gI G (A 6 43) (Int32.toNatClampNeg ((20000 * x2) + x8))))))) A L P) (pl_sJ (rfl : sJ G (A 6 45) (Int32.toNatClampNeg ((20000 * x4) + x8)) ((gJ G (A 6 45) (Int32.toNatClampNeg ((20000 * x4) + x8))) + ((Int32.toInt64 (gI G (A 6 25) (Int32.toNatClampNeg ((24 * x1) + x2)))) * (Int32.toInt64 (gI G (A 6 43) (Int32.toNatClampNeg ((20000 * x2) + x8)))))) = sJ G (A 6 45) (Int32.toNatClampNeg ((20000 * x4) + x8)) ((gJ G (A 6 45) (Int32.toNatClampNeg ((20000 * x4) + x8))) + ((Int32.toInt64 (gI G (A 6 25) (Int32.toNatClampNeg ((24 * x1) + x2)))) * (Int32.toInt64 (gI G (A 6 43) (Int32.toNatClampNeg ((20000 * x2) + x8))))))) hS (s6_45 hS))
    have hx6 : Xt (pl G A L P) A (pl (sJ G (A 6 45) (Int32.toNatClampNeg ((20000 * x4) + x8)) ((gJ G (A 6 45) (Int32.toNatClampNeg ((20000 * x4) + x8))) + ((Int32.toInt64 (gI G (A 6 25) (Int32.toNatClampNeg ((24 * x1) + x2)))) * (Int32.toInt64 (gI G (A 6 43) (Int32.toNatClampNeg ((20000 * x2) + x8))))))) A L P) A := Xt_sJ (rfl : sJ G (A 6 45) (Int32.toNatClampNeg ((20000 * x4) + x8)) ((gJ G (A 6 45) (Int32.toNatClampNeg ((20000 * x4) + x8))) + ((Int32.toInt64 (gI G (A 6 25) (Int32.toNatClampNeg ((24 * x1) + x2)))) * (Int32.toInt64 (gI G (A 6 43) (Int32.toNatClampNeg ((20000 * x2) + x8)))))) = sJ G (A 6 45) (Int32.toNatClampNeg ((20000 * x4) + x8)) ((gJ G (A 6 45) (Int32.toNatClampNeg ((20000 * x4) + x8))) + ((Int32.toInt64 (gI G (A 6 25) (Int32.toNatClampNeg ((24 * x1) + x2)))) * (Int32.toInt64 (gI G (A 6 43) (Int32.toNatClampNeg ((20000 * x2) + x8))))))) hx
    exact wp.mono (h (sJ G (A 6 45) (Int32.toNatClampNeg ((20000 * x4) + x8)) ((gJ G (A 6 45) (Int32.toNatClampNeg ((20000 * x4) + x8))) + ((Int32.toInt64 (gI G (A 6 25) (Int32.toNatClampNeg ((24 * x1) + x2)))) * (Int32.toInt64 (gI G (A 6 43) (Int32.toNatClampNeg ((20000 * x2) + x8))))))) A ⟨L, P, rfl, hS6⟩) (fun r G' q => qx_trans hx6 q)
theorem w_X12_isRule_0 {E : EE} {d : Nat} {V : VH} {K : Int32 → VH → Prop} {x1 : Int32} {x2 : Int32}  (h0 : 0 < d) (h : vMI E (d - 1) M_X12_isProblem [sl 6 0, wi x1] V (fun r1 V1 => (r1 = 0 → K 0 V1) ∧ (¬ (r1 = 0) → (x2 < 0 → K 0 V1) ∧ (¬ (x2 < 0) → vMI E (d - 1) M_X12_rulesOf [sl 6 0, wi x1] V1 (fun r3 V3 => (r3 ≤ x2 → K 0 V3) ∧ (¬ (r3 ≤ x2) → K 1 V3)))))) : vMI E d M_X12_isRule [sl 6 0, wi x1, wi x2] V K := by
  intro G A hR
  obtain ⟨L, P, rfl, hS⟩ := hR
  have hx := Xt.refl (V := pl G A L P) (A := A)
  show wpM E d M_X12_isRule [vr (A 6 0), vi x1, vi x2] G _
  refine wpM_of mk_X12_isRule (Nat.le_of_ble_eq_true rfl) ?_
  refine v_X12_isRule_0 h0 ?_
  refine ⟨hS.o (s6_0 hS), ?_⟩
  refine wpM.mono (h G A ⟨L, P, rfl, hS⟩) (fun rr1 G1 hr => ?_)
  obtain ⟨A1, W1, w1, ⟨L1, P1, rfl, hS1⟩, hy1, rfl, r1, rfl, h⟩ := hr
  refine ⟨r1, rfl, ?_⟩
  have hx1 := Xt.trans hx hy1
  have ee2 : A1 6 0 = A 6 0 := hy1.2 _ _ hS.1.2.1 (((n6_0 hS1)).trans ((n6_0 hS)).symm)
  try rw [← ee2]
  refine ⟨fun hc => ?_, fun hc => ?_⟩
  · have h := h.1 hc
    exact qx_i hS1 hx1 h
  · have h := h.2 hc
    refine ⟨fun hc => ?_, fun hc => ?_⟩
    · have h := h.1 hc
      exact qx_i hS1 hx1 h
    · have h := h.2 hc
      refine ⟨hS1.o (s6_0 hS1), ?_⟩
      refine wpM.mono (h G1 A1 ⟨L1, P1, rfl, hS1⟩) (fun rr3 G3 hr => ?_)
      obtain ⟨A3, W3, w3, ⟨L3, P3, rfl, hS3⟩, hy3, rfl, r3, rfl, h⟩ := hr
      refine ⟨r3, rfl, ?_⟩
      have hx3 := Xt.trans hx1 hy3
      have ee4 : A3 6 0 = A1 6 0 := hy3.2 _ _ hS1.1.2.1 (((n6_0 hS3)).trans ((n6_0 hS1)).symm)
      try rw [← ee4]
      refine ⟨fun hc => ?_, fun hc => ?_⟩
      · have h := h.1 hc
        exact qx_i hS3 hx3 h
      · have h := h.2 hc
        exact qx_i hS3 hx3 h
theorem w_X12_relax_0 {E : EE} {d : Nat} {V : VH} {K : Int32 → VH → Prop} {x1 : Int32}  (h0 : 0 < d) (h : vMI E (d - 1) M_X12_isProblem [sl 6 0, wi x1] V (fun r1 V1 => (¬ r1 = 0 → vMV E (d - 1) M_X12_findMasks [sl 6 0, wi x1] V1 (fun V3 => vwp E d M_X12_relax 22 [some (sl 6 0), some (wi x1), some (wi (-1)), some (wi 0), some (wi 0), none, none] [] V3 (zi K))) ∧ (r1 = 0 → K (-1) V1))) : vMI E d M_X12_relax [sl 6 0, wi x1] V K := by
  intro G A hR
  obtain ⟨L, P, rfl, hS⟩ := hR
  have hx := Xt.refl (V := pl G A L P) (A := A)
  show wpM E d M_X12_relax [vr (A 6 0), vi x1] G _
  refine wpM_of mk_X12_relax (Nat.le_of_ble_eq_true rfl) ?_
  refine v_X12_relax_0 h0 ?_
  refine ⟨hS.o (s6_0 hS), ?_⟩
  refine wpM.mono (h G A ⟨L, P, rfl, hS⟩) (fun rr1 G1 hr => ?_)
  obtain ⟨A1, W1, w1, ⟨L1, P1, rfl, hS1⟩, hy1, rfl, r1, rfl, h⟩ := hr
  refine ⟨r1, rfl, ?_⟩
  have hx1 := Xt.trans hx hy1
  have ee2 : A1 6 0 = A 6 0 := hy1.2 _ _ hS.1.2.1 (((n6_0 hS1)).trans ((n6_0 hS)).symm)
  try rw [← ee2]
  refine ⟨fun hc => ?_, fun hc => ?_⟩
  · have h := h.1 hc
    refine ⟨hS1.o (s6_0 hS1), ?_⟩
    refine wpM.mono (h G1 A1 ⟨L1, P1, rfl, hS1⟩) (fun rr3 G3 hr => ?_)
    obtain ⟨A3, W3, w3, ⟨L3, P3, rfl, hS3⟩, hy3, rfl, rfl, h⟩ := hr
    refine ⟨rfl, ?_⟩
    have hx3 := Xt.trans hx1 hy3
    have ee4 : A3 6 0 = A1 6 0 := hy3.2 _ _ hS1.1.2.1 (((n6_0 hS3)).trans ((n6_0 hS1)).symm)
    try rw [← ee4]
    exact wp.mono (h G3 A3 ⟨L3, P3, rfl, hS3⟩) (fun r G' q => qx_trans hx3 q)
  · have h := h.2 hc
    exact qx_i hS1 hx1 h
theorem w_X12_relax_22 {E : EE} {d : Nat} {V : VH} {K : Int32 → VH → Prop} {x1 : Int32} {x2 : Int32} {x3 : Int32} {x4 : Int32}  (h0 : 0 < d) (h : ((1 <<< ((vI V 6 0 73) &&& 31)) ≤ x4 → vMI E (d - 1) M_X12_numberOf [sl 6 0, wi x2] V (fun r1 V1 => K r1 V1)) ∧ (¬ ((1 <<< ((vI V 6 0 73) &&& 31)) ≤ x4) → vwp E d M_X12_relax 39 [some (sl 6 0), some (wi x1), some (wi x2), some (wi x3), some (wi x4), some (wi 0), some (wi 0)] [] V (zi K))) : vwp E d M_X12_relax 22 [some (sl 6 0), some (wi x1), some (wi x2), some (wi x3), some (wi x4), none, none] [] V (zi K) := by
  intro G A hR
  obtain ⟨L, P, rfl, hS⟩ := hR
  have hx := Xt.refl (V := pl G A L P) (A := A)
  show wp E d M_X12_relax 22 [some (vr (A 6 0)), some (vi x1), some (vi x2), some (vi x3), some (vi x4), none, none] [] G _
  refine v_X12_relax_22 h0 ?_
  refine ⟨hS.o (s6_0 hS), ?_⟩
  refine ⟨fun hc => ?_, fun hc => ?_⟩
  · have h := h.1 hc
    refine wpM.mono (h G A ⟨L, P, rfl, hS⟩) (fun rr1 G1 hr => ?_)
    obtain ⟨A1, W1, w1, ⟨L1, P1, rfl, hS1⟩, hy1, rfl, r1, rfl, h⟩ := hr
    refine ⟨r1, rfl, ?_⟩
    have hx1 := Xt.trans hx hy1
    have ee2 : A1 6 0 = A 6 0 := hy1.2 _ _ hS.1.2.1 (((n6_0 hS1)).trans ((n6_0 hS)).symm)
    try rw [← ee2]
    exact qx_i hS1 hx1 h
  · have h := h.2 hc
    exact wp.mono (h G A ⟨L, P, rfl, hS⟩) (fun r G' q => qx_trans hx q)
theorem w_X12_relax_39 {E : EE} {d : Nat} {V : VH} {K : Int32 → VH → Prop} {x1 : Int32} {x2 : Int32} {x3 : Int32} {x4 : Int32} {x5 : Int32} {x6 : Int32}  (h : ((vI V 6 0 73) ≤ x6 → vp_in x4 4096 ∧ (((vI V 6 48 (Int32.toNatClampNeg x4)) = 0 → vwp E d M_X12_relax 117 [some (sl 6 0), some (wi x1), some (wi x2), some (wi x3), some (wi x4), some (wi x5), some (wi x6)] [] V (zi K)) ∧ (¬ ((vI V 6 48 (Int32.toNatClampNeg x4)) = 0) → (x2 < 0 → vwp E d M_X12_relax 111 [some (sl 6 0), some (wi x1), some (wi x2), some (wi x3), some (wi x4), some (wi x5), some (wi x6)] [] V (zi K)) ∧ (¬ (x2 < 0) → (x3 ≤ x5 → vwp E d M_X12_relax 117 [some (sl 6 0), some (wi x1), some (wi x2), some (wi x3), some (wi x4), some (wi x5), some (wi x6)] [] V (zi K)) ∧ (¬ (x3 ≤ x5) → vwp E d M_X12_relax 111 [some (sl 6 0), some (wi x1), some (wi x2), some (wi x3), some (wi x4), some (wi x5), some (wi x6)] [] V (zi K)))))) ∧ (¬ ((vI V 6 0 73) ≤ x6) → (¬ ((x4 >>> (x6 &&& 31)) &&& 1) = 1 → vwp E d M_X12_relax 82 [some (sl 6 0), some (wi x1), some (wi x2), some (wi x3), some (wi x4), some (wi x5), some (wi x6)] [wi 0, wi x5] V (zi K)) ∧ (((x4 >>> (x6 &&& 31)) &&& 1) = 1 → vp_in x6 12 ∧ (vp_in ((24 * x1) + (vI V 6 49 (Int32.toNatClampNeg x6))) 120 ∧ (vwp E d M_X12_relax 82 [some (sl 6 0), some (wi x1), some (wi x2), some (wi x3), some (wi x4), some (wi x5), some (wi x6)] [wi (vI V 6 25 (Int32.toNatClampNeg ((24 * x1) + (vI V 6 49 (Int32.toNatClampNeg x6))))), wi x5] V (zi K)))))) : vwp E d M_X12_relax 39 [some (sl 6 0), some (wi x1), some (wi x2), some (wi x3), some (wi x4), some (wi x5), some (wi x6)] [] V (zi K) := by
  intro G A hR
  obtain ⟨L, P, rfl, hS⟩ := hR
  have hx := Xt.refl (V := pl G A L P) (A := A)
  show wp E d M_X12_relax 39 [some (vr (A 6 0)), some (vi x1), some (vi x2), some (vi x3), some (vi x4), some (vi x5), some (vi x6)] [] G _
  refine v_X12_relax_39 ?_
  refine ⟨hS.o (s6_0 hS), ?_⟩
  refine ⟨fun hc => ?_, fun hc => ?_⟩
  · have h := h.1 hc
    rw [l6_0_71 hS]
    refine ⟨hS.o (s6_48 hS), ?_⟩
    obtain ⟨hi1, h⟩ := h
    refine ⟨by first | (rw [(n6_48 hS)]; exact hi1) | exact (congrArg (vp_in _) (n6_48 hS)).mpr hi1 | exact hi1, ?_⟩
    refine ⟨fun hc => ?_, fun hc => ?_⟩
    · have h := h.1 hc
      exact wp.mono (h G A ⟨L, P, rfl, hS⟩) (fun r G' q => qx_trans hx q)
    · have h := h.2 hc
      refine ⟨fun hc => ?_, fun hc => ?_⟩
      · have h := h.1 hc
        exact wp.mono (h G A ⟨L, P, rfl, hS⟩) (fun r G' q => qx_trans hx q)
      · have h := h.2 hc
        refine ⟨fun hc => ?_, fun hc => ?_⟩
        · have h := h.1 hc
          exact wp.mono (h G A ⟨L, P, rfl, hS⟩) (fun r G' q => qx_trans hx q)
        · have h := h.2 hc
          exact wp.mono (h G A ⟨L, P, rfl, hS⟩) (fun r G' q => qx_trans hx q)
  · have h := h.2 hc
    refine ⟨fun hc => ?_, fun hc => ?_⟩
    · have h := h.1 hc
      exact wp.mono (h G A ⟨L, P, rfl, hS⟩) (fun r G' q => qx_trans hx q)
    · have h := h.2 hc
      rw [l6_0_28 hS]
      rw [l6_0_72 hS]
      refine ⟨hS.o (s6_49 hS), ?_⟩
      obtain ⟨hi2, h⟩ := h
      refine ⟨by first | (rw [(n6_49 hS)]; exact hi2) | exact (congrArg (vp_in _) (n6_49 hS)).mpr hi2 | exact hi2, ?_⟩
      refine ⟨hS.o (s6_25 hS), ?_⟩
      obtain ⟨hi3, h⟩ := h
      refine ⟨by first | (rw [(n6_25 hS)]; exact hi3) | exact (congrArg (vp_in _) (n6_25 hS)).mpr hi3 | exact hi3, ?_⟩
      exact wp.mono (h G A ⟨L, P, rfl, hS⟩) (fun r G' q => qx_trans hx q)
theorem w_X12_relax_82 {E : EE} {d : Nat} {V : VH} {K : Int32 → VH → Prop} {x1 : Int32} {x2 : Int32} {x3 : Int32} {x4 : Int32} {x5 : Int32} {x6 : Int32} {t0 : Int32} {t1 : Int32}  (h : vwp E d M_X12_relax 39 [some (sl 6 0), some (wi x1), some (wi x2), some (wi x3), some (wi x4), some (wi (t0 + t1)), some (wi (x6 + 1))] [] V (zi K)) : vwp E d M_X12_relax 82 [some (sl 6 0), some (wi x1), some (wi x2), some (wi x3), some (wi x4), some (wi x5), some (wi x6)] [wi t1, wi t0] V (zi K) := by
  intro G A hR
  obtain ⟨L, P, rfl, hS⟩ := hR
  have hx := Xt.refl (V := pl G A L P) (A := A)
  show wp E d M_X12_relax 82 [some (vr (A 6 0)), some (vi x1), some (vi x2), some (vi x3), some (vi x4), some (vi x5), some (vi x6)] [vi t1, vi t0] G _
  refine v_X12_relax_82 ?_
  exact wp.mono (h G A ⟨L, P, rfl, hS⟩) (fun r G' q => qx_trans hx q)
theorem w_X12_relax_111 {E : EE} {d : Nat} {V : VH} {K : Int32 → VH → Prop} {x1 : Int32} {x2 : Int32} {x3 : Int32} {x4 : Int32} {x5 : Int32} {x6 : Int32}  (h : vwp E d M_X12_relax 117 [some (sl 6 0), some (wi x1), some (wi x4), some (wi x5), some (wi x4), some (wi x5), some (wi x6)] [] V (zi K)) : vwp E d M_X12_relax 111 [some (sl 6 0), some (wi x1), some (wi x2), some (wi x3), some (wi x4), some (wi x5), some (wi x6)] [] V (zi K) := by
  intro G A hR
  obtain ⟨L, P, rfl, hS⟩ := hR
  have hx := Xt.refl (V := pl G A L P) (A := A)
  show wp E d M_X12_relax 111 [some (vr (A 6 0)), some (vi x1), some (vi x2), some (vi x3), some (vi x4), some (vi x5), some (vi x6)] [] G _
  refine v_X12_relax_111 ?_
  exact wp.mono (h G A ⟨L, P, rfl, hS⟩) (fun r G' q => qx_trans hx q)
theorem w_X12_relax_117 {E : EE} {d : Nat} {V : VH} {K : Int32 → VH → Prop} {x1 : Int32} {x2 : Int32} {x3 : Int32} {x4 : Int32} {x5 : Int32} {x6 : Int32}  (h : vwp E d M_X12_relax 22 [some (sl 6 0), some (wi x1), some (wi x2), some (wi x3), some (wi (x4 + 1)), none, none] [] V (zi K)) : vwp E d M_X12_relax 117 [some (sl 6 0), some (wi x1), some (wi x2), some (wi x3), some (wi x4), some (wi x5), some (wi x6)] [] V (zi K) := by
  intro G A hR
  obtain ⟨L, P, rfl, hS⟩ := hR
  have hx := Xt.refl (V := pl G A L P) (A := A)
  show wp E d M_X12_relax 117 [some (vr (A 6 0)), some (vi x1), some (vi x2), some (vi x3), some (vi x4), some (vi x5), some (vi x6)] [] G _
  refine v_X12_relax_117 ?_
  exact wp.mono (h G A ⟨L, P, rfl, hS⟩) (fun r G' q => qx_trans hx q)
theorem w_X12_findMasks_0 {E : EE} {d : Nat} {V : VH} {K : VH → Prop} {x1 : Int32}  (h0 : 0 < d) (h : vMV E (d - 1) M_X12_know [sl 6 0, wi x1] V (fun V1 => ∀ V3 : VH, V3 = wrI V1 6 0 73 0 → vwp E d M_X12_findMasks 12 [some (sl 6 0), some (wi x1), some (wi 0), none, none] [] V3 (zv K))) : vMV E d M_X12_findMasks [sl 6 0, wi x1] V K := by
  intro G A hR
  obtain ⟨L, P, rfl, hS⟩ := hR
  have hx := Xt.refl (V := pl G A L P) (A := A)
  show wpM E d M_X12_findMasks [vr (A 6 0), vi x1] G _
  refine wpM_of mk_X12_findMasks (Nat.le_of_ble_eq_true rfl) ?_
  refine v_X12_findMasks_0 h0 ?_
  refine ⟨hS.o (s6_0 hS), ?_⟩
  refine wpM.mono (h G A ⟨L, P, rfl, hS⟩) (fun rr1 G1 hr => ?_)
  obtain ⟨A1, W1, w1, ⟨L1, P1, rfl, hS1⟩, hy1, rfl, rfl, h⟩ := hr
  refine ⟨rfl, ?_⟩
  have hx1 := Xt.trans hx hy1
  have ee2 : A1 6 0 = A 6 0 := hy1.2 _ _ hS.1.2.1 (((n6_0 hS1)).trans ((n6_0 hS)).symm)
  try rw [← ee2]
  refine ⟨hS1.o (s6_0 hS1), ?_⟩
  have hS3 : Sh E (sI G1 (A1 6 0) 73 0) A1 L1 P1 := Sh_sI (rfl : sI G1 (A1 6 0) 73 0 = sI G1 (A1 6 0) 73 0) hS1 (s6_0 hS1) (okT_0 rfl)
  have h := h (pl (sI G1 (A1 6 0) 73 0) A1 L1 P1) (pl_sI (rfl : sI G1 (A1 6 0) 73 0 = sI G1 (A1 6 0) 73 0) hS1 (s6_0 hS1))
  have hx3 : Xt (pl G A L P) A (pl (sI G1 (A1 6 0) 73 0) A1 L1 P1) A1 := Xt_sI (rfl : sI G1 (A1 6 0) 73 0 = sI G1 (A1 6 0) 73 0) hx1
  exact wp.mono (h (sI G1 (A1 6 0) 73 0) A1 ⟨L1, P1, rfl, hS3⟩) (fun r G' q => qx_trans hx3 q)
theorem w_X12_findMasks_12 {E : EE} {d : Nat} {V : VH} {K : VH → Prop} {x1 : Int32} {x2 : Int32}  (h0 : 0 < d) (h : vMI E (d - 1) M_X12_rulesOf [sl 6 0, wi x1] V (fun r1 V1 => (r1 ≤ x2 → vwp E d M_X12_findMasks 63 [some (sl 6 0), some (wi x1), some (wi 0), none, none] [] V1 (zv K)) ∧ (¬ (r1 ≤ x2) → vp_in ((24 * x1) + x2) 120 ∧ ((¬ (vI V1 6 24 (Int32.toNatClampNeg ((24 * x1) + x2))) = 0 → vwp E d M_X12_findMasks 55 [some (sl 6 0), some (wi x1), some (wi x2), none, none] [] V1 (zv K)) ∧ ((vI V1 6 24 (Int32.toNatClampNeg ((24 * x1) + x2))) = 0 → vp_in (vI V1 6 0 73) 12 ∧ (∀ V5 : VH, V5 = wrI V1 6 49 (Int32.toNatClampNeg (vI V1 6 0 73)) x2 → ∀ V6 : VH, V6 = wrI V5 6 0 73 ((vI V5 6 0 73) + 1) → vwp E d M_X12_findMasks 55 [some (sl 6 0), some (wi x1), some (wi x2), none, none] [] V6 (zv K))))))) : vwp E d M_X12_findMasks 12 [some (sl 6 0), some (wi x1), some (wi x2), none, none] [] V (zv K) := by
  intro G A hR
  obtain ⟨L, P, rfl, hS⟩ := hR
  have hx := Xt.refl (V := pl G A L P) (A := A)
  show wp E d M_X12_findMasks 12 [some (vr (A 6 0)), some (vi x1), some (vi x2), none, none] [] G _
  refine v_X12_findMasks_12 h0 ?_
  refine ⟨hS.o (s6_0 hS), ?_⟩
  refine wpM.mono (h G A ⟨L, P, rfl, hS⟩) (fun rr1 G1 hr => ?_)
  obtain ⟨A1, W1, w1, ⟨L1, P1, rfl, hS1⟩, hy1, rfl, r1, rfl, h⟩ := hr
  refine ⟨r1, rfl, ?_⟩
  have hx1 := Xt.trans hx hy1
  have ee2 : A1 6 0 = A 6 0 := hy1.2 _ _ hS.1.2.1 (((n6_0 hS1)).trans ((n6_0 hS)).symm)
  try rw [← ee2]
  refine ⟨fun hc => ?_, fun hc => ?_⟩
  · have h := h.1 hc
    exact wp.mono (h G1 A1 ⟨L1, P1, rfl, hS1⟩) (fun r G' q => qx_trans hx1 q)
  · have h := h.2 hc
    refine ⟨hS1.o (s6_0 hS1), ?_⟩
    rw [l6_0_27 hS1]
    refine ⟨hS1.o (s6_24 hS1), ?_⟩
    obtain ⟨hi3, h⟩ := h
    refine ⟨by first | (rw [(n6_24 hS1)]; exact hi3) | exact (congrArg (vp_in _) (n6_24 hS1)).mpr hi3 | exact hi3, ?_⟩
    refine ⟨fun hc => ?_, fun hc => ?_⟩
    · have h := h.1 hc
      exact wp.mono (h G1 A1 ⟨L1, P1, rfl, hS1⟩) (fun r G' q => qx_trans hx1 q)
    · have h := h.2 hc
      rw [l6_0_72 hS1]
      refine ⟨hS1.o (s6_49 hS1), ?_⟩
      obtain ⟨hi4, h⟩ := h
      refine ⟨by first | (rw [(n6_49 hS1)]; exact hi4) | exact (congrArg (vp_in _) (n6_49 hS1)).mpr hi4 | exact hi4, ?_⟩
      intro G5 eG5
      have hS5 : Sh E G5 A1 L1 P1 := Sh_sI eG5 hS1 (s6_49 hS1) (okT_0 rfl)
      have h := h (pl G5 A1 L1 P1) (pl_sI eG5 hS1 (s6_49 hS1))
      have hx5 : Xt (pl G A L P) A (pl G5 A1 L1 P1) A1 := Xt_sI eG5 hx1
      intro G6 eG6
      have hS6 : Sh E G6 A1 L1 P1 := Sh_sI eG6 hS5 (s6_0 hS5) (okT_0 rfl)
      have h := h (pl G6 A1 L1 P1) (pl_sI eG6 hS5 (s6_0 hS5))
      have hx6 : Xt (pl G A L P) A (pl G6 A1 L1 P1) A1 := Xt_sI eG6 hx5
      exact wp.mono (h G6 A1 ⟨L1, P1, rfl, hS6⟩) (fun r G' q => qx_trans hx6 q)
theorem w_X12_findMasks_55 {E : EE} {d : Nat} {V : VH} {K : VH → Prop} {x1 : Int32} {x2 : Int32}  (h : vwp E d M_X12_findMasks 12 [some (sl 6 0), some (wi x1), some (wi (x2 + 1)), none, none] [] V (zv K)) : vwp E d M_X12_findMasks 55 [some (sl 6 0), some (wi x1), some (wi x2), none, none] [] V (zv K) := by
  intro G A hR
  obtain ⟨L, P, rfl, hS⟩ := hR
  have hx := Xt.refl (V := pl G A L P) (A := A)
  show wp E d M_X12_findMasks 55 [some (vr (A 6 0)), some (vi x1), some (vi x2), none, none] [] G _
  refine v_X12_findMasks_55 ?_
  exact wp.mono (h G A ⟨L, P, rfl, hS⟩) (fun r G' q => qx_trans hx q)
theorem w_X12_findMasks_63 {E : EE} {d : Nat} {V : VH} {K : VH → Prop} {x1 : Int32} {x2 : Int32}  (h : (4096 ≤ x2 → vwp E d M_X12_findMasks 85 [some (sl 6 0), some (wi x1), some (wi 0), none, none] [] V (zv K)) ∧ (¬ (4096 ≤ x2) → vp_in x2 4096 ∧ (∀ V2 : VH, V2 = wrI V 6 48 (Int32.toNatClampNeg x2) (nz 0) → vwp E d M_X12_findMasks 63 [some (sl 6 0), some (wi x1), some (wi (x2 + 1)), none, none] [] V2 (zv K)))) : vwp E d M_X12_findMasks 63 [some (sl 6 0), some (wi x1), some (wi x2), none, none] [] V (zv K) := by
  intro G A hR
  obtain ⟨L, P, rfl, hS⟩ := hR
  have hx := Xt.refl (V := pl G A L P) (A := A)
  show wp E d M_X12_findMasks 63 [some (vr (A 6 0)), some (vi x1), some (vi x2), none, none] [] G _
  refine v_X12_findMasks_63 ?_
  refine ⟨fun hc => ?_, fun hc => ?_⟩
  · have h := h.1 hc
    exact wp.mono (h G A ⟨L, P, rfl, hS⟩) (fun r G' q => qx_trans hx q)
  · have h := h.2 hc
    refine ⟨hS.o (s6_0 hS), ?_⟩
    rw [l6_0_71 hS]
    refine ⟨hS.o (s6_48 hS), ?_⟩
    obtain ⟨hi1, h⟩ := h
    refine ⟨by first | (rw [(n6_48 hS)]; exact hi1) | exact (congrArg (vp_in _) (n6_48 hS)).mpr hi1 | exact hi1, ?_⟩
    have hS2 : Sh E (sI G (A 6 48) (Int32.toNatClampNeg x2) (nz 0)) A L P := Sh_sI (rfl : sI G (A 6 48) (Int32.toNatClampNeg x2) (nz 0) = sI G (A 6 48) (Int32.toNatClampNeg x2) (nz 0)) hS (s6_48 hS) (okT_nz rfl)
    have h := h (pl (sI G (A 6 48) (Int32.toNatClampNeg x2) (nz 0)) A L P) (pl_sI (rfl : sI G (A 6 48) (Int32.toNatClampNeg x2) (nz 0) = sI G (A 6 48) (Int32.toNatClampNeg x2) (nz 0)) hS (s6_48 hS))
    have hx2 : Xt (pl G A L P) A (pl (sI G (A 6 48) (Int32.toNatClampNeg x2) (nz 0)) A L P) A := Xt_sI (rfl : sI G (A 6 48) (Int32.toNatClampNeg x2) (nz 0) = sI G (A 6 48) (Int32.toNatClampNeg x2) (nz 0)) hx
    exact wp.mono (h (sI G (A 6 48) (Int32.toNatClampNeg x2) (nz 0)) A ⟨L, P, rfl, hS2⟩) (fun r G' q => qx_trans hx2 q)
theorem w_X12_findMasks_85 {E : EE} {d : Nat} {V : VH} {K : VH → Prop} {x1 : Int32} {x2 : Int32}  (h0 : 0 < d) (h : vp_in x1 5 ∧ (((vI V 6 22 (Int32.toNatClampNeg x1)) ≤ x2 → K V) ∧ (¬ ((vI V 6 22 (Int32.toNatClampNeg x1)) ≤ x2) → vMI E (d - 1) M_X12_isAllowed [sl 6 0, wi x1, wi x2] V (fun r2 V2 => (r2 = 0 → vwp E d M_X12_findMasks 163 [some (sl 6 0), some (wi x1), some (wi x2), none, none] [] V2 (zv K)) ∧ (¬ (r2 = 0) → vwp E d M_X12_findMasks 109 [some (sl 6 0), some (wi x1), some (wi x2), some (wi 0), some (wi 0)] [] V2 (zv K)))))) : vwp E d M_X12_findMasks 85 [some (sl 6 0), some (wi x1), some (wi x2), none, none] [] V (zv K) := by
  intro G A hR
  obtain ⟨L, P, rfl, hS⟩ := hR
  have hx := Xt.refl (V := pl G A L P) (A := A)
  show wp E d M_X12_findMasks 85 [some (vr (A 6 0)), some (vi x1), some (vi x2), none, none] [] G _
  refine v_X12_findMasks_85 h0 ?_
  refine ⟨hS.o (s6_0 hS), ?_⟩
  rw [l6_0_25 hS]
  refine ⟨hS.o (s6_22 hS), ?_⟩
  obtain ⟨hi1, h⟩ := h
  refine ⟨by first | (rw [(n6_22 hS)]; exact hi1) | exact (congrArg (vp_in _) (n6_22 hS)).mpr hi1 | exact hi1, ?_⟩
  refine ⟨fun hc => ?_, fun hc => ?_⟩
  · have h := h.1 hc
    exact qx_v hS hx h
  · have h := h.2 hc
    refine wpM.mono (h G A ⟨L, P, rfl, hS⟩) (fun rr2 G2 hr => ?_)
    obtain ⟨A2, W2, w2, ⟨L2, P2, rfl, hS2⟩, hy2, rfl, r2, rfl, h⟩ := hr
    refine ⟨r2, rfl, ?_⟩
    have hx2 := Xt.trans hx hy2
    have ee3 : A2 6 0 = A 6 0 := hy2.2 _ _ hS.1.2.1 (((n6_0 hS2)).trans ((n6_0 hS)).symm)
    try rw [← ee3]
    refine ⟨fun hc => ?_, fun hc => ?_⟩
    · have h := h.1 hc
      exact wp.mono (h G2 A2 ⟨L2, P2, rfl, hS2⟩) (fun r G' q => qx_trans hx2 q)
    · have h := h.2 hc
      exact wp.mono (h G2 A2 ⟨L2, P2, rfl, hS2⟩) (fun r G' q => qx_trans hx2 q)
theorem w_X12_findMasks_109 {E : EE} {d : Nat} {V : VH} {K : VH → Prop} {x1 : Int32} {x2 : Int32} {x3 : Int32} {x4 : Int32}  (h : ((vI V 6 0 73) ≤ x4 → vp_in x3 4096 ∧ (∀ V2 : VH, V2 = wrI V 6 48 (Int32.toNatClampNeg x3) (nz 1) → vwp E d M_X12_findMasks 163 [some (sl 6 0), some (wi x1), some (wi x2), none, none] [] V2 (zv K))) ∧ (¬ ((vI V 6 0 73) ≤ x4) → vp_in x4 12 ∧ (vp_in ((20000 * (vI V 6 49 (Int32.toNatClampNeg x4))) + x2) 480000 ∧ (((vI V 6 43 (Int32.toNatClampNeg ((20000 * (vI V 6 49 (Int32.toNatClampNeg x4))) + x2))) ≤ 0 → vwp E d M_X12_findMasks 148 [some (sl 6 0), some (wi x1), some (wi x2), some (wi x3), some (wi x4)] [wi 0, wi x3] V (zv K)) ∧ (¬ ((vI V 6 43 (Int32.toNatClampNeg ((20000 * (vI V 6 49 (Int32.toNatClampNeg x4))) + x2))) ≤ 0) → vwp E d M_X12_findMasks 148 [some (sl 6 0), some (wi x1), some (wi x2), some (wi x3), some (wi x4)] [wi (1 <<< (x4 &&& 31)), wi x3] V (zv K)))))) : vwp E d M_X12_findMasks 109 [some (sl 6 0), some (wi x1), some (wi x2), some (wi x3), some (wi x4)] [] V (zv K) := by
  intro G A hR
  obtain ⟨L, P, rfl, hS⟩ := hR
  have hx := Xt.refl (V := pl G A L P) (A := A)
  show wp E d M_X12_findMasks 109 [some (vr (A 6 0)), some (vi x1), some (vi x2), some (vi x3), some (vi x4)] [] G _
  refine v_X12_findMasks_109 ?_
  refine ⟨hS.o (s6_0 hS), ?_⟩
  refine ⟨fun hc => ?_, fun hc => ?_⟩
  · have h := h.1 hc
    rw [l6_0_71 hS]
    refine ⟨hS.o (s6_48 hS), ?_⟩
    obtain ⟨hi1, h⟩ := h
    refine ⟨by first | (rw [(n6_48 hS)]; exact hi1) | exact (congrArg (vp_in _) (n6_48 hS)).mpr hi1 | exact hi1, ?_⟩
    have hS2 : Sh E (sI G (A 6 48) (Int32.toNatClampNeg x3) (nz 1)) A L P := Sh_sI (rfl : sI G (A 6 48) (Int32.toNatClampNeg x3) (nz 1) = sI G (A 6 48) (Int32.toNatClampNeg x3) (nz 1)) hS (s6_48 hS) (okT_nz rfl)
    have h := h (pl (sI G (A 6 48) (Int32.toNatClampNeg x3) (nz 1)) A L P) (pl_sI (rfl : sI G (A 6 48) (Int32.toNatClampNeg x3) (nz 1) = sI G (A 6 48) (Int32.toNatClampNeg x3) (nz 1)) hS (s6_48 hS))
    have hx2 : Xt (pl G A L P) A (pl (sI G (A 6 48) (Int32.toNatClampNeg x3) (nz 1)) A L P) A := Xt_sI (rfl : sI G (A 6 48) (Int32.toNatClampNeg x3) (nz 1) = sI G (A 6 48) (Int32.toNatClampNeg x3) (nz 1)) hx
    exact wp.mono (h (sI G (A 6 48) (Int32.toNatClampNeg x3) (nz 1)) A ⟨L, P, rfl, hS2⟩) (fun r G' q => qx_trans hx2 q)
  · have h := h.2 hc
    rw [l6_0_64 hS]
    rw [l6_0_72 hS]
    refine ⟨hS.o (s6_49 hS), ?_⟩
    obtain ⟨hi3, h⟩ := h
    refine ⟨by first | (rw [(n6_49 hS)]; exact hi3) | exact (congrArg (vp_in _) (n6_49 hS)).mpr hi3 | exact hi3, ?_⟩
    refine ⟨hS.o (s6_43 hS), ?_⟩
    obtain ⟨hi4, h⟩ := h
    refine ⟨by first | (rw [(n6_43 hS)]; exact hi4) | exact (congrArg (vp_in _) (n6_43 hS)).mpr hi4 | exact hi4, ?_⟩
    refine ⟨fun hc => ?_, fun hc => ?_⟩
    · have h := h.1 hc
      exact wp.mono (h G A ⟨L, P, rfl, hS⟩) (fun r G' q => qx_trans hx q)
    · have h := h.2 hc
      exact wp.mono (h G A ⟨L, P, rfl, hS⟩) (fun r G' q => qx_trans hx q)
theorem w_X12_findMasks_148 {E : EE} {d : Nat} {V : VH} {K : VH → Prop} {x1 : Int32} {x2 : Int32} {x3 : Int32} {x4 : Int32} {t0 : Int32} {t1 : Int32}  (h : vwp E d M_X12_findMasks 109 [some (sl 6 0), some (wi x1), some (wi x2), some (wi (t0 ||| t1)), some (wi (x4 + 1))] [] V (zv K)) : vwp E d M_X12_findMasks 148 [some (sl 6 0), some (wi x1), some (wi x2), some (wi x3), some (wi x4)] [wi t1, wi t0] V (zv K) := by
  intro G A hR
  obtain ⟨L, P, rfl, hS⟩ := hR
  have hx := Xt.refl (V := pl G A L P) (A := A)
  show wp E d M_X12_findMasks 148 [some (vr (A 6 0)), some (vi x1), some (vi x2), some (vi x3), some (vi x4)] [vi t1, vi t0] G _
  refine v_X12_findMasks_148 ?_
  exact wp.mono (h G A ⟨L, P, rfl, hS⟩) (fun r G' q => qx_trans hx q)
theorem w_X12_findMasks_163 {E : EE} {d : Nat} {V : VH} {K : VH → Prop} {x1 : Int32} {x2 : Int32}  (h : vwp E d M_X12_findMasks 85 [some (sl 6 0), some (wi x1), some (wi (x2 + 1)), none, none] [] V (zv K)) : vwp E d M_X12_findMasks 163 [some (sl 6 0), some (wi x1), some (wi x2), none, none] [] V (zv K) := by
  intro G A hR
  obtain ⟨L, P, rfl, hS⟩ := hR
  have hx := Xt.refl (V := pl G A L P) (A := A)
  show wp E d M_X12_findMasks 163 [some (vr (A 6 0)), some (vi x1), some (vi x2), none, none] [] G _
  refine v_X12_findMasks_163 ?_
  exact wp.mono (h G A ⟨L, P, rfl, hS⟩) (fun r G' q => qx_trans hx q)
theorem w_X12_numberOf_0 {E : EE} {d : Nat} {V : VH} {K : Int32 → VH → Prop} {x1 : Int32}  (h : vwp E d M_X12_numberOf 4 [some (sl 6 0), some (wi x1), some (wi 0), some (wi 0)] [] V (zi K)) : vMI E d M_X12_numberOf [sl 6 0, wi x1] V K := by
  intro G A hR
  obtain ⟨L, P, rfl, hS⟩ := hR
  have hx := Xt.refl (V := pl G A L P) (A := A)
  show wpM E d M_X12_numberOf [vr (A 6 0), vi x1] G _
  refine wpM_of mk_X12_numberOf (Nat.le_of_ble_eq_true rfl) ?_
  refine v_X12_numberOf_0 ?_
  exact wp.mono (h G A ⟨L, P, rfl, hS⟩) (fun r G' q => qx_trans hx q)
theorem w_X12_numberOf_4 {E : EE} {d : Nat} {V : VH} {K : Int32 → VH → Prop} {x1 : Int32} {x2 : Int32} {x3 : Int32}  (h : ((vI V 6 0 73) ≤ x3 → K x2 V) ∧ (¬ ((vI V 6 0 73) ≤ x3) → (¬ ((x1 >>> (x3 &&& 31)) &&& 1) = 1 → vwp E d M_X12_numberOf 34 [some (sl 6 0), some (wi x1), some (wi x2), some (wi x3)] [wi 0, wi x2] V (zi K)) ∧ (((x1 >>> (x3 &&& 31)) &&& 1) = 1 → vp_in x3 12 ∧ (vwp E d M_X12_numberOf 34 [some (sl 6 0), some (wi x1), some (wi x2), some (wi x3)] [wi (1 <<< ((vI V 6 49 (Int32.toNatClampNeg x3)) &&& 31)), wi x2] V (zi K))))) : vwp E d M_X12_numberOf 4 [some (sl 6 0), some (wi x1), some (wi x2), some (wi x3)] [] V (zi K) := by
  intro G A hR
  obtain ⟨L, P, rfl, hS⟩ := hR
  have hx := Xt.refl (V := pl G A L P) (A := A)
  show wp E d M_X12_numberOf 4 [some (vr (A 6 0)), some (vi x1), some (vi x2), some (vi x3)] [] G _
  refine v_X12_numberOf_4 ?_
  refine ⟨hS.o (s6_0 hS), ?_⟩
  refine ⟨fun hc => ?_, fun hc => ?_⟩
  · have h := h.1 hc
    exact qx_i hS hx h
  · have h := h.2 hc
    refine ⟨fun hc => ?_, fun hc => ?_⟩
    · have h := h.1 hc
      exact wp.mono (h G A ⟨L, P, rfl, hS⟩) (fun r G' q => qx_trans hx q)
    · have h := h.2 hc
      rw [l6_0_72 hS]
      refine ⟨hS.o (s6_49 hS), ?_⟩
      obtain ⟨hi1, h⟩ := h
      refine ⟨by first | (rw [(n6_49 hS)]; exact hi1) | exact (congrArg (vp_in _) (n6_49 hS)).mpr hi1 | exact hi1, ?_⟩
      exact wp.mono (h G A ⟨L, P, rfl, hS⟩) (fun r G' q => qx_trans hx q)
theorem w_X12_numberOf_34 {E : EE} {d : Nat} {V : VH} {K : Int32 → VH → Prop} {x1 : Int32} {x2 : Int32} {x3 : Int32} {t0 : Int32} {t1 : Int32}  (h : vwp E d M_X12_numberOf 4 [some (sl 6 0), some (wi x1), some (wi (t0 ||| t1)), some (wi (x3 + 1))] [] V (zi K)) : vwp E d M_X12_numberOf 34 [some (sl 6 0), some (wi x1), some (wi x2), some (wi x3)] [wi t1, wi t0] V (zi K) := by
  intro G A hR
  obtain ⟨L, P, rfl, hS⟩ := hR
  have hx := Xt.refl (V := pl G A L P) (A := A)
  show wp E d M_X12_numberOf 34 [some (vr (A 6 0)), some (vi x1), some (vi x2), some (vi x3)] [vi t1, vi t0] G _
  refine v_X12_numberOf_34 ?_
  exact wp.mono (h G A ⟨L, P, rfl, hS⟩) (fun r G' q => qx_trans hx q)
theorem w_X12_fewest_0 {E : EE} {d : Nat} {V : VH} {K : Int32 → VH → Prop} {x1 : Int32}  (h0 : 0 < d) (h : vMI E (d - 1) M_X12_isProblem [sl 6 0, wi x1] V (fun r1 V1 => (¬ r1 = 0 → vMV E (d - 1) M_X12_findMasks [sl 6 0, wi x1] V1 (fun V3 => vwp E d M_X12_fewest 22 [some (sl 6 0), some (wi x1), some (wi 0), some (wi 0), some (wi 0)] [] V3 (zi K))) ∧ (r1 = 0 → K (-1) V1))) : vMI E d M_X12_fewest [sl 6 0, wi x1] V K := by
  intro G A hR
  obtain ⟨L, P, rfl, hS⟩ := hR
  have hx := Xt.refl (V := pl G A L P) (A := A)
  show wpM E d M_X12_fewest [vr (A 6 0), vi x1] G _
  refine wpM_of mk_X12_fewest (Nat.le_of_ble_eq_true rfl) ?_
  refine v_X12_fewest_0 h0 ?_
  refine ⟨hS.o (s6_0 hS), ?_⟩
  refine wpM.mono (h G A ⟨L, P, rfl, hS⟩) (fun rr1 G1 hr => ?_)
  obtain ⟨A1, W1, w1, ⟨L1, P1, rfl, hS1⟩, hy1, rfl, r1, rfl, h⟩ := hr
  refine ⟨r1, rfl, ?_⟩
  have hx1 := Xt.trans hx hy1
  have ee2 : A1 6 0 = A 6 0 := hy1.2 _ _ hS.1.2.1 (((n6_0 hS1)).trans ((n6_0 hS)).symm)
  try rw [← ee2]
  refine ⟨fun hc => ?_, fun hc => ?_⟩
  · have h := h.1 hc
    refine ⟨hS1.o (s6_0 hS1), ?_⟩
    refine wpM.mono (h G1 A1 ⟨L1, P1, rfl, hS1⟩) (fun rr3 G3 hr => ?_)
    obtain ⟨A3, W3, w3, ⟨L3, P3, rfl, hS3⟩, hy3, rfl, rfl, h⟩ := hr
    refine ⟨rfl, ?_⟩
    have hx3 := Xt.trans hx1 hy3
    have ee4 : A3 6 0 = A1 6 0 := hy3.2 _ _ hS1.1.2.1 (((n6_0 hS3)).trans ((n6_0 hS1)).symm)
    try rw [← ee4]
    exact wp.mono (h G3 A3 ⟨L3, P3, rfl, hS3⟩) (fun r G' q => qx_trans hx3 q)
  · have h := h.2 hc
    exact qx_i hS1 hx1 h
theorem w_X12_fewest_22 {E : EE} {d : Nat} {V : VH} {K : Int32 → VH → Prop} {x1 : Int32} {x2 : Int32} {x3 : Int32} {x4 : Int32}  (h0 : 0 < d) (h : ((1 <<< ((vI V 6 0 73) &&& 31)) ≤ x4 → (x3 = 0 → K 0 V) ∧ (¬ (x3 = 0) → vMI E (d - 1) M_X12_numberOf [sl 6 0, wi x2] V (fun r1 V1 => K r1 V1))) ∧ (¬ ((1 <<< ((vI V 6 0 73) &&& 31)) ≤ x4) → (x3 = 0 → vwp E d M_X12_fewest 49 [some (sl 6 0), some (wi x1), some (wi x2), some (wi x3), some (wi x4)] [] V (zi K)) ∧ (¬ (x3 = 0) → vMI E (d - 1) M_X12_bits [wi x4] V (fun r3 V3 => vMI E (d - 1) M_X12_bits [wi x2] V3 (fun r5 V5 => (r5 ≤ r3 → vwp E d M_X12_fewest 63 [some (sl 6 0), some (wi x1), some (wi x2), some (wi x3), some (wi x4)] [] V5 (zi K)) ∧ (¬ (r5 ≤ r3) → vwp E d M_X12_fewest 49 [some (sl 6 0), some (wi x1), some (wi x2), some (wi x3), some (wi x4)] [] V5 (zi K))))))) : vwp E d M_X12_fewest 22 [some (sl 6 0), some (wi x1), some (wi x2), some (wi x3), some (wi x4)] [] V (zi K) := by
  intro G A hR
  obtain ⟨L, P, rfl, hS⟩ := hR
  have hx := Xt.refl (V := pl G A L P) (A := A)
  show wp E d M_X12_fewest 22 [some (vr (A 6 0)), some (vi x1), some (vi x2), some (vi x3), some (vi x4)] [] G _
  refine v_X12_fewest_22 h0 ?_
  refine ⟨hS.o (s6_0 hS), ?_⟩
  refine ⟨fun hc => ?_, fun hc => ?_⟩
  · have h := h.1 hc
    refine ⟨fun hc => ?_, fun hc => ?_⟩
    · have h := h.1 hc
      exact qx_i hS hx h
    · have h := h.2 hc
      refine wpM.mono (h G A ⟨L, P, rfl, hS⟩) (fun rr1 G1 hr => ?_)
      obtain ⟨A1, W1, w1, ⟨L1, P1, rfl, hS1⟩, hy1, rfl, r1, rfl, h⟩ := hr
      refine ⟨r1, rfl, ?_⟩
      have hx1 := Xt.trans hx hy1
      have ee2 : A1 6 0 = A 6 0 := hy1.2 _ _ hS.1.2.1 (((n6_0 hS1)).trans ((n6_0 hS)).symm)
      try rw [← ee2]
      exact qx_i hS1 hx1 h
  · have h := h.2 hc
    refine ⟨fun hc => ?_, fun hc => ?_⟩
    · have h := h.1 hc
      exact wp.mono (h G A ⟨L, P, rfl, hS⟩) (fun r G' q => qx_trans hx q)
    · have h := h.2 hc
      refine wpM.mono (h G A ⟨L, P, rfl, hS⟩) (fun rr3 G3 hr => ?_)
      obtain ⟨A3, W3, w3, ⟨L3, P3, rfl, hS3⟩, hy3, rfl, r3, rfl, h⟩ := hr
      refine ⟨r3, rfl, ?_⟩
      have hx3 := Xt.trans hx hy3
      have ee4 : A3 6 0 = A 6 0 := hy3.2 _ _ hS.1.2.1 (((n6_0 hS3)).trans ((n6_0 hS)).symm)
      try rw [← ee4]
      refine wpM.mono (h G3 A3 ⟨L3, P3, rfl, hS3⟩) (fun rr5 G5 hr => ?_)
      obtain ⟨A5, W5, w5, ⟨L5, P5, rfl, hS5⟩, hy5, rfl, r5, rfl, h⟩ := hr
      refine ⟨r5, rfl, ?_⟩
      have hx5 := Xt.trans hx3 hy5
      have ee6 : A5 6 0 = A3 6 0 := hy5.2 _ _ hS3.1.2.1 (((n6_0 hS5)).trans ((n6_0 hS3)).symm)
      try rw [← ee6]
      refine ⟨fun hc => ?_, fun hc => ?_⟩
      · have h := h.1 hc
        exact wp.mono (h G5 A5 ⟨L5, P5, rfl, hS5⟩) (fun r G' q => qx_trans hx5 q)
      · have h := h.2 hc
        exact wp.mono (h G5 A5 ⟨L5, P5, rfl, hS5⟩) (fun r G' q => qx_trans hx5 q)
theorem w_X12_fewest_49 {E : EE} {d : Nat} {V : VH} {K : Int32 → VH → Prop} {x1 : Int32} {x2 : Int32} {x3 : Int32} {x4 : Int32}  (h0 : 0 < d) (h : vMI E (d - 1) M_X12_clashes [sl 6 0, wi x4] V (fun r1 V1 => (r1 = 0 → vwp E d M_X12_fewest 63 [some (sl 6 0), some (wi x1), some (wi x2), some (wi x3), some (wi x4)] [] V1 (zi K)) ∧ (¬ (r1 = 0) → vwp E d M_X12_fewest 63 [some (sl 6 0), some (wi x1), some (wi x4), some (wi 1), some (wi x4)] [] V1 (zi K)))) : vwp E d M_X12_fewest 49 [some (sl 6 0), some (wi x1), some (wi x2), some (wi x3), some (wi x4)] [] V (zi K) := by
  intro G A hR
  obtain ⟨L, P, rfl, hS⟩ := hR
  have hx := Xt.refl (V := pl G A L P) (A := A)
  show wp E d M_X12_fewest 49 [some (vr (A 6 0)), some (vi x1), some (vi x2), some (vi x3), some (vi x4)] [] G _
  refine v_X12_fewest_49 h0 ?_
  refine ⟨hS.o (s6_0 hS), ?_⟩
  refine wpM.mono (h G A ⟨L, P, rfl, hS⟩) (fun rr1 G1 hr => ?_)
  obtain ⟨A1, W1, w1, ⟨L1, P1, rfl, hS1⟩, hy1, rfl, r1, rfl, h⟩ := hr
  refine ⟨r1, rfl, ?_⟩
  have hx1 := Xt.trans hx hy1
  have ee2 : A1 6 0 = A 6 0 := hy1.2 _ _ hS.1.2.1 (((n6_0 hS1)).trans ((n6_0 hS)).symm)
  try rw [← ee2]
  refine ⟨fun hc => ?_, fun hc => ?_⟩
  · have h := h.1 hc
    exact wp.mono (h G1 A1 ⟨L1, P1, rfl, hS1⟩) (fun r G' q => qx_trans hx1 q)
  · have h := h.2 hc
    exact wp.mono (h G1 A1 ⟨L1, P1, rfl, hS1⟩) (fun r G' q => qx_trans hx1 q)
theorem w_X12_fewest_63 {E : EE} {d : Nat} {V : VH} {K : Int32 → VH → Prop} {x1 : Int32} {x2 : Int32} {x3 : Int32} {x4 : Int32}  (h : vwp E d M_X12_fewest 22 [some (sl 6 0), some (wi x1), some (wi x2), some (wi x3), some (wi (x4 + 1))] [] V (zi K)) : vwp E d M_X12_fewest 63 [some (sl 6 0), some (wi x1), some (wi x2), some (wi x3), some (wi x4)] [] V (zi K) := by
  intro G A hR
  obtain ⟨L, P, rfl, hS⟩ := hR
  have hx := Xt.refl (V := pl G A L P) (A := A)
  show wp E d M_X12_fewest 63 [some (vr (A 6 0)), some (vi x1), some (vi x2), some (vi x3), some (vi x4)] [] G _
  refine v_X12_fewest_63 ?_
  exact wp.mono (h G A ⟨L, P, rfl, hS⟩) (fun r G' q => qx_trans hx q)
theorem w_X12_bits_0 {E : EE} {d : Nat} {V : VH} {K : Int32 → VH → Prop} {x0 : Int32}  (h : vwp E d M_X12_bits 4 [some (wi x0), some (wi 0), some (wi x0)] [] V (zi K)) : vMI E d M_X12_bits [wi x0] V K := by
  intro G A hR
  obtain ⟨L, P, rfl, hS⟩ := hR
  have hx := Xt.refl (V := pl G A L P) (A := A)
  show wpM E d M_X12_bits [vi x0] G _
  refine wpM_of mk_X12_bits (Nat.le_of_ble_eq_true rfl) ?_
  refine v_X12_bits_0 ?_
  exact wp.mono (h G A ⟨L, P, rfl, hS⟩) (fun r G' q => qx_trans hx q)
theorem w_X12_bits_4 {E : EE} {d : Nat} {V : VH} {K : Int32 → VH → Prop} {x0 : Int32} {x1 : Int32} {x2 : Int32}  (h : (x2 = 0 → K x1 V) ∧ (¬ (x2 = 0) → vwp E d M_X12_bits 4 [some (wi x0), some (wi (x1 + 1)), some (wi (x2 &&& (x2 - 1)))] [] V (zi K))) : vwp E d M_X12_bits 4 [some (wi x0), some (wi x1), some (wi x2)] [] V (zi K) := by
  intro G A hR
  obtain ⟨L, P, rfl, hS⟩ := hR
  have hx := Xt.refl (V := pl G A L P) (A := A)
  show wp E d M_X12_bits 4 [some (vi x0), some (vi x1), some (vi x2)] [] G _
  refine v_X12_bits_4 ?_
  refine ⟨fun hc => ?_, fun hc => ?_⟩
  · have h := h.1 hc
    exact qx_i hS hx h
  · have h := h.2 hc
    exact wp.mono (h G A ⟨L, P, rfl, hS⟩) (fun r G' q => qx_trans hx q)
theorem w_X12_clashes_0 {E : EE} {d : Nat} {V : VH} {K : Int32 → VH → Prop} {x1 : Int32}  (h : vwp E d M_X12_clashes 4 [some (sl 6 0), some (wi x1), some (wi 1), some (wi 0)] [] V (zi K)) : vMI E d M_X12_clashes [sl 6 0, wi x1] V K := by
  intro G A hR
  obtain ⟨L, P, rfl, hS⟩ := hR
  have hx := Xt.refl (V := pl G A L P) (A := A)
  show wpM E d M_X12_clashes [vr (A 6 0), vi x1] G _
  refine wpM_of mk_X12_clashes (Nat.le_of_ble_eq_true rfl) ?_
  refine v_X12_clashes_0 ?_
  exact wp.mono (h G A ⟨L, P, rfl, hS⟩) (fun r G' q => qx_trans hx q)
theorem w_X12_clashes_4 {E : EE} {d : Nat} {V : VH} {K : Int32 → VH → Prop} {x1 : Int32} {x2 : Int32} {x3 : Int32}  (h : (x2 = 0 → bz x2 ∧ K x2 V) ∧ (¬ (x2 = 0) → ((1 <<< ((vI V 6 0 73) &&& 31)) ≤ x3 → bz x2 ∧ K x2 V) ∧ (¬ ((1 <<< ((vI V 6 0 73) &&& 31)) ≤ x3) → vp_in x3 4096 ∧ (((vI V 6 48 (Int32.toNatClampNeg x3)) = 0 → vwp E d M_X12_clashes 33 [some (sl 6 0), some (wi x1), some (wi x2), some (wi x3)] [] V (zi K)) ∧ (¬ ((vI V 6 48 (Int32.toNatClampNeg x3)) = 0) → ((x3 &&& x1) = 0 → vwp E d M_X12_clashes 38 [some (sl 6 0), some (wi x1), some (wi x2), some (wi x3)] [wi 0] V (zi K)) ∧ (¬ ((x3 &&& x1) = 0) → vwp E d M_X12_clashes 33 [some (sl 6 0), some (wi x1), some (wi x2), some (wi x3)] [] V (zi K))))))) : vwp E d M_X12_clashes 4 [some (sl 6 0), some (wi x1), some (wi x2), some (wi x3)] [] V (zi K) := by
  intro G A hR
  obtain ⟨L, P, rfl, hS⟩ := hR
  have hx := Xt.refl (V := pl G A L P) (A := A)
  show wp E d M_X12_clashes 4 [some (vr (A 6 0)), some (vi x1), some (vi x2), some (vi x3)] [] G _
  refine v_X12_clashes_4 ?_
  refine ⟨fun hc => ?_, fun hc => ?_⟩
  · have h := h.1 hc
    exact ⟨bz_ok h.1, qx_i hS hx h.2⟩
  · have h := h.2 hc
    refine ⟨hS.o (s6_0 hS), ?_⟩
    refine ⟨fun hc => ?_, fun hc => ?_⟩
    · have h := h.1 hc
      exact ⟨bz_ok h.1, qx_i hS hx h.2⟩
    · have h := h.2 hc
      rw [l6_0_71 hS]
      refine ⟨hS.o (s6_48 hS), ?_⟩
      obtain ⟨hi1, h⟩ := h
      refine ⟨by first | (rw [(n6_48 hS)]; exact hi1) | exact (congrArg (vp_in _) (n6_48 hS)).mpr hi1 | exact hi1, ?_⟩
      refine ⟨fun hc => ?_, fun hc => ?_⟩
      · have h := h.1 hc
        exact wp.mono (h G A ⟨L, P, rfl, hS⟩) (fun r G' q => qx_trans hx q)
      · have h := h.2 hc
        refine ⟨fun hc => ?_, fun hc => ?_⟩
        · have h := h.1 hc
          exact wp.mono (h G A ⟨L, P, rfl, hS⟩) (fun r G' q => qx_trans hx q)
        · have h := h.2 hc
          exact wp.mono (h G A ⟨L, P, rfl, hS⟩) (fun r G' q => qx_trans hx q)
theorem w_X12_clashes_33 {E : EE} {d : Nat} {V : VH} {K : Int32 → VH → Prop} {x1 : Int32} {x2 : Int32} {x3 : Int32}  (h : vwp E d M_X12_clashes 38 [some (sl 6 0), some (wi x1), some (wi x2), some (wi x3)] [wi 1] V (zi K)) : vwp E d M_X12_clashes 33 [some (sl 6 0), some (wi x1), some (wi x2), some (wi x3)] [] V (zi K) := by
  intro G A hR
  obtain ⟨L, P, rfl, hS⟩ := hR
  have hx := Xt.refl (V := pl G A L P) (A := A)
  show wp E d M_X12_clashes 33 [some (vr (A 6 0)), some (vi x1), some (vi x2), some (vi x3)] [] G _
  refine v_X12_clashes_33 ?_
  exact wp.mono (h G A ⟨L, P, rfl, hS⟩) (fun r G' q => qx_trans hx q)
theorem w_X12_clashes_38 {E : EE} {d : Nat} {V : VH} {K : Int32 → VH → Prop} {x1 : Int32} {x2 : Int32} {x3 : Int32} {t0 : Int32}  (h : vwp E d M_X12_clashes 4 [some (sl 6 0), some (wi x1), some (wi t0), some (wi (x3 + 1))] [] V (zi K)) : vwp E d M_X12_clashes 38 [some (sl 6 0), some (wi x1), some (wi x2), some (wi x3)] [wi t0] V (zi K) := by
  intro G A hR
  obtain ⟨L, P, rfl, hS⟩ := hR
  have hx := Xt.refl (V := pl G A L P) (A := A)
  show wp E d M_X12_clashes 38 [some (vr (A 6 0)), some (vi x1), some (vi x2), some (vi x3)] [vi t0] G _
  refine v_X12_clashes_38 ?_
  exact wp.mono (h G A ⟨L, P, rfl, hS⟩) (fun r G' q => qx_trans hx q)
theorem w_X12_clash_0 {E : EE} {d : Nat} {V : VH} {K : Int32 → VH → Prop} {x1 : Int32}  (h0 : 0 < d) (h : vMI E (d - 1) M_X12_isProblem [sl 6 0, wi x1] V (fun r1 V1 => (¬ r1 = 0 → vMV E (d - 1) M_X12_findMasks [sl 6 0, wi x1] V1 (fun V3 => vMI E (d - 1) M_X12_clashes [sl 6 0, wi ((1 <<< ((vI V3 6 0 73) &&& 31)) - 1)] V3 (fun r5 V5 => (¬ r5 = 0 → vwp E d M_X12_clash 36 [some (sl 6 0), some (wi x1), some (wi ((1 <<< ((vI V3 6 0 73) &&& 31)) - 1)), some (wi 0), none] [] V5 (zi K)) ∧ (r5 = 0 → K 0 V5)))) ∧ (r1 = 0 → K (-1) V1))) : vMI E d M_X12_clash [sl 6 0, wi x1] V K := by
  intro G A hR
  obtain ⟨L, P, rfl, hS⟩ := hR
  have hx := Xt.refl (V := pl G A L P) (A := A)
  show wpM E d M_X12_clash [vr (A 6 0), vi x1] G _
  refine wpM_of mk_X12_clash (Nat.le_of_ble_eq_true rfl) ?_
  refine v_X12_clash_0 h0 ?_
  refine ⟨hS.o (s6_0 hS), ?_⟩
  refine wpM.mono (h G A ⟨L, P, rfl, hS⟩) (fun rr1 G1 hr => ?_)
  obtain ⟨A1, W1, w1, ⟨L1, P1, rfl, hS1⟩, hy1, rfl, r1, rfl, h⟩ := hr
  refine ⟨r1, rfl, ?_⟩
  have hx1 := Xt.trans hx hy1
  have ee2 : A1 6 0 = A 6 0 := hy1.2 _ _ hS.1.2.1 (((n6_0 hS1)).trans ((n6_0 hS)).symm)
  try rw [← ee2]
  refine ⟨fun hc => ?_, fun hc => ?_⟩
  · have h := h.1 hc
    refine ⟨hS1.o (s6_0 hS1), ?_⟩
    refine wpM.mono (h G1 A1 ⟨L1, P1, rfl, hS1⟩) (fun rr3 G3 hr => ?_)
    obtain ⟨A3, W3, w3, ⟨L3, P3, rfl, hS3⟩, hy3, rfl, rfl, h⟩ := hr
    refine ⟨rfl, ?_⟩
    have hx3 := Xt.trans hx1 hy3
    have ee4 : A3 6 0 = A1 6 0 := hy3.2 _ _ hS1.1.2.1 (((n6_0 hS3)).trans ((n6_0 hS1)).symm)
    try rw [← ee4]
    refine ⟨hS3.o (s6_0 hS3), ?_⟩
    refine wpM.mono (h G3 A3 ⟨L3, P3, rfl, hS3⟩) (fun rr5 G5 hr => ?_)
    obtain ⟨A5, W5, w5, ⟨L5, P5, rfl, hS5⟩, hy5, rfl, r5, rfl, h⟩ := hr
    refine ⟨r5, rfl, ?_⟩
    have hx5 := Xt.trans hx3 hy5
    have ee6 : A5 6 0 = A3 6 0 := hy5.2 _ _ hS3.1.2.1 (((n6_0 hS5)).trans ((n6_0 hS3)).symm)
    try rw [← ee6]
    try rw [show gI G3 (A5 6 0) = gI G3 (A3 6 0) from by rw [ee6]]
    refine ⟨fun hc => ?_, fun hc => ?_⟩
    · have h := h.1 hc
      exact wp.mono (h G5 A5 ⟨L5, P5, rfl, hS5⟩) (fun r G' q => qx_trans hx5 q)
    · have h := h.2 hc
      exact qx_i hS5 hx5 h
  · have h := h.2 hc
    exact qx_i hS1 hx1 h
theorem w_X12_clash_36 {E : EE} {d : Nat} {V : VH} {K : Int32 → VH → Prop} {x1 : Int32} {x2 : Int32} {x3 : Int32}  (h0 : 0 < d) (h : ((vI V 6 0 73) ≤ x3 → vMI E (d - 1) M_X12_numberOf [sl 6 0, wi x2] V (fun r1 V1 => K r1 V1)) ∧ (¬ ((vI V 6 0 73) ≤ x3) → vMI E (d - 1) M_X12_clashes [sl 6 0, wi (x2 &&& ((1 <<< (x3 &&& 31)) ^^^ (-1)))] V (fun r3 V3 => (r3 = 0 → vwp E d M_X12_clash 68 [some (sl 6 0), some (wi x1), some (wi x2), some (wi x3), some (wi (x2 &&& ((1 <<< (x3 &&& 31)) ^^^ (-1))))] [wi x2] V3 (zi K)) ∧ (¬ (r3 = 0) → vwp E d M_X12_clash 68 [some (sl 6 0), some (wi x1), some (wi x2), some (wi x3), some (wi (x2 &&& ((1 <<< (x3 &&& 31)) ^^^ (-1))))] [wi (x2 &&& ((1 <<< (x3 &&& 31)) ^^^ (-1)))] V3 (zi K))))) : vwp E d M_X12_clash 36 [some (sl 6 0), some (wi x1), some (wi x2), some (wi x3), none] [] V (zi K) := by
  intro G A hR
  obtain ⟨L, P, rfl, hS⟩ := hR
  have hx := Xt.refl (V := pl G A L P) (A := A)
  show wp E d M_X12_clash 36 [some (vr (A 6 0)), some (vi x1), some (vi x2), some (vi x3), none] [] G _
  refine v_X12_clash_36 h0 ?_
  refine ⟨hS.o (s6_0 hS), ?_⟩
  refine ⟨fun hc => ?_, fun hc => ?_⟩
  · have h := h.1 hc
    refine wpM.mono (h G A ⟨L, P, rfl, hS⟩) (fun rr1 G1 hr => ?_)
    obtain ⟨A1, W1, w1, ⟨L1, P1, rfl, hS1⟩, hy1, rfl, r1, rfl, h⟩ := hr
    refine ⟨r1, rfl, ?_⟩
    have hx1 := Xt.trans hx hy1
    have ee2 : A1 6 0 = A 6 0 := hy1.2 _ _ hS.1.2.1 (((n6_0 hS1)).trans ((n6_0 hS)).symm)
    try rw [← ee2]
    exact qx_i hS1 hx1 h
  · have h := h.2 hc
    refine wpM.mono (h G A ⟨L, P, rfl, hS⟩) (fun rr3 G3 hr => ?_)
    obtain ⟨A3, W3, w3, ⟨L3, P3, rfl, hS3⟩, hy3, rfl, r3, rfl, h⟩ := hr
    refine ⟨r3, rfl, ?_⟩
    have hx3 := Xt.trans hx hy3
    have ee4 : A3 6 0 = A 6 0 := hy3.2 _ _ hS.1.2.1 (((n6_0 hS3)).trans ((n6_0 hS)).symm)
    try rw [← ee4]
    refine ⟨fun hc => ?_, fun hc => ?_⟩
    · have h := h.1 hc
      exact wp.mono (h G3 A3 ⟨L3, P3, rfl, hS3⟩) (fun r G' q => qx_trans hx3 q)
    · have h := h.2 hc
      exact wp.mono (h G3 A3 ⟨L3, P3, rfl, hS3⟩) (fun r G' q => qx_trans hx3 q)
theorem w_X12_clash_68 {E : EE} {d : Nat} {V : VH} {K : Int32 → VH → Prop} {x1 : Int32} {x2 : Int32} {x3 : Int32} {x4 : Int32} {t0 : Int32}  (h : vwp E d M_X12_clash 36 [some (sl 6 0), some (wi x1), some (wi t0), some (wi (x3 + 1)), none] [] V (zi K)) : vwp E d M_X12_clash 68 [some (sl 6 0), some (wi x1), some (wi x2), some (wi x3), some (wi x4)] [wi t0] V (zi K) := by
  intro G A hR
  obtain ⟨L, P, rfl, hS⟩ := hR
  have hx := Xt.refl (V := pl G A L P) (A := A)
  show wp E d M_X12_clash 68 [some (vr (A 6 0)), some (vi x1), some (vi x2), some (vi x3), some (vi x4)] [vi t0] G _
  refine v_X12_clash_68 ?_
  exact wp.mono (h G A ⟨L, P, rfl, hS⟩) (fun r G' q => qx_trans hx q)
theorem w_X12_near_0 {E : EE} {d : Nat} {V : VH} {K : Int32 → VH → Prop} {x1 : Int32} {x2 : Int32}  (h0 : 0 < d) (h : vMI E (d - 1) M_X12_isProblem [sl 6 0, wi x1] V (fun r1 V1 => (¬ r1 = 0 → vMV E (d - 1) M_X12_know [sl 6 0, wi x1] V1 (fun V3 => vMI E (d - 1) M_X12_firstBest [sl 6 0, wi x1, wi (-1), wi 0] V3 (fun r5 V5 => vwp E d M_X12_near 32 [some (sl 6 0), some (wi x1), some (wi x2), some (wi r5), some (wi (-1)), some (wi 0), some (wi 0), none, none] [] V5 (zi K)))) ∧ (r1 = 0 → K (-1) V1))) : vMI E d M_X12_near [sl 6 0, wi x1, wi x2] V K := by
  intro G A hR
  obtain ⟨L, P, rfl, hS⟩ := hR
  have hx := Xt.refl (V := pl G A L P) (A := A)
  show wpM E d M_X12_near [vr (A 6 0), vi x1, vi x2] G _
  refine wpM_of mk_X12_near (Nat.le_of_ble_eq_true rfl) ?_
  refine v_X12_near_0 h0 ?_
  refine ⟨hS.o (s6_0 hS), ?_⟩
  refine wpM.mono (h G A ⟨L, P, rfl, hS⟩) (fun rr1 G1 hr => ?_)
  obtain ⟨A1, W1, w1, ⟨L1, P1, rfl, hS1⟩, hy1, rfl, r1, rfl, h⟩ := hr
  refine ⟨r1, rfl, ?_⟩
  have hx1 := Xt.trans hx hy1
  have ee2 : A1 6 0 = A 6 0 := hy1.2 _ _ hS.1.2.1 (((n6_0 hS1)).trans ((n6_0 hS)).symm)
  try rw [← ee2]
  refine ⟨fun hc => ?_, fun hc => ?_⟩
  · have h := h.1 hc
    refine ⟨hS1.o (s6_0 hS1), ?_⟩
    refine wpM.mono (h G1 A1 ⟨L1, P1, rfl, hS1⟩) (fun rr3 G3 hr => ?_)
    obtain ⟨A3, W3, w3, ⟨L3, P3, rfl, hS3⟩, hy3, rfl, rfl, h⟩ := hr
    refine ⟨rfl, ?_⟩
    have hx3 := Xt.trans hx1 hy3
    have ee4 : A3 6 0 = A1 6 0 := hy3.2 _ _ hS1.1.2.1 (((n6_0 hS3)).trans ((n6_0 hS1)).symm)
    try rw [← ee4]
    refine ⟨hS3.o (s6_0 hS3), ?_⟩
    refine wpM.mono (h G3 A3 ⟨L3, P3, rfl, hS3⟩) (fun rr5 G5 hr => ?_)
    obtain ⟨A5, W5, w5, ⟨L5, P5, rfl, hS5⟩, hy5, rfl, r5, rfl, h⟩ := hr
    refine ⟨r5, rfl, ?_⟩
    have hx5 := Xt.trans hx3 hy5
    have ee6 : A5 6 0 = A3 6 0 := hy5.2 _ _ hS3.1.2.1 (((n6_0 hS5)).trans ((n6_0 hS3)).symm)
    try rw [← ee6]
    exact wp.mono (h G5 A5 ⟨L5, P5, rfl, hS5⟩) (fun r G' q => qx_trans hx5 q)
  · have h := h.2 hc
    exact qx_i hS1 hx1 h
theorem w_X12_near_32 {E : EE} {d : Nat} {V : VH} {K : Int32 → VH → Prop} {x1 : Int32} {x2 : Int32} {x3 : Int32} {x4 : Int32} {x5 : Int32} {x6 : Int32}  (h0 : 0 < d) (h : vp_in x1 5 ∧ (((vI V 6 22 (Int32.toNatClampNeg x1)) ≤ x6 → (0 ≤ x4 → vMV E (d - 1) M_X12_putAtHand [sl 6 0, wi x1, wi x4] V (fun V2 => K x5 V2)) ∧ (¬ (0 ≤ x4) → K (-1) V)) ∧ (¬ ((vI V 6 22 (Int32.toNatClampNeg x1)) ≤ x6) → (x2 = 0 → vMI E (d - 1) M_X12_isGood [sl 6 0, wi x1, wi x6] V (fun r4 V4 => (r4 = 0 → vwp E d M_X12_near 158 [some (sl 6 0), some (wi x1), some (wi x2), some (wi x3), some (wi x4), some (wi x5), some (wi x6), none, none] [] V4 (zi K)) ∧ (¬ (r4 = 0) → vwp E d M_X12_near 71 [some (sl 6 0), some (wi x1), some (wi x2), some (wi x3), some (wi x4), some (wi x5), some (wi x6), none, none] [] V4 (zi K)))) ∧ (¬ (x2 = 0) → vMI E (d - 1) M_X12_isBest [sl 6 0, wi x1, wi x6, wi x3] V (fun r6 V6 => (r6 = 0 → vwp E d M_X12_near 158 [some (sl 6 0), some (wi x1), some (wi x2), some (wi x3), some (wi x4), some (wi x5), some (wi x6), none, none] [] V6 (zi K)) ∧ (¬ (r6 = 0) → vwp E d M_X12_near 71 [some (sl 6 0), some (wi x1), some (wi x2), some (wi x3), some (wi x4), some (wi x5), some (wi x6), none, none] [] V6 (zi K))))))) : vwp E d M_X12_near 32 [some (sl 6 0), some (wi x1), some (wi x2), some (wi x3), some (wi x4), some (wi x5), some (wi x6), none, none] [] V (zi K) := by
  intro G A hR
  obtain ⟨L, P, rfl, hS⟩ := hR
  have hx := Xt.refl (V := pl G A L P) (A := A)
  show wp E d M_X12_near 32 [some (vr (A 6 0)), some (vi x1), some (vi x2), some (vi x3), some (vi x4), some (vi x5), some (vi x6), none, none] [] G _
  refine v_X12_near_32 h0 ?_
  refine ⟨hS.o (s6_0 hS), ?_⟩
  rw [l6_0_25 hS]
  refine ⟨hS.o (s6_22 hS), ?_⟩
  obtain ⟨hi1, h⟩ := h
  refine ⟨by first | (rw [(n6_22 hS)]; exact hi1) | exact (congrArg (vp_in _) (n6_22 hS)).mpr hi1 | exact hi1, ?_⟩
  refine ⟨fun hc => ?_, fun hc => ?_⟩
  · have h := h.1 hc
    refine ⟨fun hc => ?_, fun hc => ?_⟩
    · have h := h.1 hc
      refine wpM.mono (h G A ⟨L, P, rfl, hS⟩) (fun rr2 G2 hr => ?_)
      obtain ⟨A2, W2, w2, ⟨L2, P2, rfl, hS2⟩, hy2, rfl, rfl, h⟩ := hr
      refine ⟨rfl, ?_⟩
      have hx2 := Xt.trans hx hy2
      have ee3 : A2 6 0 = A 6 0 := hy2.2 _ _ hS.1.2.1 (((n6_0 hS2)).trans ((n6_0 hS)).symm)
      try rw [← ee3]
      exact qx_i hS2 hx2 h
    · have h := h.2 hc
      exact qx_i hS hx h
  · have h := h.2 hc
    refine ⟨fun hc => ?_, fun hc => ?_⟩
    · have h := h.1 hc
      refine wpM.mono (h G A ⟨L, P, rfl, hS⟩) (fun rr4 G4 hr => ?_)
      obtain ⟨A4, W4, w4, ⟨L4, P4, rfl, hS4⟩, hy4, rfl, r4, rfl, h⟩ := hr
      refine ⟨r4, rfl, ?_⟩
      have hx4 := Xt.trans hx hy4
      have ee5 : A4 6 0 = A 6 0 := hy4.2 _ _ hS.1.2.1 (((n6_0 hS4)).trans ((n6_0 hS)).symm)
      try rw [← ee5]
      refine ⟨fun hc => ?_, fun hc => ?_⟩
      · have h := h.1 hc
        exact wp.mono (h G4 A4 ⟨L4, P4, rfl, hS4⟩) (fun r G' q => qx_trans hx4 q)
      · have h := h.2 hc
        exact wp.mono (h G4 A4 ⟨L4, P4, rfl, hS4⟩) (fun r G' q => qx_trans hx4 q)
    · have h := h.2 hc
      refine wpM.mono (h G A ⟨L, P, rfl, hS⟩) (fun rr6 G6 hr => ?_)
      obtain ⟨A6, W6, w6, ⟨L6, P6, rfl, hS6⟩, hy6, rfl, r6, rfl, h⟩ := hr
      refine ⟨r6, rfl, ?_⟩
      have hx6 := Xt.trans hx hy6
      have ee7 : A6 6 0 = A 6 0 := hy6.2 _ _ hS.1.2.1 (((n6_0 hS6)).trans ((n6_0 hS)).symm)
      try rw [← ee7]
      refine ⟨fun hc => ?_, fun hc => ?_⟩
      · have h := h.1 hc
        exact wp.mono (h G6 A6 ⟨L6, P6, rfl, hS6⟩) (fun r G' q => qx_trans hx6 q)
      · have h := h.2 hc
        exact wp.mono (h G6 A6 ⟨L6, P6, rfl, hS6⟩) (fun r G' q => qx_trans hx6 q)
theorem w_X12_near_71 {E : EE} {d : Nat} {V : VH} {K : Int32 → VH → Prop} {x1 : Int32} {x2 : Int32} {x3 : Int32} {x4 : Int32} {x5 : Int32} {x6 : Int32}  (h : vwp E d M_X12_near 77 [some (sl 6 0), some (wi x1), some (wi x2), some (wi x3), some (wi x4), some (wi x5), some (wi x6), some (wi 0), some (wi 0)] [] V (zi K)) : vwp E d M_X12_near 71 [some (sl 6 0), some (wi x1), some (wi x2), some (wi x3), some (wi x4), some (wi x5), some (wi x6), none, none] [] V (zi K) := by
  intro G A hR
  obtain ⟨L, P, rfl, hS⟩ := hR
  have hx := Xt.refl (V := pl G A L P) (A := A)
  show wp E d M_X12_near 71 [some (vr (A 6 0)), some (vi x1), some (vi x2), some (vi x3), some (vi x4), some (vi x5), some (vi x6), none, none] [] G _
  refine v_X12_near_71 ?_
  exact wp.mono (h G A ⟨L, P, rfl, hS⟩) (fun r G' q => qx_trans hx q)
theorem w_X12_near_77 {E : EE} {d : Nat} {V : VH} {K : Int32 → VH → Prop} {x1 : Int32} {x2 : Int32} {x3 : Int32} {x4 : Int32} {x5 : Int32} {x6 : Int32} {x7 : Int32} {x8 : Int32}  (h0 : 0 < d) (h : vMI E (d - 1) M_X12_vars [sl 6 0, wi x1] V (fun r1 V1 => (r1 ≤ x8 → (x4 < 0 → vwp E d M_X12_near 150 [some (sl 6 0), some (wi x1), some (wi x2), some (wi x3), some (wi x4), some (wi x5), some (wi x6), some (wi x7), some (wi x8)] [] V1 (zi K)) ∧ (¬ (x4 < 0) → (x5 ≤ x7 → vwp E d M_X12_near 158 [some (sl 6 0), some (wi x1), some (wi x2), some (wi x3), some (wi x4), some (wi x5), some (wi x6), none, none] [] V1 (zi K)) ∧ (¬ (x5 ≤ x7) → vwp E d M_X12_near 150 [some (sl 6 0), some (wi x1), some (wi x2), some (wi x3), some (wi x4), some (wi x5), some (wi x6), some (wi x7), some (wi x8)] [] V1 (zi K)))) ∧ (¬ (r1 ≤ x8) → vMI E (d - 1) M_X12_place [sl 6 0, wi x1, wi x6, wi x8] V1 (fun r3 V3 => vp_in ((12 * x1) + x8) 60 ∧ ((¬ r3 = (vI V3 6 19 (Int32.toNatClampNeg ((12 * x1) + x8))) → vp_in ((12 * x1) + x8) 60 ∧ (vwp E d M_X12_near 129 [some (sl 6 0), some (wi x1), some (wi x2), some (wi x3), some (wi x4), some (wi x5), some (wi x6), some (wi x7), some (wi x8)] [wi (vI V3 6 20 (Int32.toNatClampNeg ((12 * x1) + x8))), wi x7] V3 (zi K))) ∧ (r3 = (vI V3 6 19 (Int32.toNatClampNeg ((12 * x1) + x8))) → vwp E d M_X12_near 129 [some (sl 6 0), some (wi x1), some (wi x2), some (wi x3), some (wi x4), some (wi x5), some (wi x6), some (wi x7), some (wi x8)] [wi 0, wi x7] V3 (zi K))))))) : vwp E d M_X12_near 77 [some (sl 6 0), some (wi x1), some (wi x2), some (wi x3), some (wi x4), some (wi x5), some (wi x6), some (wi x7), some (wi x8)] [] V (zi K) := by
  intro G A hR
  obtain ⟨L, P, rfl, hS⟩ := hR
  have hx := Xt.refl (V := pl G A L P) (A := A)
  show wp E d M_X12_near 77 [some (vr (A 6 0)), some (vi x1), some (vi x2), some (vi x3), some (vi x4), some (vi x5), some (vi x6), some (vi x7), some (vi x8)] [] G _
  refine v_X12_near_77 h0 ?_
  refine ⟨hS.o (s6_0 hS), ?_⟩
  refine wpM.mono (h G A ⟨L, P, rfl, hS⟩) (fun rr1 G1 hr => ?_)
  obtain ⟨A1, W1, w1, ⟨L1, P1, rfl, hS1⟩, hy1, rfl, r1, rfl, h⟩ := hr
  refine ⟨r1, rfl, ?_⟩
  have hx1 := Xt.trans hx hy1
  have ee2 : A1 6 0 = A 6 0 := hy1.2 _ _ hS.1.2.1 (((n6_0 hS1)).trans ((n6_0 hS)).symm)
  try rw [← ee2]
  refine ⟨fun hc => ?_, fun hc => ?_⟩
  · have h := h.1 hc
    refine ⟨fun hc => ?_, fun hc => ?_⟩
    · have h := h.1 hc
      exact wp.mono (h G1 A1 ⟨L1, P1, rfl, hS1⟩) (fun r G' q => qx_trans hx1 q)
    · have h := h.2 hc
      refine ⟨fun hc => ?_, fun hc => ?_⟩
      · have h := h.1 hc
        exact wp.mono (h G1 A1 ⟨L1, P1, rfl, hS1⟩) (fun r G' q => qx_trans hx1 q)
      · have h := h.2 hc
        exact wp.mono (h G1 A1 ⟨L1, P1, rfl, hS1⟩) (fun r G' q => qx_trans hx1 q)
  · have h := h.2 hc
    refine ⟨hS1.o (s6_0 hS1), ?_⟩
    refine wpM.mono (h G1 A1 ⟨L1, P1, rfl, hS1⟩) (fun rr3 G3 hr => ?_)
    obtain ⟨A3, W3, w3, ⟨L3, P3, rfl, hS3⟩, hy3, rfl, r3, rfl, h⟩ := hr
    refine ⟨r3, rfl, ?_⟩
    have hx3 := Xt.trans hx1 hy3
    have ee4 : A3 6 0 = A1 6 0 := hy3.2 _ _ hS1.1.2.1 (((n6_0 hS3)).trans ((n6_0 hS1)).symm)
    try rw [← ee4]
    refine ⟨hS3.o (s6_0 hS3), ?_⟩
    rw [l6_0_22 hS3]
    refine ⟨hS3.o (s6_19 hS3), ?_⟩
    obtain ⟨hi5, h⟩ := h
    refine ⟨by first | (rw [(n6_19 hS3)]; exact hi5) | exact (congrArg (vp_in _) (n6_19 hS3)).mpr hi5 | exact hi5, ?_⟩
    refine ⟨fun hc => ?_, fun hc => ?_⟩
    · have h := h.1 hc
      rw [l6_0_23 hS3]
      refine ⟨hS3.o (s6_20 hS3), ?_⟩
      obtain ⟨hi6, h⟩ := h
      refine ⟨by first | (rw [(n6_20 hS3)]; exact hi6) | exact (congrArg (vp_in _) (n6_20 hS3)).mpr hi6 | exact hi6, ?_⟩
      exact wp.mono (h G3 A3 ⟨L3, P3, rfl, hS3⟩) (fun r G' q => qx_trans hx3 q)
    · have h := h.2 hc
      exact wp.mono (h G3 A3 ⟨L3, P3, rfl, hS3⟩) (fun r G' q => qx_trans hx3 q)
theorem w_X12_near_129 {E : EE} {d : Nat} {V : VH} {K : Int32 → VH → Prop} {x1 : Int32} {x2 : Int32} {x3 : Int32} {x4 : Int32} {x5 : Int32} {x6 : Int32} {x7 : Int32} {x8 : Int32} {t0 : Int32} {t1 : Int32}  (h : vwp E d M_X12_near 77 [some (sl 6 0), some (wi x1), some (wi x2), some (wi x3), some (wi x4), some (wi x5), some (wi x6), some (wi (t0 + t1)), some (wi (x8 + 1))] [] V (zi K)) : vwp E d M_X12_near 129 [some (sl 6 0), some (wi x1), some (wi x2), some (wi x3), some (wi x4), some (wi x5), some (wi x6), some (wi x7), some (wi x8)] [wi t1, wi t0] V (zi K) := by
  intro G A hR
  obtain ⟨L, P, rfl, hS⟩ := hR
  have hx := Xt.refl (V := pl G A L P) (A := A)
  show wp E d M_X12_near 129 [some (vr (A 6 0)), some (vi x1), some (vi x2), some (vi x3), some (vi x4), some (vi x5), some (vi x6), some (vi x7), some (vi x8)] [vi t1, vi t0] G _
  refine v_X12_near_129 ?_
  exact wp.mono (h G A ⟨L, P, rfl, hS⟩) (fun r G' q => qx_trans hx q)
theorem w_X12_near_150 {E : EE} {d : Nat} {V : VH} {K : Int32 → VH → Prop} {x1 : Int32} {x2 : Int32} {x3 : Int32} {x4 : Int32} {x5 : Int32} {x6 : Int32} {x7 : Int32} {x8 : Int32}  (h : vwp E d M_X12_near 158 [some (sl 6 0), some (wi x1), some (wi x2), some (wi x3), some (wi x6), some (wi x7), some (wi x6), none, none] [] V (zi K)) : vwp E d M_X12_near 150 [some (sl 6 0), some (wi x1), some (wi x2), some (wi x3), some (wi x4), some (wi x5), some (wi x6), some (wi x7), some (wi x8)] [] V (zi K) := by
  intro G A hR
  obtain ⟨L, P, rfl, hS⟩ := hR
  have hx := Xt.refl (V := pl G A L P) (A := A)
  show wp E d M_X12_near 150 [some (vr (A 6 0)), some (vi x1), some (vi x2), some (vi x3), some (vi x4), some (vi x5), some (vi x6), some (vi x7), some (vi x8)] [] G _
  refine v_X12_near_150 ?_
  exact wp.mono (h G A ⟨L, P, rfl, hS⟩) (fun r G' q => qx_trans hx q)
theorem w_X12_near_158 {E : EE} {d : Nat} {V : VH} {K : Int32 → VH → Prop} {x1 : Int32} {x2 : Int32} {x3 : Int32} {x4 : Int32} {x5 : Int32} {x6 : Int32}  (h : vwp E d M_X12_near 32 [some (sl 6 0), some (wi x1), some (wi x2), some (wi x3), some (wi x4), some (wi x5), some (wi (x6 + 1)), none, none] [] V (zi K)) : vwp E d M_X12_near 158 [some (sl 6 0), some (wi x1), some (wi x2), some (wi x3), some (wi x4), some (wi x5), some (wi x6), none, none] [] V (zi K) := by
  intro G A hR
  obtain ⟨L, P, rfl, hS⟩ := hR
  have hx := Xt.refl (V := pl G A L P) (A := A)
  show wp E d M_X12_near 158 [some (vr (A 6 0)), some (vi x1), some (vi x2), some (vi x3), some (vi x4), some (vi x5), some (vi x6), none, none] [] G _
  refine v_X12_near_158 ?_
  exact wp.mono (h G A ⟨L, P, rfl, hS⟩) (fun r G' q => qx_trans hx q)
theorem w_X12_isBest_0 {E : EE} {d : Nat} {V : VH} {K : Int32 → VH → Prop} {x1 : Int32} {x2 : Int32} {x3 : Int32}  (h0 : 0 < d) (h : (x3 < 0 → K 0 V) ∧ (¬ (x3 < 0) → vMI E (d - 1) M_X12_isGood [sl 6 0, wi x1, wi x2] V (fun r1 V1 => (r1 = 0 → K 0 V1) ∧ (¬ (r1 = 0) → vMI E (d - 1) M_X12_isBetter [sl 6 0, wi x3, wi x2] V1 (fun r3 V3 => (¬ r3 = 0 → K 0 V3) ∧ (r3 = 0 → K 1 V3)))))) : vMI E d M_X12_isBest [sl 6 0, wi x1, wi x2, wi x3] V K := by
  intro G A hR
  obtain ⟨L, P, rfl, hS⟩ := hR
  have hx := Xt.refl (V := pl G A L P) (A := A)
  show wpM E d M_X12_isBest [vr (A 6 0), vi x1, vi x2, vi x3] G _
  refine wpM_of mk_X12_isBest (Nat.le_of_ble_eq_true rfl) ?_
  refine v_X12_isBest_0 h0 ?_
  refine ⟨fun hc => ?_, fun hc => ?_⟩
  · have h := h.1 hc
    exact qx_i hS hx h
  · have h := h.2 hc
    refine ⟨hS.o (s6_0 hS), ?_⟩
    refine wpM.mono (h G A ⟨L, P, rfl, hS⟩) (fun rr1 G1 hr => ?_)
    obtain ⟨A1, W1, w1, ⟨L1, P1, rfl, hS1⟩, hy1, rfl, r1, rfl, h⟩ := hr
    refine ⟨r1, rfl, ?_⟩
    have hx1 := Xt.trans hx hy1
    have ee2 : A1 6 0 = A 6 0 := hy1.2 _ _ hS.1.2.1 (((n6_0 hS1)).trans ((n6_0 hS)).symm)
    try rw [← ee2]
    refine ⟨fun hc => ?_, fun hc => ?_⟩
    · have h := h.1 hc
      exact qx_i hS1 hx1 h
    · have h := h.2 hc
      refine ⟨hS1.o (s6_0 hS1), ?_⟩
      refine wpM.mono (h G1 A1 ⟨L1, P1, rfl, hS1⟩) (fun rr3 G3 hr => ?_)
      obtain ⟨A3, W3, w3, ⟨L3, P3, rfl, hS3⟩, hy3, rfl, r3, rfl, h⟩ := hr
      refine ⟨r3, rfl, ?_⟩
      have hx3 := Xt.trans hx1 hy3
      have ee4 : A3 6 0 = A1 6 0 := hy3.2 _ _ hS1.1.2.1 (((n6_0 hS3)).trans ((n6_0 hS1)).symm)
      try rw [← ee4]
      refine ⟨fun hc => ?_, fun hc => ?_⟩
      · have h := h.1 hc
        exact qx_i hS3 hx3 h
      · have h := h.2 hc
        exact qx_i hS3 hx3 h
theorem w_X12_frontPlan_0 {E : EE} {d : Nat} {V : VH} {K : Int32 → VH → Prop} {x1 : Int32} {x2 : Int32}  (h0 : 0 < d) (h : vMI E (d - 1) M_X12_isProblem [sl 6 0, wi x1] V (fun r1 V1 => (¬ r1 = 0 → vMV E (d - 1) M_X12_know [sl 6 0, wi x1] V1 (fun V3 => vMI E (d - 1) M_X12_findPair [sl 6 0, wi x1, wi x2] V3 (fun r5 V5 => (¬ r5 = 0 → vwp E d M_X12_frontPlan 28 [some (sl 6 0), some (wi x1), some (wi x2), some (wi 0)] [] V5 (zi K)) ∧ (r5 = 0 → K 0 V5)))) ∧ (r1 = 0 → K 0 V1))) : vMI E d M_X12_frontPlan [sl 6 0, wi x1, wi x2] V K := by
  intro G A hR
  obtain ⟨L, P, rfl, hS⟩ := hR
  have hx := Xt.refl (V := pl G A L P) (A := A)
  show wpM E d M_X12_frontPlan [vr (A 6 0), vi x1, vi x2] G _
  refine wpM_of mk_X12_frontPlan (Nat.le_of_ble_eq_true rfl) ?_
  refine v_X12_frontPlan_0 h0 ?_
  refine ⟨hS.o (s6_0 hS), ?_⟩
  refine wpM.mono (h G A ⟨L, P, rfl, hS⟩) (fun rr1 G1 hr => ?_)
  obtain ⟨A1, W1, w1, ⟨L1, P1, rfl, hS1⟩, hy1, rfl, r1, rfl, h⟩ := hr
  refine ⟨r1, rfl, ?_⟩
  have hx1 := Xt.trans hx hy1
  have ee2 : A1 6 0 = A 6 0 := hy1.2 _ _ hS.1.2.1 (((n6_0 hS1)).trans ((n6_0 hS)).symm)
  try rw [← ee2]
  refine ⟨fun hc => ?_, fun hc => ?_⟩
  · have h := h.1 hc
    refine ⟨hS1.o (s6_0 hS1), ?_⟩
    refine wpM.mono (h G1 A1 ⟨L1, P1, rfl, hS1⟩) (fun rr3 G3 hr => ?_)
    obtain ⟨A3, W3, w3, ⟨L3, P3, rfl, hS3⟩, hy3, rfl, rfl, h⟩ := hr
    refine ⟨rfl, ?_⟩
    have hx3 := Xt.trans hx1 hy3
    have ee4 : A3 6 0 = A1 6 0 := hy3.2 _ _ hS1.1.2.1 (((n6_0 hS3)).trans ((n6_0 hS1)).symm)
    try rw [← ee4]
    refine ⟨hS3.o (s6_0 hS3), ?_⟩
    refine wpM.mono (h G3 A3 ⟨L3, P3, rfl, hS3⟩) (fun rr5 G5 hr => ?_)
    obtain ⟨A5, W5, w5, ⟨L5, P5, rfl, hS5⟩, hy5, rfl, r5, rfl, h⟩ := hr
    refine ⟨r5, rfl, ?_⟩
    have hx5 := Xt.trans hx3 hy5
    have ee6 : A5 6 0 = A3 6 0 := hy5.2 _ _ hS3.1.2.1 (((n6_0 hS5)).trans ((n6_0 hS3)).symm)
    try rw [← ee6]
    refine ⟨fun hc => ?_, fun hc => ?_⟩
    · have h := h.1 hc
      exact wp.mono (h G5 A5 ⟨L5, P5, rfl, hS5⟩) (fun r G' q => qx_trans hx5 q)
    · have h := h.2 hc
      exact qx_i hS5 hx5 h
  · have h := h.2 hc
    exact qx_i hS1 hx1 h
theorem w_X12_frontPlan_28 {E : EE} {d : Nat} {V : VH} {K : Int32 → VH → Prop} {x1 : Int32} {x2 : Int32} {x3 : Int32}  (h0 : 0 < d) (h : vMI E (d - 1) M_X12_isPair [sl 6 0, wi x1, wi x3] V (fun r1 V1 => (¬ r1 = 0 → vMV E (d - 1) M_X12_putAtHand [sl 6 0, wi x1, wi x3] V1 (fun V3 => K 1 V3)) ∧ (r1 = 0 → vwp E d M_X12_frontPlan 28 [some (sl 6 0), some (wi x1), some (wi x2), some (wi (x3 + 1))] [] V1 (zi K)))) : vwp E d M_X12_frontPlan 28 [some (sl 6 0), some (wi x1), some (wi x2), some (wi x3)] [] V (zi K) := by
  intro G A hR
  obtain ⟨L, P, rfl, hS⟩ := hR
  have hx := Xt.refl (V := pl G A L P) (A := A)
  show wp E d M_X12_frontPlan 28 [some (vr (A 6 0)), some (vi x1), some (vi x2), some (vi x3)] [] G _
  refine v_X12_frontPlan_28 h0 ?_
  refine ⟨hS.o (s6_0 hS), ?_⟩
  refine wpM.mono (h G A ⟨L, P, rfl, hS⟩) (fun rr1 G1 hr => ?_)
  obtain ⟨A1, W1, w1, ⟨L1, P1, rfl, hS1⟩, hy1, rfl, r1, rfl, h⟩ := hr
  refine ⟨r1, rfl, ?_⟩
  have hx1 := Xt.trans hx hy1
  have ee2 : A1 6 0 = A 6 0 := hy1.2 _ _ hS.1.2.1 (((n6_0 hS1)).trans ((n6_0 hS)).symm)
  try rw [← ee2]
  refine ⟨fun hc => ?_, fun hc => ?_⟩
  · have h := h.1 hc
    refine ⟨hS1.o (s6_0 hS1), ?_⟩
    refine wpM.mono (h G1 A1 ⟨L1, P1, rfl, hS1⟩) (fun rr3 G3 hr => ?_)
    obtain ⟨A3, W3, w3, ⟨L3, P3, rfl, hS3⟩, hy3, rfl, rfl, h⟩ := hr
    refine ⟨rfl, ?_⟩
    have hx3 := Xt.trans hx1 hy3
    have ee4 : A3 6 0 = A1 6 0 := hy3.2 _ _ hS1.1.2.1 (((n6_0 hS3)).trans ((n6_0 hS1)).symm)
    try rw [← ee4]
    exact qx_i hS3 hx3 h
  · have h := h.2 hc
    exact wp.mono (h G1 A1 ⟨L1, P1, rfl, hS1⟩) (fun r G' q => qx_trans hx1 q)
theorem w_X12_findPair_0 {E : EE} {d : Nat} {V : VH} {K : Int32 → VH → Prop} {x1 : Int32} {x2 : Int32}  (h0 : 0 < d) (h : (x2 < 0 → vwp E d M_X12_findPair 18 [some (sl 6 0), some (wi x1), some (wi x2), none, none] [] V (zi K)) ∧ (¬ (x2 < 0) → vMI E (d - 1) M_X12_nextPair [sl 6 0, wi x1, wi 0, wj 0] V (fun r1 V1 => (r1 = 0 → vwp E d M_X12_findPair 18 [some (sl 6 0), some (wi x1), some (wi x2), none, none] [] V1 (zi K)) ∧ (¬ (r1 = 0) → vwp E d M_X12_findPair 19 [some (sl 6 0), some (wi x1), some (wi x2), none, none] [wi 1] V1 (zi K))))) : vMI E d M_X12_findPair [sl 6 0, wi x1, wi x2] V K := by
  intro G A hR
  obtain ⟨L, P, rfl, hS⟩ := hR
  have hx := Xt.refl (V := pl G A L P) (A := A)
  show wpM E d M_X12_findPair [vr (A 6 0), vi x1, vi x2] G _
  refine wpM_of mk_X12_findPair (Nat.le_of_ble_eq_true rfl) ?_
  refine v_X12_findPair_0 h0 ?_
  refine ⟨fun hc => ?_, fun hc => ?_⟩
  · have h := h.1 hc
    exact wp.mono (h G A ⟨L, P, rfl, hS⟩) (fun r G' q => qx_trans hx q)
  · have h := h.2 hc
    refine ⟨hS.o (s6_0 hS), ?_⟩
    refine wpM.mono (h G A ⟨L, P, rfl, hS⟩) (fun rr1 G1 hr => ?_)
    obtain ⟨A1, W1, w1, ⟨L1, P1, rfl, hS1⟩, hy1, rfl, r1, rfl, h⟩ := hr
    refine ⟨r1, rfl, ?_⟩
    have hx1 := Xt.trans hx hy1
    have ee2 : A1 6 0 = A 6 0 := hy1.2 _ _ hS.1.2.1 (((n6_0 hS1)).trans ((n6_0 hS)).symm)
    try rw [← ee2]
    refine ⟨fun hc => ?_, fun hc => ?_⟩
    · have h := h.1 hc
      exact wp.mono (h G1 A1 ⟨L1, P1, rfl, hS1⟩) (fun r G' q => qx_trans hx1 q)
    · have h := h.2 hc
      exact wp.mono (h G1 A1 ⟨L1, P1, rfl, hS1⟩) (fun r G' q => qx_trans hx1 q)
theorem w_X12_findPair_18 {E : EE} {d : Nat} {V : VH} {K : Int32 → VH → Prop} {x1 : Int32} {x2 : Int32}  (h : vwp E d M_X12_findPair 19 [some (sl 6 0), some (wi x1), some (wi x2), none, none] [wi 0] V (zi K)) : vwp E d M_X12_findPair 18 [some (sl 6 0), some (wi x1), some (wi x2), none, none] [] V (zi K) := by
  intro G A hR
  obtain ⟨L, P, rfl, hS⟩ := hR
  have hx := Xt.refl (V := pl G A L P) (A := A)
  show wp E d M_X12_findPair 18 [some (vr (A 6 0)), some (vi x1), some (vi x2), none, none] [] G _
  refine v_X12_findPair_18 ?_
  exact wp.mono (h G A ⟨L, P, rfl, hS⟩) (fun r G' q => qx_trans hx q)
theorem w_X12_findPair_19 {E : EE} {d : Nat} {V : VH} {K : Int32 → VH → Prop} {x1 : Int32} {x2 : Int32} {t0 : Int32}  (h : vwp E d M_X12_findPair 23 [some (sl 6 0), some (wi x1), some (wi x2), some (wi t0), some (wi 0)] [] V (zi K)) : vwp E d M_X12_findPair 19 [some (sl 6 0), some (wi x1), some (wi x2), none, none] [wi t0] V (zi K) := by
  intro G A hR
  obtain ⟨L, P, rfl, hS⟩ := hR
  have hx := Xt.refl (V := pl G A L P) (A := A)
  show wp E d M_X12_findPair 19 [some (vr (A 6 0)), some (vi x1), some (vi x2), none, none] [vi t0] G _
  refine v_X12_findPair_19 ?_
  exact wp.mono (h G A ⟨L, P, rfl, hS⟩) (fun r G' q => qx_trans hx q)
theorem w_X12_findPair_23 {E : EE} {d : Nat} {V : VH} {K : Int32 → VH → Prop} {x1 : Int32} {x2 : Int32} {x3 : Int32} {x4 : Int32}  (h0 : 0 < d) (h : (x3 = 0 → bz x3 ∧ K x3 V) ∧ (¬ (x3 = 0) → (x2 ≤ x4 → bz x3 ∧ K x3 V) ∧ (¬ (x2 ≤ x4) → vMI E (d - 1) M_X12_nextPair [sl 6 0, wi x1, wi 1, wj (vJ V 6 0 70)] V (fun r1 V1 => vwp E d M_X12_findPair 23 [some (sl 6 0), some (wi x1), some (wi x2), some (wi r1), some (wi (x4 + 1))] [] V1 (zi K))))) : vwp E d M_X12_findPair 23 [some (sl 6 0), some (wi x1), some (wi x2), some (wi x3), some (wi x4)] [] V (zi K) := by
  intro G A hR
  obtain ⟨L, P, rfl, hS⟩ := hR
  have hx := Xt.refl (V := pl G A L P) (A := A)
  show wp E d M_X12_findPair 23 [some (vr (A 6 0)), some (vi x1), some (vi x2), some (vi x3), some (vi x4)] [] G _
  refine v_X12_findPair_23 h0 ?_
  refine ⟨fun hc => ?_, fun hc => ?_⟩
  · have h := h.1 hc
    exact ⟨bz_ok h.1, qx_i hS hx h.2⟩
  · have h := h.2 hc
    refine ⟨fun hc => ?_, fun hc => ?_⟩
    · have h := h.1 hc
      exact ⟨bz_ok h.1, qx_i hS hx h.2⟩
    · have h := h.2 hc
      refine ⟨hS.o (s6_0 hS), ?_⟩
      refine wpM.mono (h G A ⟨L, P, rfl, hS⟩) (fun rr1 G1 hr => ?_)
      obtain ⟨A1, W1, w1, ⟨L1, P1, rfl, hS1⟩, hy1, rfl, r1, rfl, h⟩ := hr
      refine ⟨r1, rfl, ?_⟩
      have hx1 := Xt.trans hx hy1
      have ee2 : A1 6 0 = A 6 0 := hy1.2 _ _ hS.1.2.1 (((n6_0 hS1)).trans ((n6_0 hS)).symm)
      try rw [← ee2]
      exact wp.mono (h G1 A1 ⟨L1, P1, rfl, hS1⟩) (fun r G' q => qx_trans hx1 q)
theorem w_X12_nextPair_0 {E : EE} {d : Nat} {V : VH} {K : Int32 → VH → Prop} {x1 : Int32} {x2 : Int32} {x3 : Int64}  (h : vwp E d M_X12_nextPair 6 [some (sl 6 0), some (wi x1), some (wi x2), some (wj x3), none, some (wi 0), some (wi 0), none, none, none, none] [] V (zi K)) : vMI E d M_X12_nextPair [sl 6 0, wi x1, wi x2, wj x3] V K := by
  intro G A hR
  obtain ⟨L, P, rfl, hS⟩ := hR
  have hx := Xt.refl (V := pl G A L P) (A := A)
  show wpM E d M_X12_nextPair [vr (A 6 0), vi x1, vi x2, vj x3] G _
  refine wpM_of mk_X12_nextPair (Nat.le_of_ble_eq_true rfl) ?_
  refine v_X12_nextPair_0 ?_
  exact wp.mono (h G A ⟨L, P, rfl, hS⟩) (fun r G' q => qx_trans hx q)
theorem w_X12_nextPair_6 {E : EE} {d : Nat} {V : VH} {K : Int32 → VH → Prop} {x1 : Int32} {x2 : Int32} {x3 : Int64} {x5 : Int32} {x6 : Int32}  (h0 : 0 < d) (h : vp_in x1 5 ∧ (((vI V 6 22 (Int32.toNatClampNeg x1)) ≤ x6 → bz x5 ∧ K x5 V) ∧ (¬ ((vI V 6 22 (Int32.toNatClampNeg x1)) ≤ x6) → vp_in (20000 + x6) 60000 ∧ (vp_in (40000 + x6) 60000 ∧ (vMI E (d - 1) M_X12_isGood [sl 6 0, wi x1, wi x6] V (fun r4 V4 => (r4 = 0 → vwp E d M_X12_nextPair 113 [some (sl 6 0), some (wi x1), some (wi x2), some (wj x3), none, some (wi x5), some (wi x6), some (wj (vJ V 6 45 (Int32.toNatClampNeg (20000 + x6)))), none, some (wj (vJ V 6 45 (Int32.toNatClampNeg (40000 + x6)))), none] [] V4 (zi K)) ∧ (¬ (r4 = 0) → (x2 = 0 → vwp E d M_X12_nextPair 63 [some (sl 6 0), some (wi x1), some (wi x2), some (wj x3), none, some (wi x5), some (wi x6), some (wj (vJ V 6 45 (Int32.toNatClampNeg (20000 + x6)))), none, some (wj (vJ V 6 45 (Int32.toNatClampNeg (40000 + x6)))), none] [] V4 (zi K)) ∧ (¬ (x2 = 0) → (x3 ≤ (vJ V 6 45 (Int32.toNatClampNeg (40000 + x6))) → vwp E d M_X12_nextPair 113 [some (sl 6 0), some (wi x1), some (wi x2), some (wj x3), none, some (wi x5), some (wi x6), some (wj (vJ V 6 45 (Int32.toNatClampNeg (20000 + x6)))), none, some (wj (vJ V 6 45 (Int32.toNatClampNeg (40000 + x6)))), none] [] V4 (zi K)) ∧ (¬ (x3 ≤ (vJ V 6 45 (Int32.toNatClampNeg (40000 + x6)))) → vwp E d M_X12_nextPair 63 [some (sl 6 0), some (wi x1), some (wi x2), some (wj x3), none, some (wi x5), some (wi x6), some (wj (vJ V 6 45 (Int32.toNatClampNeg (20000 + x6)))), none, some (wj (vJ V 6 45 (Int32.toNatClampNeg (40000 + x6)))), none] [] V4 (zi K)))))))))) : vwp E d M_X12_nextPair 6 [some (sl 6 0), some (wi x1), some (wi x2), some (wj x3), none, some (wi x5), some (wi x6), none, none, none, none] [] V (zi K) := by
  intro G A hR
  obtain ⟨L, P, rfl, hS⟩ := hR
  have hx := Xt.refl (V := pl G A L P) (A := A)
  show wp E d M_X12_nextPair 6 [some (vr (A 6 0)), some (vi x1), some (vi x2), some (vj x3), none, some (vi x5), some (vi x6), none, none, none, none] [] G _
  refine v_X12_nextPair_6 h0 ?_
  refine ⟨hS.o (s6_0 hS), ?_⟩
  rw [l6_0_25 hS]
  refine ⟨hS.o (s6_22 hS), ?_⟩
  obtain ⟨hi1, h⟩ := h
  refine ⟨by first | (rw [(n6_22 hS)]; exact hi1) | exact (congrArg (vp_in _) (n6_22 hS)).mpr hi1 | exact hi1, ?_⟩
  refine ⟨fun hc => ?_, fun hc => ?_⟩
  · have h := h.1 hc
    exact ⟨bz_ok h.1, qx_i hS hx h.2⟩
  · have h := h.2 hc
    rw [l6_0_66 hS]
    refine ⟨hS.o (s6_45 hS), ?_⟩
    obtain ⟨hi2, h⟩ := h
    refine ⟨by first | (rw [(n6_45 hS)]; exact hi2) | exact (congrArg (vp_in _) (n6_45 hS)).mpr hi2 | exact hi2, ?_⟩
    obtain ⟨hi3, h⟩ := h
    refine ⟨by first | (rw [(n6_45 hS)]; exact hi3) | exact (congrArg (vp_in _) (n6_45 hS)).mpr hi3 | exact hi3, ?_⟩
    refine wpM.mono (h G A ⟨L, P, rfl, hS⟩) (fun rr4 G4 hr => ?_)
    obtain ⟨A4, W4, w4, ⟨L4, P4, rfl, hS4⟩, hy4, rfl, r4, rfl, h⟩ := hr
    refine ⟨r4, rfl, ?_⟩
    have hx4 := Xt.trans hx hy4
    have ee5 : A4 6 0 = A 6 0 := hy4.2 _ _ hS.1.2.1 (((n6_0 hS4)).trans ((n6_0 hS)).symm)
    try rw [← ee5]
    refine ⟨fun hc => ?_, fun hc => ?_⟩
    · have h := h.1 hc
      exact wp.mono (h G4 A4 ⟨L4, P4, rfl, hS4⟩) (fun r G' q => qx_trans hx4 q)
    · have h := h.2 hc
      refine ⟨fun hc => ?_, fun hc => ?_⟩
      · have h := h.1 hc
        exact wp.mono (h G4 A4 ⟨L4, P4, rfl, hS4⟩) (fun r G' q => qx_trans hx4 q)
      · have h := h.2 hc
        refine ⟨fun hc => ?_, fun hc => ?_⟩
        · have h := h.1 hc
          exact wp.mono (h G4 A4 ⟨L4, P4, rfl, hS4⟩) (fun r G' q => qx_trans hx4 q)
        · have h := h.2 hc
          exact wp.mono (h G4 A4 ⟨L4, P4, rfl, hS4⟩) (fun r G' q => qx_trans hx4 q)
theorem w_X12_nextPair_63 {E : EE} {d : Nat} {V : VH} {K : Int32 → VH → Prop} {x1 : Int32} {x2 : Int32} {x3 : Int64} {x5 : Int32} {x6 : Int32} {x7 : Int64} {x9 : Int64}  (h : (x5 = 0 → vwp E d M_X12_nextPair 98 [some (sl 6 0), some (wi x1), some (wi x2), some (wj x3), none, some (wi x5), some (wi x6), some (wj x7), none, some (wj x9), none] [] V (zi K)) ∧ (¬ (x5 = 0) → (x7 < (vJ V 6 0 69) → vwp E d M_X12_nextPair 98 [some (sl 6 0), some (wi x1), some (wi x2), some (wj x3), none, some (wi x5), some (wi x6), some (wj x7), none, some (wj x9), none] [] V (zi K)) ∧ (¬ (x7 < (vJ V 6 0 69)) → (¬ x7 = (vJ V 6 0 69) → vwp E d M_X12_nextPair 113 [some (sl 6 0), some (wi x1), some (wi x2), some (wj x3), none, some (wi x5), some (wi x6), some (wj x7), none, some (wj x9), none] [] V (zi K)) ∧ (x7 = (vJ V 6 0 69) → ((vJ V 6 0 70) ≤ x9 → vwp E d M_X12_nextPair 113 [some (sl 6 0), some (wi x1), some (wi x2), some (wj x3), none, some (wi x5), some (wi x6), some (wj x7), none, some (wj x9), none] [] V (zi K)) ∧ (¬ ((vJ V 6 0 70) ≤ x9) → vwp E d M_X12_nextPair 98 [some (sl 6 0), some (wi x1), some (wi x2), some (wj x3), none, some (wi x5), some (wi x6), some (wj x7), none, some (wj x9), none] [] V (zi K)))))) : vwp E d M_X12_nextPair 63 [some (sl 6 0), some (wi x1), some (wi x2), some (wj x3), none, some (wi x5), some (wi x6), some (wj x7), none, some (wj x9), none] [] V (zi K) := by
  intro G A hR
  obtain ⟨L, P, rfl, hS⟩ := hR
  have hx := Xt.refl (V := pl G A L P) (A := A)
  show wp E d M_X12_nextPair 63 [some (vr (A 6 0)), some (vi x1), some (vi x2), some (vj x3), none, some (vi x5), some (vi x6), some (vj x7), none, some (vj x9), none] [] G _
  refine v_X12_nextPair_63 ?_
  refine ⟨fun hc => ?_, fun hc => ?_⟩
  · have h := h.1 hc
    exact wp.mono (h G A ⟨L, P, rfl, hS⟩) (fun r G' q => qx_trans hx q)
  · have h := h.2 hc
    refine ⟨hS.o (s6_0 hS), ?_⟩
    refine ⟨fun hc => ?_, fun hc => ?_⟩
    · have h := h.1 hc
      exact wp.mono (h G A ⟨L, P, rfl, hS⟩) (fun r G' q => qx_trans hx q)
    · have h := h.2 hc
      refine ⟨fun hc => ?_, fun hc => ?_⟩
      · have h := h.1 hc
        exact wp.mono (h G A ⟨L, P, rfl, hS⟩) (fun r G' q => qx_trans hx q)
      · have h := h.2 hc
        refine ⟨fun hc => ?_, fun hc => ?_⟩
        · have h := h.1 hc
          exact wp.mono (h G A ⟨L, P, rfl, hS⟩) (fun r G' q => qx_trans hx q)
        · have h := h.2 hc
          exact wp.mono (h G A ⟨L, P, rfl, hS⟩) (fun r G' q => qx_trans hx q)
theorem w_X12_nextPair_98 {E : EE} {d : Nat} {V : VH} {K : Int32 → VH → Prop} {x1 : Int32} {x2 : Int32} {x3 : Int64} {x5 : Int32} {x6 : Int32} {x7 : Int64} {x9 : Int64}  (h : ∀ V1 : VH, V1 = wrJ V 6 0 69 x7 → ∀ V2 : VH, V2 = wrJ V1 6 0 70 x9 → vwp E d M_X12_nextPair 113 [some (sl 6 0), some (wi x1), some (wi x2), some (wj x3), none, some (wi 1), some (wi x6), some (wj x7), none, some (wj x9), none] [] V2 (zi K)) : vwp E d M_X12_nextPair 98 [some (sl 6 0), some (wi x1), some (wi x2), some (wj x3), none, some (wi x5), some (wi x6), some (wj x7), none, some (wj x9), none] [] V (zi K) := by
  intro G A hR
  obtain ⟨L, P, rfl, hS⟩ := hR
  have hx := Xt.refl (V := pl G A L P) (A := A)
  show wp E d M_X12_nextPair 98 [some (vr (A 6 0)), some (vi x1), some (vi x2), some (vj x3), none, some (vi x5), some (vi x6), some (vj x7), none, some (vj x9), none] [] G _
  refine v_X12_nextPair_98 ?_
  refine ⟨hS.o (s6_0 hS), ?_⟩
  intro G1 eG1
  have hS1 : Sh E G1 A L P := Sh_sJ eG1 hS
  have h := h (pl G1 A L P) (pl_sJ eG1 hS (s6_0 hS))
  have hx1 : Xt (pl G A L P) A (pl G1 A L P) A := Xt_sJ eG1 hx
  intro G2 eG2
  have hS2 : Sh E G2 A L P := Sh_sJ eG2 hS1
  have h := h (pl G2 A L P) (pl_sJ eG2 hS1 (s6_0 hS1))
  have hx2 : Xt (pl G A L P) A (pl G2 A L P) A := Xt_sJ eG2 hx1
  exact wp.mono (h G2 A ⟨L, P, rfl, hS2⟩) (fun r G' q => qx_trans hx2 q)
theorem w_X12_nextPair_113 {E : EE} {d : Nat} {V : VH} {K : Int32 → VH → Prop} {x1 : Int32} {x2 : Int32} {x3 : Int64} {x5 : Int32} {x6 : Int32} {x7 : Int64} {x9 : Int64}  (h : vwp E d M_X12_nextPair 6 [some (sl 6 0), some (wi x1), some (wi x2), some (wj x3), none, some (wi x5), some (wi (x6 + 1)), none, none, none, none] [] V (zi K)) : vwp E d M_X12_nextPair 113 [some (sl 6 0), some (wi x1), some (wi x2), some (wj x3), none, some (wi x5), some (wi x6), some (wj x7), none, some (wj x9), none] [] V (zi K) := by
  intro G A hR
  obtain ⟨L, P, rfl, hS⟩ := hR
  have hx := Xt.refl (V := pl G A L P) (A := A)
  show wp E d M_X12_nextPair 113 [some (vr (A 6 0)), some (vi x1), some (vi x2), some (vj x3), none, some (vi x5), some (vi x6), some (vj x7), none, some (vj x9), none] [] G _
  refine v_X12_nextPair_113 ?_
  exact wp.mono (h G A ⟨L, P, rfl, hS⟩) (fun r G' q => qx_trans hx q)
theorem w_X12_isPair_0 {E : EE} {d : Nat} {V : VH} {K : Int32 → VH → Prop} {x1 : Int32} {x2 : Int32}  (h0 : 0 < d) (h : vMI E (d - 1) M_X12_isGood [sl 6 0, wi x1, wi x2] V (fun r1 V1 => (r1 = 0 → K 0 V1) ∧ (¬ (r1 = 0) → vp_in (20000 + x2) 60000 ∧ ((¬ (vJ V1 6 45 (Int32.toNatClampNeg (20000 + x2))) = (vJ V1 6 0 69) → K 0 V1) ∧ ((vJ V1 6 45 (Int32.toNatClampNeg (20000 + x2))) = (vJ V1 6 0 69) → vp_in (40000 + x2) 60000 ∧ ((¬ (vJ V1 6 45 (Int32.toNatClampNeg (40000 + x2))) = (vJ V1 6 0 70) → K 0 V1) ∧ ((vJ V1 6 45 (Int32.toNatClampNeg (40000 + x2))) = (vJ V1 6 0 70) → K 1 V1))))))) : vMI E d M_X12_isPair [sl 6 0, wi x1, wi x2] V K := by
  intro G A hR
  obtain ⟨L, P, rfl, hS⟩ := hR
  have hx := Xt.refl (V := pl G A L P) (A := A)
  show wpM E d M_X12_isPair [vr (A 6 0), vi x1, vi x2] G _
  refine wpM_of mk_X12_isPair (Nat.le_of_ble_eq_true rfl) ?_
  refine v_X12_isPair_0 h0 ?_
  refine ⟨hS.o (s6_0 hS), ?_⟩
  refine wpM.mono (h G A ⟨L, P, rfl, hS⟩) (fun rr1 G1 hr => ?_)
  obtain ⟨A1, W1, w1, ⟨L1, P1, rfl, hS1⟩, hy1, rfl, r1, rfl, h⟩ := hr
  refine ⟨r1, rfl, ?_⟩
  have hx1 := Xt.trans hx hy1
  have ee2 : A1 6 0 = A 6 0 := hy1.2 _ _ hS.1.2.1 (((n6_0 hS1)).trans ((n6_0 hS)).symm)
  try rw [← ee2]
  refine ⟨fun hc => ?_, fun hc => ?_⟩
  · have h := h.1 hc
    exact qx_i hS1 hx1 h
  · have h := h.2 hc
    refine ⟨hS1.o (s6_0 hS1), ?_⟩
    rw [l6_0_66 hS1]
    refine ⟨hS1.o (s6_45 hS1), ?_⟩
    obtain ⟨hi3, h⟩ := h
    refine ⟨by first | (rw [(n6_45 hS1)]; exact hi3) | exact (congrArg (vp_in _) (n6_45 hS1)).mpr hi3 | exact hi3, ?_⟩
    refine ⟨fun hc => ?_, fun hc => ?_⟩
    · have h := h.1 hc
      exact qx_i hS1 hx1 h
    · have h := h.2 hc
      obtain ⟨hi4, h⟩ := h
      refine ⟨by first | (rw [(n6_45 hS1)]; exact hi4) | exact (congrArg (vp_in _) (n6_45 hS1)).mpr hi4 | exact hi4, ?_⟩
      refine ⟨fun hc => ?_, fun hc => ?_⟩
      · have h := h.1 hc
        exact qx_i hS1 hx1 h
      · have h := h.2 hc
        exact qx_i hS1 hx1 h
theorem w_X12_frontAt_0 {E : EE} {d : Nat} {V : VH} {K : Int64 → VH → Prop} {x1 : Int32} {x2 : Int32} {x3 : Int32}  (h0 : 0 < d) (h : vMI E (d - 1) M_X12_isProblem [sl 6 0, wi x1] V (fun r1 V1 => (r1 = 0 → K (-9223372036854775808) V1) ∧ (¬ (r1 = 0) → (x3 < 0 → K (-9223372036854775808) V1) ∧ (¬ (x3 < 0) → (x3 ≤ 2 → vMV E (d - 1) M_X12_know [sl 6 0, wi x1] V1 (fun V3 => vMI E (d - 1) M_X12_findPair [sl 6 0, wi x1, wi x2] V3 (fun r5 V5 => (¬ r5 = 0 → (x3 ≤ 0 → vwp E d M_X12_frontAt 66 [some (sl 6 0), some (wi x1), some (wi x2), some (wi x3), some (wj 0), none, some (wi 0)] [] V5 (zj K)) ∧ (¬ (x3 ≤ 0) → (¬ x3 = 1 → K (vJ V5 6 0 70) V5) ∧ (x3 = 1 → K (vJ V5 6 0 69) V5))) ∧ (r5 = 0 → K (-9223372036854775808) V5)))) ∧ (¬ (x3 ≤ 2) → K (-9223372036854775808) V1))))) : vMJ E d M_X12_frontAt [sl 6 0, wi x1, wi x2, wi x3] V K := by
  intro G A hR
  obtain ⟨L, P, rfl, hS⟩ := hR
  have hx := Xt.refl (V := pl G A L P) (A := A)
  show wpM E d M_X12_frontAt [vr (A 6 0), vi x1, vi x2, vi x3] G _
  refine wpM_of mk_X12_frontAt (Nat.le_of_ble_eq_true rfl) ?_
  refine v_X12_frontAt_0 h0 ?_
  refine ⟨hS.o (s6_0 hS), ?_⟩
  refine wpM.mono (h G A ⟨L, P, rfl, hS⟩) (fun rr1 G1 hr => ?_)
  obtain ⟨A1, W1, w1, ⟨L1, P1, rfl, hS1⟩, hy1, rfl, r1, rfl, h⟩ := hr
  refine ⟨r1, rfl, ?_⟩
  have hx1 := Xt.trans hx hy1
  have ee2 : A1 6 0 = A 6 0 := hy1.2 _ _ hS.1.2.1 (((n6_0 hS1)).trans ((n6_0 hS)).symm)
  try rw [← ee2]
  refine ⟨fun hc => ?_, fun hc => ?_⟩
  · have h := h.1 hc
    exact qx_j hS1 hx1 h
  · have h := h.2 hc
    refine ⟨fun hc => ?_, fun hc => ?_⟩
    · have h := h.1 hc
      exact qx_j hS1 hx1 h
    · have h := h.2 hc
      refine ⟨fun hc => ?_, fun hc => ?_⟩
      · have h := h.1 hc
        refine ⟨hS1.o (s6_0 hS1), ?_⟩
        refine wpM.mono (h G1 A1 ⟨L1, P1, rfl, hS1⟩) (fun rr3 G3 hr => ?_)
        obtain ⟨A3, W3, w3, ⟨L3, P3, rfl, hS3⟩, hy3, rfl, rfl, h⟩ := hr
        refine ⟨rfl, ?_⟩
        have hx3 := Xt.trans hx1 hy3
        have ee4 : A3 6 0 = A1 6 0 := hy3.2 _ _ hS1.1.2.1 (((n6_0 hS3)).trans ((n6_0 hS1)).symm)
        try rw [← ee4]
        refine ⟨hS3.o (s6_0 hS3), ?_⟩
        refine wpM.mono (h G3 A3 ⟨L3, P3, rfl, hS3⟩) (fun rr5 G5 hr => ?_)
        obtain ⟨A5, W5, w5, ⟨L5, P5, rfl, hS5⟩, hy5, rfl, r5, rfl, h⟩ := hr
        refine ⟨r5, rfl, ?_⟩
        have hx5 := Xt.trans hx3 hy5
        have ee6 : A5 6 0 = A3 6 0 := hy5.2 _ _ hS3.1.2.1 (((n6_0 hS5)).trans ((n6_0 hS3)).symm)
        try rw [← ee6]
        refine ⟨fun hc => ?_, fun hc => ?_⟩
        · have h := h.1 hc
          refine ⟨fun hc => ?_, fun hc => ?_⟩
          · have h := h.1 hc
            exact wp.mono (h G5 A5 ⟨L5, P5, rfl, hS5⟩) (fun r G' q => qx_trans hx5 q)
          · have h := h.2 hc
            refine ⟨fun hc => ?_, fun hc => ?_⟩
            · have h := h.1 hc
              refine ⟨hS5.o (s6_0 hS5), ?_⟩
              exact qx_j hS5 hx5 h
            · have h := h.2 hc
              refine ⟨hS5.o (s6_0 hS5), ?_⟩
              exact qx_j hS5 hx5 h
        · have h := h.2 hc
          exact qx_j hS5 hx5 h
      · have h := h.2 hc
        exact qx_j hS1 hx1 h
theorem w_X12_frontAt_66 {E : EE} {d : Nat} {V : VH} {K : Int64 → VH → Prop} {x1 : Int32} {x2 : Int32} {x3 : Int32} {x4 : Int64} {x6 : Int32}  (h0 : 0 < d) (h : vp_in x1 5 ∧ (((vI V 6 22 (Int32.toNatClampNeg x1)) ≤ x6 → K x4 V) ∧ (¬ ((vI V 6 22 (Int32.toNatClampNeg x1)) ≤ x6) → vMI E (d - 1) M_X12_isPair [sl 6 0, wi x1, wi x6] V (fun r2 V2 => (r2 = 0 → vwp E d M_X12_frontAt 94 [some (sl 6 0), some (wi x1), some (wi x2), some (wi x3), some (wj x4), none, some (wi x6)] [wj 0, wj x4] V2 (zj K)) ∧ (¬ (r2 = 0) → vwp E d M_X12_frontAt 94 [some (sl 6 0), some (wi x1), some (wi x2), some (wi x3), some (wj x4), none, some (wi x6)] [wj 1, wj x4] V2 (zj K)))))) : vwp E d M_X12_frontAt 66 [some (sl 6 0), some (wi x1), some (wi x2), some (wi x3), some (wj x4), none, some (wi x6)] [] V (zj K) := by
  intro G A hR
  obtain ⟨L, P, rfl, hS⟩ := hR
  have hx := Xt.refl (V := pl G A L P) (A := A)
  show wp E d M_X12_frontAt 66 [some (vr (A 6 0)), some (vi x1), some (vi x2), some (vi x3), some (vj x4), none, some (vi x6)] [] G _
  refine v_X12_frontAt_66 h0 ?_
  refine ⟨hS.o (s6_0 hS), ?_⟩
  rw [l6_0_25 hS]
  refine ⟨hS.o (s6_22 hS), ?_⟩
  obtain ⟨hi1, h⟩ := h
  refine ⟨by first | (rw [(n6_22 hS)]; exact hi1) | exact (congrArg (vp_in _) (n6_22 hS)).mpr hi1 | exact hi1, ?_⟩
  refine ⟨fun hc => ?_, fun hc => ?_⟩
  · have h := h.1 hc
    exact qx_j hS hx h
  · have h := h.2 hc
    refine wpM.mono (h G A ⟨L, P, rfl, hS⟩) (fun rr2 G2 hr => ?_)
    obtain ⟨A2, W2, w2, ⟨L2, P2, rfl, hS2⟩, hy2, rfl, r2, rfl, h⟩ := hr
    refine ⟨r2, rfl, ?_⟩
    have hx2 := Xt.trans hx hy2
    have ee3 : A2 6 0 = A 6 0 := hy2.2 _ _ hS.1.2.1 (((n6_0 hS2)).trans ((n6_0 hS)).symm)
    try rw [← ee3]
    refine ⟨fun hc => ?_, fun hc => ?_⟩
    · have h := h.1 hc
      exact wp.mono (h G2 A2 ⟨L2, P2, rfl, hS2⟩) (fun r G' q => qx_trans hx2 q)
    · have h := h.2 hc
      exact wp.mono (h G2 A2 ⟨L2, P2, rfl, hS2⟩) (fun r G' q => qx_trans hx2 q)
theorem w_X12_frontAt_94 {E : EE} {d : Nat} {V : VH} {K : Int64 → VH → Prop} {x1 : Int32} {x2 : Int32} {x3 : Int32} {x4 : Int64} {x6 : Int32} {t0 : Int64} {t1 : Int64}  (h : vwp E d M_X12_frontAt 66 [some (sl 6 0), some (wi x1), some (wi x2), some (wi x3), some (wj (t0 + t1)), none, some (wi (x6 + 1))] [] V (zj K)) : vwp E d M_X12_frontAt 94 [some (sl 6 0), some (wi x1), some (wi x2), some (wi x3), some (wj x4), none, some (wi x6)] [wj t1, wj t0] V (zj K) := by
  intro G A hR
  obtain ⟨L, P, rfl, hS⟩ := hR
  have hx := Xt.refl (V := pl G A L P) (A := A)
  show wp E d M_X12_frontAt 94 [some (vr (A 6 0)), some (vi x1), some (vi x2), some (vi x3), some (vj x4), none, some (vi x6)] [vj t1, vj t0] G _
  refine v_X12_frontAt_94 ?_
  exact wp.mono (h G A ⟨L, P, rfl, hS⟩) (fun r G' q => qx_trans hx q)
theorem w_X12_front_0 {E : EE} {d : Nat} {V : VH} {K : Int32 → VH → Prop} {x1 : Int32}  (h0 : 0 < d) (h : vMI E (d - 1) M_X12_isProblem [sl 6 0, wi x1] V (fun r1 V1 => (¬ r1 = 0 → vMV E (d - 1) M_X12_know [sl 6 0, wi x1] V1 (fun V3 => vMI E (d - 1) M_X12_nextPair [sl 6 0, wi x1, wi 0, wj 0] V3 (fun r5 V5 => vwp E d M_X12_front 25 [some (sl 6 0), some (wi x1), some (wi 0), some (wi r5)] [] V5 (zi K)))) ∧ (r1 = 0 → K (-1) V1))) : vMI E d M_X12_front [sl 6 0, wi x1] V K := by
  intro G A hR
  obtain ⟨L, P, rfl, hS⟩ := hR
  have hx := Xt.refl (V := pl G A L P) (A := A)
  show wpM E d M_X12_front [vr (A 6 0), vi x1] G _
  refine wpM_of mk_X12_front (Nat.le_of_ble_eq_true rfl) ?_
  refine v_X12_front_0 h0 ?_
  refine ⟨hS.o (s6_0 hS), ?_⟩
  refine wpM.mono (h G A ⟨L, P, rfl, hS⟩) (fun rr1 G1 hr => ?_)
  obtain ⟨A1, W1, w1, ⟨L1, P1, rfl, hS1⟩, hy1, rfl, r1, rfl, h⟩ := hr
  refine ⟨r1, rfl, ?_⟩
  have hx1 := Xt.trans hx hy1
  have ee2 : A1 6 0 = A 6 0 := hy1.2 _ _ hS.1.2.1 (((n6_0 hS1)).trans ((n6_0 hS)).symm)
  try rw [← ee2]
  refine ⟨fun hc => ?_, fun hc => ?_⟩
  · have h := h.1 hc
    refine ⟨hS1.o (s6_0 hS1), ?_⟩
    refine wpM.mono (h G1 A1 ⟨L1, P1, rfl, hS1⟩) (fun rr3 G3 hr => ?_)
    obtain ⟨A3, W3, w3, ⟨L3, P3, rfl, hS3⟩, hy3, rfl, rfl, h⟩ := hr
    refine ⟨rfl, ?_⟩
    have hx3 := Xt.trans hx1 hy3
    have ee4 : A3 6 0 = A1 6 0 := hy3.2 _ _ hS1.1.2.1 (((n6_0 hS3)).trans ((n6_0 hS1)).symm)
    try rw [← ee4]
    refine ⟨hS3.o (s6_0 hS3), ?_⟩
    refine wpM.mono (h G3 A3 ⟨L3, P3, rfl, hS3⟩) (fun rr5 G5 hr => ?_)
    obtain ⟨A5, W5, w5, ⟨L5, P5, rfl, hS5⟩, hy5, rfl, r5, rfl, h⟩ := hr
    refine ⟨r5, rfl, ?_⟩
    have hx5 := Xt.trans hx3 hy5
    have ee6 : A5 6 0 = A3 6 0 := hy5.2 _ _ hS3.1.2.1 (((n6_0 hS5)).trans ((n6_0 hS3)).symm)
    try rw [← ee6]
    exact wp.mono (h G5 A5 ⟨L5, P5, rfl, hS5⟩) (fun r G' q => qx_trans hx5 q)
  · have h := h.2 hc
    exact qx_i hS1 hx1 h
theorem w_X12_front_25 {E : EE} {d : Nat} {V : VH} {K : Int32 → VH → Prop} {x1 : Int32} {x2 : Int32} {x3 : Int32}  (h0 : 0 < d) (h : (x3 = 0 → K x2 V) ∧ (¬ (x3 = 0) → vMI E (d - 1) M_X12_nextPair [sl 6 0, wi x1, wi 1, wj (vJ V 6 0 70)] V (fun r1 V1 => vwp E d M_X12_front 25 [some (sl 6 0), some (wi x1), some (wi (x2 + 1)), some (wi r1)] [] V1 (zi K)))) : vwp E d M_X12_front 25 [some (sl 6 0), some (wi x1), some (wi x2), some (wi x3)] [] V (zi K) := by
  intro G A hR
  obtain ⟨L, P, rfl, hS⟩ := hR
  have hx := Xt.refl (V := pl G A L P) (A := A)
  show wp E d M_X12_front 25 [some (vr (A 6 0)), some (vi x1), some (vi x2), some (vi x3)] [] G _
  refine v_X12_front_25 h0 ?_
  refine ⟨fun hc => ?_, fun hc => ?_⟩
  · have h := h.1 hc
    exact qx_i hS hx h
  · have h := h.2 hc
    refine ⟨hS.o (s6_0 hS), ?_⟩
    refine wpM.mono (h G A ⟨L, P, rfl, hS⟩) (fun rr1 G1 hr => ?_)
    obtain ⟨A1, W1, w1, ⟨L1, P1, rfl, hS1⟩, hy1, rfl, r1, rfl, h⟩ := hr
    refine ⟨r1, rfl, ?_⟩
    have hx1 := Xt.trans hx hy1
    have ee2 : A1 6 0 = A 6 0 := hy1.2 _ _ hS.1.2.1 (((n6_0 hS1)).trans ((n6_0 hS)).symm)
    try rw [← ee2]
    exact wp.mono (h G1 A1 ⟨L1, P1, rfl, hS1⟩) (fun r G' q => qx_trans hx1 q)
theorem w_X12_mend_0 {E : EE} {d : Nat} {V : VH} {K : Int32 → VH → Prop} {x1 : Int32} {x2 : Int32}  (h0 : 0 < d) (h : vMI E (d - 1) M_X12_isProblem [sl 6 0, wi x1] V (fun r1 V1 => (¬ r1 = 0 → vMV E (d - 1) M_X12_know [sl 6 0, wi x1] V1 (fun V3 => vwp E d M_X12_mend 20 [some (sl 6 0), some (wi x1), some (wi x2), some (wi (-1)), some (wi 0), none, none] [] V3 (zi K))) ∧ (r1 = 0 → K (-1) V1))) : vMI E d M_X12_mend [sl 6 0, wi x1, wi x2] V K := by
  intro G A hR
  obtain ⟨L, P, rfl, hS⟩ := hR
  have hx := Xt.refl (V := pl G A L P) (A := A)
  show wpM E d M_X12_mend [vr (A 6 0), vi x1, vi x2] G _
  refine wpM_of mk_X12_mend (Nat.le_of_ble_eq_true rfl) ?_
  refine v_X12_mend_0 h0 ?_
  refine ⟨hS.o (s6_0 hS), ?_⟩
  refine wpM.mono (h G A ⟨L, P, rfl, hS⟩) (fun rr1 G1 hr => ?_)
  obtain ⟨A1, W1, w1, ⟨L1, P1, rfl, hS1⟩, hy1, rfl, r1, rfl, h⟩ := hr
  refine ⟨r1, rfl, ?_⟩
  have hx1 := Xt.trans hx hy1
  have ee2 : A1 6 0 = A 6 0 := hy1.2 _ _ hS.1.2.1 (((n6_0 hS1)).trans ((n6_0 hS)).symm)
  try rw [← ee2]
  refine ⟨fun hc => ?_, fun hc => ?_⟩
  · have h := h.1 hc
    refine ⟨hS1.o (s6_0 hS1), ?_⟩
    refine wpM.mono (h G1 A1 ⟨L1, P1, rfl, hS1⟩) (fun rr3 G3 hr => ?_)
    obtain ⟨A3, W3, w3, ⟨L3, P3, rfl, hS3⟩, hy3, rfl, rfl, h⟩ := hr
    refine ⟨rfl, ?_⟩
    have hx3 := Xt.trans hx1 hy3
    have ee4 : A3 6 0 = A1 6 0 := hy3.2 _ _ hS1.1.2.1 (((n6_0 hS3)).trans ((n6_0 hS1)).symm)
    try rw [← ee4]
    exact wp.mono (h G3 A3 ⟨L3, P3, rfl, hS3⟩) (fun r G' q => qx_trans hx3 q)
  · have h := h.2 hc
    exact qx_i hS1 hx1 h
theorem w_X12_mend_20 {E : EE} {d : Nat} {V : VH} {K : Int32 → VH → Prop} {x1 : Int32} {x2 : Int32} {x3 : Int32} {x4 : Int32}  (h0 : 0 < d) (h : vp_in x1 5 ∧ (((vI V 6 22 (Int32.toNatClampNeg x1)) ≤ x4 → (0 ≤ x3 → vMV E (d - 1) M_X12_putAtHand [sl 6 0, wi x1, wi x3] V (fun V2 => K 1 V2)) ∧ (¬ (0 ≤ x3) → K 0 V)) ∧ (¬ ((vI V 6 22 (Int32.toNatClampNeg x1)) ≤ x4) → vMI E (d - 1) M_X12_isFeasible [sl 6 0, wi x4] V (fun r4 V4 => vwp E d M_X12_mend 42 [some (sl 6 0), some (wi x1), some (wi x2), some (wi x3), some (wi x4), some (wi r4), some (wi 0)] [] V4 (zi K))))) : vwp E d M_X12_mend 20 [some (sl 6 0), some (wi x1), some (wi x2), some (wi x3), some (wi x4), none, none] [] V (zi K) := by
  intro G A hR
  obtain ⟨L, P, rfl, hS⟩ := hR
  have hx := Xt.refl (V := pl G A L P) (A := A)
  show wp E d M_X12_mend 20 [some (vr (A 6 0)), some (vi x1), some (vi x2), some (vi x3), some (vi x4), none, none] [] G _
  refine v_X12_mend_20 h0 ?_
  refine ⟨hS.o (s6_0 hS), ?_⟩
  rw [l6_0_25 hS]
  refine ⟨hS.o (s6_22 hS), ?_⟩
  obtain ⟨hi1, h⟩ := h
  refine ⟨by first | (rw [(n6_22 hS)]; exact hi1) | exact (congrArg (vp_in _) (n6_22 hS)).mpr hi1 | exact hi1, ?_⟩
  refine ⟨fun hc => ?_, fun hc => ?_⟩
  · have h := h.1 hc
    refine ⟨fun hc => ?_, fun hc => ?_⟩
    · have h := h.1 hc
      refine wpM.mono (h G A ⟨L, P, rfl, hS⟩) (fun rr2 G2 hr => ?_)
      obtain ⟨A2, W2, w2, ⟨L2, P2, rfl, hS2⟩, hy2, rfl, rfl, h⟩ := hr
      refine ⟨rfl, ?_⟩
      have hx2 := Xt.trans hx hy2
      have ee3 : A2 6 0 = A 6 0 := hy2.2 _ _ hS.1.2.1 (((n6_0 hS2)).trans ((n6_0 hS)).symm)
      try rw [← ee3]
      exact qx_i hS2 hx2 h
    · have h := h.2 hc
      exact qx_i hS hx h
  · have h := h.2 hc
    refine wpM.mono (h G A ⟨L, P, rfl, hS⟩) (fun rr4 G4 hr => ?_)
    obtain ⟨A4, W4, w4, ⟨L4, P4, rfl, hS4⟩, hy4, rfl, r4, rfl, h⟩ := hr
    refine ⟨r4, rfl, ?_⟩
    have hx4 := Xt.trans hx hy4
    have ee5 : A4 6 0 = A 6 0 := hy4.2 _ _ hS.1.2.1 (((n6_0 hS4)).trans ((n6_0 hS)).symm)
    try rw [← ee5]
    exact wp.mono (h G4 A4 ⟨L4, P4, rfl, hS4⟩) (fun r G' q => qx_trans hx4 q)
theorem w_X12_mend_42 {E : EE} {d : Nat} {V : VH} {K : Int32 → VH → Prop} {x1 : Int32} {x2 : Int32} {x3 : Int32} {x4 : Int32} {x5 : Int32} {x6 : Int32}  (h0 : 0 < d) (h : (x5 = 0 → vwp E d M_X12_mend 104 [some (sl 6 0), some (wi x1), some (wi x2), some (wi x3), some (wi x4), some (wi x5), some (wi x6)] [] V (zi K)) ∧ (¬ (x5 = 0) → vMI E (d - 1) M_X12_vars [sl 6 0, wi x1] V (fun r1 V1 => (r1 ≤ x6 → vwp E d M_X12_mend 104 [some (sl 6 0), some (wi x1), some (wi x2), some (wi x3), some (wi x4), some (wi x5), some (wi x6)] [] V1 (zi K)) ∧ (¬ (r1 ≤ x6) → (((x2 >>> (x6 &&& 31)) &&& 1) = 1 → vwp E d M_X12_mend 91 [some (sl 6 0), some (wi x1), some (wi x2), some (wi x3), some (wi x4), some (wi x5), some (wi x6)] [] V1 (zi K)) ∧ (¬ (((x2 >>> (x6 &&& 31)) &&& 1) = 1) → vMI E (d - 1) M_X12_place [sl 6 0, wi x1, wi x4, wi x6] V1 (fun r3 V3 => vp_in ((12 * x1) + x6) 60 ∧ ((¬ r3 = (vI V3 6 19 (Int32.toNatClampNeg ((12 * x1) + x6))) → vwp E d M_X12_mend 96 [some (sl 6 0), some (wi x1), some (wi x2), some (wi x3), some (wi x4), some (wi x5), some (wi x6)] [wi 0] V3 (zi K)) ∧ (r3 = (vI V3 6 19 (Int32.toNatClampNeg ((12 * x1) + x6))) → vwp E d M_X12_mend 91 [some (sl 6 0), some (wi x1), some (wi x2), some (wi x3), some (wi x4), some (wi x5), some (wi x6)] [] V3 (zi K))))))))) : vwp E d M_X12_mend 42 [some (sl 6 0), some (wi x1), some (wi x2), some (wi x3), some (wi x4), some (wi x5), some (wi x6)] [] V (zi K) := by
  intro G A hR
  obtain ⟨L, P, rfl, hS⟩ := hR
  have hx := Xt.refl (V := pl G A L P) (A := A)
  show wp E d M_X12_mend 42 [some (vr (A 6 0)), some (vi x1), some (vi x2), some (vi x3), some (vi x4), some (vi x5), some (vi x6)] [] G _
  refine v_X12_mend_42 h0 ?_
  refine ⟨fun hc => ?_, fun hc => ?_⟩
  · have h := h.1 hc
    exact wp.mono (h G A ⟨L, P, rfl, hS⟩) (fun r G' q => qx_trans hx q)
  · have h := h.2 hc
    refine ⟨hS.o (s6_0 hS), ?_⟩
    refine wpM.mono (h G A ⟨L, P, rfl, hS⟩) (fun rr1 G1 hr => ?_)
    obtain ⟨A1, W1, w1, ⟨L1, P1, rfl, hS1⟩, hy1, rfl, r1, rfl, h⟩ := hr
    refine ⟨r1, rfl, ?_⟩
    have hx1 := Xt.trans hx hy1
    have ee2 : A1 6 0 = A 6 0 := hy1.2 _ _ hS.1.2.1 (((n6_0 hS1)).trans ((n6_0 hS)).symm)
    try rw [← ee2]
    refine ⟨fun hc => ?_, fun hc => ?_⟩
    · have h := h.1 hc
      exact wp.mono (h G1 A1 ⟨L1, P1, rfl, hS1⟩) (fun r G' q => qx_trans hx1 q)
    · have h := h.2 hc
      refine ⟨fun hc => ?_, fun hc => ?_⟩
      · have h := h.1 hc
        exact wp.mono (h G1 A1 ⟨L1, P1, rfl, hS1⟩) (fun r G' q => qx_trans hx1 q)
      · have h := h.2 hc
        refine ⟨hS1.o (s6_0 hS1), ?_⟩
        refine wpM.mono (h G1 A1 ⟨L1, P1, rfl, hS1⟩) (fun rr3 G3 hr => ?_)
        obtain ⟨A3, W3, w3, ⟨L3, P3, rfl, hS3⟩, hy3, rfl, r3, rfl, h⟩ := hr
        refine ⟨r3, rfl, ?_⟩
        have hx3 := Xt.trans hx1 hy3
        have ee4 : A3 6 0 = A1 6 0 := hy3.2 _ _ hS1.1.2.1 (((n6_0 hS3)).trans ((n6_0 hS1)).symm)
        try rw [← ee4]
        refine ⟨hS3.o (s6_0 hS3), ?_⟩
        rw [l6_0_22 hS3]
        refine ⟨hS3.o (s6_19 hS3), ?_⟩
        obtain ⟨hi5, h⟩ := h
        refine ⟨by first | (rw [(n6_19 hS3)]; exact hi5) | exact (congrArg (vp_in _) (n6_19 hS3)).mpr hi5 | exact hi5, ?_⟩
        refine ⟨fun hc => ?_, fun hc => ?_⟩
        · have h := h.1 hc
          exact wp.mono (h G3 A3 ⟨L3, P3, rfl, hS3⟩) (fun r G' q => qx_trans hx3 q)
        · have h := h.2 hc
          exact wp.mono (h G3 A3 ⟨L3, P3, rfl, hS3⟩) (fun r G' q => qx_trans hx3 q)
theorem w_X12_mend_91 {E : EE} {d : Nat} {V : VH} {K : Int32 → VH → Prop} {x1 : Int32} {x2 : Int32} {x3 : Int32} {x4 : Int32} {x5 : Int32} {x6 : Int32}  (h : vwp E d M_X12_mend 96 [some (sl 6 0), some (wi x1), some (wi x2), some (wi x3), some (wi x4), some (wi x5), some (wi x6)] [wi 1] V (zi K)) : vwp E d M_X12_mend 91 [some (sl 6 0), some (wi x1), some (wi x2), some (wi x3), some (wi x4), some (wi x5), some (wi x6)] [] V (zi K) := by
  intro G A hR
  obtain ⟨L, P, rfl, hS⟩ := hR
  have hx := Xt.refl (V := pl G A L P) (A := A)
  show wp E d M_X12_mend 91 [some (vr (A 6 0)), some (vi x1), some (vi x2), some (vi x3), some (vi x4), some (vi x5), some (vi x6)] [] G _
  refine v_X12_mend_91 ?_
  exact wp.mono (h G A ⟨L, P, rfl, hS⟩) (fun r G' q => qx_trans hx q)
theorem w_X12_mend_96 {E : EE} {d : Nat} {V : VH} {K : Int32 → VH → Prop} {x1 : Int32} {x2 : Int32} {x3 : Int32} {x4 : Int32} {x5 : Int32} {x6 : Int32} {t0 : Int32}  (h : vwp E d M_X12_mend 42 [some (sl 6 0), some (wi x1), some (wi x2), some (wi x3), some (wi x4), some (wi t0), some (wi (x6 + 1))] [] V (zi K)) : vwp E d M_X12_mend 96 [some (sl 6 0), some (wi x1), some (wi x2), some (wi x3), some (wi x4), some (wi x5), some (wi x6)] [wi t0] V (zi K) := by
  intro G A hR
  obtain ⟨L, P, rfl, hS⟩ := hR
  have hx := Xt.refl (V := pl G A L P) (A := A)
  show wp E d M_X12_mend 96 [some (vr (A 6 0)), some (vi x1), some (vi x2), some (vi x3), some (vi x4), some (vi x5), some (vi x6)] [vi t0] G _
  refine v_X12_mend_96 ?_
  exact wp.mono (h G A ⟨L, P, rfl, hS⟩) (fun r G' q => qx_trans hx q)
theorem w_X12_mend_104 {E : EE} {d : Nat} {V : VH} {K : Int32 → VH → Prop} {x1 : Int32} {x2 : Int32} {x3 : Int32} {x4 : Int32} {x5 : Int32} {x6 : Int32}  (h0 : 0 < d) (h : (x5 = 0 → vwp E d M_X12_mend 128 [some (sl 6 0), some (wi x1), some (wi x2), some (wi x3), some (wi x4), some (wi x5), some (wi x6)] [] V (zi K)) ∧ (¬ (x5 = 0) → (x3 < 0 → vwp E d M_X12_mend 123 [some (sl 6 0), some (wi x1), some (wi x2), some (wi x3), some (wi x4), some (wi x5), some (wi x6)] [] V (zi K)) ∧ (¬ (x3 < 0) → vMI E (d - 1) M_X12_isBetter [sl 6 0, wi x4, wi x3] V (fun r1 V1 => (r1 = 0 → vwp E d M_X12_mend 128 [some (sl 6 0), some (wi x1), some (wi x2), some (wi x3), some (wi x4), some (wi x5), some (wi x6)] [] V1 (zi K)) ∧ (¬ (r1 = 0) → vwp E d M_X12_mend 123 [some (sl 6 0), some (wi x1), some (wi x2), some (wi x3), some (wi x4), some (wi x5), some (wi x6)] [] V1 (zi K)))))) : vwp E d M_X12_mend 104 [some (sl 6 0), some (wi x1), some (wi x2), some (wi x3), some (wi x4), some (wi x5), some (wi x6)] [] V (zi K) := by
  intro G A hR
  obtain ⟨L, P, rfl, hS⟩ := hR
  have hx := Xt.refl (V := pl G A L P) (A := A)
  show wp E d M_X12_mend 104 [some (vr (A 6 0)), some (vi x1), some (vi x2), some (vi x3), some (vi x4), some (vi x5), some (vi x6)] [] G _
  refine v_X12_mend_104 h0 ?_
  refine ⟨fun hc => ?_, fun hc => ?_⟩
  · have h := h.1 hc
    exact wp.mono (h G A ⟨L, P, rfl, hS⟩) (fun r G' q => qx_trans hx q)
  · have h := h.2 hc
    refine ⟨fun hc => ?_, fun hc => ?_⟩
    · have h := h.1 hc
      exact wp.mono (h G A ⟨L, P, rfl, hS⟩) (fun r G' q => qx_trans hx q)
    · have h := h.2 hc
      refine ⟨hS.o (s6_0 hS), ?_⟩
      refine wpM.mono (h G A ⟨L, P, rfl, hS⟩) (fun rr1 G1 hr => ?_)
      obtain ⟨A1, W1, w1, ⟨L1, P1, rfl, hS1⟩, hy1, rfl, r1, rfl, h⟩ := hr
      refine ⟨r1, rfl, ?_⟩
      have hx1 := Xt.trans hx hy1
      have ee2 : A1 6 0 = A 6 0 := hy1.2 _ _ hS.1.2.1 (((n6_0 hS1)).trans ((n6_0 hS)).symm)
      try rw [← ee2]
      refine ⟨fun hc => ?_, fun hc => ?_⟩
      · have h := h.1 hc
        exact wp.mono (h G1 A1 ⟨L1, P1, rfl, hS1⟩) (fun r G' q => qx_trans hx1 q)
      · have h := h.2 hc
        exact wp.mono (h G1 A1 ⟨L1, P1, rfl, hS1⟩) (fun r G' q => qx_trans hx1 q)
theorem w_X12_mend_123 {E : EE} {d : Nat} {V : VH} {K : Int32 → VH → Prop} {x1 : Int32} {x2 : Int32} {x3 : Int32} {x4 : Int32} {x5 : Int32} {x6 : Int32}  (h : vwp E d M_X12_mend 129 [some (sl 6 0), some (wi x1), some (wi x2), some (wi x3), some (wi x4), some (wi x5), some (wi x6)] [wi x4] V (zi K)) : vwp E d M_X12_mend 123 [some (sl 6 0), some (wi x1), some (wi x2), some (wi x3), some (wi x4), some (wi x5), some (wi x6)] [] V (zi K) := by
  intro G A hR
  obtain ⟨L, P, rfl, hS⟩ := hR
  have hx := Xt.refl (V := pl G A L P) (A := A)
  show wp E d M_X12_mend 123 [some (vr (A 6 0)), some (vi x1), some (vi x2), some (vi x3), some (vi x4), some (vi x5), some (vi x6)] [] G _
  refine v_X12_mend_123 ?_
  exact wp.mono (h G A ⟨L, P, rfl, hS⟩) (fun r G' q => qx_trans hx q)
theorem w_X12_mend_128 {E : EE} {d : Nat} {V : VH} {K : Int32 → VH → Prop} {x1 : Int32} {x2 : Int32} {x3 : Int32} {x4 : Int32} {x5 : Int32} {x6 : Int32}  (h : vwp E d M_X12_mend 129 [some (sl 6 0), some (wi x1), some (wi x2), some (wi x3), some (wi x4), some (wi x5), some (wi x6)] [wi x3] V (zi K)) : vwp E d M_X12_mend 128 [some (sl 6 0), some (wi x1), some (wi x2), some (wi x3), some (wi x4), some (wi x5), some (wi x6)] [] V (zi K) := by
  intro G A hR
  obtain ⟨L, P, rfl, hS⟩ := hR
  have hx := Xt.refl (V := pl G A L P) (A := A)
  show wp E d M_X12_mend 128 [some (vr (A 6 0)), some (vi x1), some (vi x2), some (vi x3), some (vi x4), some (vi x5), some (vi x6)] [] G _
  refine v_X12_mend_128 ?_
  exact wp.mono (h G A ⟨L, P, rfl, hS⟩) (fun r G' q => qx_trans hx q)
theorem w_X12_mend_129 {E : EE} {d : Nat} {V : VH} {K : Int32 → VH → Prop} {x1 : Int32} {x2 : Int32} {x3 : Int32} {x4 : Int32} {x5 : Int32} {x6 : Int32} {t0 : Int32}  (h : vwp E d M_X12_mend 20 [some (sl 6 0), some (wi x1), some (wi x2), some (wi t0), some (wi (x4 + 1)), none, none] [] V (zi K)) : vwp E d M_X12_mend 129 [some (sl 6 0), some (wi x1), some (wi x2), some (wi x3), some (wi x4), some (wi x5), some (wi x6)] [wi t0] V (zi K) := by
  intro G A hR
  obtain ⟨L, P, rfl, hS⟩ := hR
  have hx := Xt.refl (V := pl G A L P) (A := A)
  show wp E d M_X12_mend 129 [some (vr (A 6 0)), some (vi x1), some (vi x2), some (vi x3), some (vi x4), some (vi x5), some (vi x6)] [vi t0] G _
  refine v_X12_mend_129 ?_
  exact wp.mono (h G A ⟨L, P, rfl, hS⟩) (fun r G' q => qx_trans hx q)
theorem w_X12_choices_0 {E : EE} {d : Nat} {V : VH} {K : Int32 → VH → Prop} {x1 : Int32} {x2 : Int32}  (h0 : 0 < d) (h : vMI E (d - 1) M_X12_isVar [sl 6 0, wi x1, wi x2] V (fun r1 V1 => (¬ r1 = 0 → vMV E (d - 1) M_X12_know [sl 6 0, wi x1] V1 (fun V3 => vMI E (d - 1) M_X12_firstBest [sl 6 0, wi x1, wi (-1), wi 0] V3 (fun r5 V5 => vwp E d M_X12_choices 30 [some (sl 6 0), some (wi x1), some (wi x2), some (wi r5), some (wi 0), some (wi 0), none] [] V5 (zi K)))) ∧ (r1 = 0 → K (-1) V1))) : vMI E d M_X12_choices [sl 6 0, wi x1, wi x2] V K := by
  intro G A hR
  obtain ⟨L, P, rfl, hS⟩ := hR
  have hx := Xt.refl (V := pl G A L P) (A := A)
  show wpM E d M_X12_choices [vr (A 6 0), vi x1, vi x2] G _
  refine wpM_of mk_X12_choices (Nat.le_of_ble_eq_true rfl) ?_
  refine v_X12_choices_0 h0 ?_
  refine ⟨hS.o (s6_0 hS), ?_⟩
  refine wpM.mono (h G A ⟨L, P, rfl, hS⟩) (fun rr1 G1 hr => ?_)
  obtain ⟨A1, W1, w1, ⟨L1, P1, rfl, hS1⟩, hy1, rfl, r1, rfl, h⟩ := hr
  refine ⟨r1, rfl, ?_⟩
  have hx1 := Xt.trans hx hy1
  have ee2 : A1 6 0 = A 6 0 := hy1.2 _ _ hS.1.2.1 (((n6_0 hS1)).trans ((n6_0 hS)).symm)
  try rw [← ee2]
  refine ⟨fun hc => ?_, fun hc => ?_⟩
  · have h := h.1 hc
    refine ⟨hS1.o (s6_0 hS1), ?_⟩
    refine wpM.mono (h G1 A1 ⟨L1, P1, rfl, hS1⟩) (fun rr3 G3 hr => ?_)
    obtain ⟨A3, W3, w3, ⟨L3, P3, rfl, hS3⟩, hy3, rfl, rfl, h⟩ := hr
    refine ⟨rfl, ?_⟩
    have hx3 := Xt.trans hx1 hy3
    have ee4 : A3 6 0 = A1 6 0 := hy3.2 _ _ hS1.1.2.1 (((n6_0 hS3)).trans ((n6_0 hS1)).symm)
    try rw [← ee4]
    refine ⟨hS3.o (s6_0 hS3), ?_⟩
    refine wpM.mono (h G3 A3 ⟨L3, P3, rfl, hS3⟩) (fun rr5 G5 hr => ?_)
    obtain ⟨A5, W5, w5, ⟨L5, P5, rfl, hS5⟩, hy5, rfl, r5, rfl, h⟩ := hr
    refine ⟨r5, rfl, ?_⟩
    have hx5 := Xt.trans hx3 hy5
    have ee6 : A5 6 0 = A3 6 0 := hy5.2 _ _ hS3.1.2.1 (((n6_0 hS5)).trans ((n6_0 hS3)).symm)
    try rw [← ee6]
    exact wp.mono (h G5 A5 ⟨L5, P5, rfl, hS5⟩) (fun r G' q => qx_trans hx5 q)
  · have h := h.2 hc
    exact qx_i hS1 hx1 h
