theorem w_X12_take_0 {E : EE} {d : Nat} {V : VH} {K : Int32 → VH → Prop}   (h : ∀ V2 : VH, V2 = wrI V 6 1 (Int32.toNatClampNeg 0) (i2b 0) → ∀ V4 : VH, V4 = wrI V2 6 1 (Int32.toNatClampNeg 1) (i2b (i2b (vI V2 6 0 91))) → vwp E d M_X12_take 20 [some (sl 6 0), some (wi 0), none, none] [] V4 (zi K)) : vMI E d M_X12_take [sl 6 0] V K := by
  intro G A hR
  obtain ⟨L, P, rfl, hS⟩ := hR
  have hx := Xt.refl (V := pl G A L P) (A := A)
  show wpM E d M_X12_take [vr (A 6 0)] G _
  refine wpM_of mk_X12_take (Nat.le_of_ble_eq_true rfl) ?_
  refine v_X12_take_0 ?_
  refine ⟨hS.o (s6_0 hS), ?_⟩
  rw [l6_0_0 hS]
  refine ⟨hS.o (s6_1 hS), ?_⟩
  refine ⟨by first | (rw [(n6_1 hS)]; unfold vp_in; decide) | exact (congrArg (vp_in _) (n6_1 hS)).mpr (by unfold vp_in; decide) | (unfold vp_in; decide), ?_⟩
  intro G2 eG2
  have hS2 : Sh E G2 A L P := Sh_sI eG2 hS (s6_1 hS) (okT_b rfl)
  have h := h (pl G2 A L P) (pl_sI eG2 hS (s6_1 hS))
  have hx2 : Xt (pl G A L P) A (pl G2 A L P) A := Xt_sI eG2 hx
  rw [l6_0_0 hS2]
  refine ⟨hS2.o (s6_1 hS2), ?_⟩
  refine ⟨by first | (rw [(n6_1 hS2)]; unfold vp_in; decide) | exact (congrArg (vp_in _) (n6_1 hS2)).mpr (by unfold vp_in; decide) | (unfold vp_in; decide), ?_⟩
  intro G4 eG4
  have hS4 : Sh E G4 A L P := Sh_sI eG4 hS2 (s6_1 hS2) (okT_b rfl)
  have h := h (pl G4 A L P) (pl_sI eG4 hS2 (s6_1 hS2))
  have hx4 : Xt (pl G A L P) A (pl G4 A L P) A := Xt_sI eG4 hx2
  exact wp.mono (h G4 A ⟨L, P, rfl, hS4⟩) (fun r G' q => qx_trans hx4 q)
theorem w_X12_take_20 {E : EE} {d : Nat} {V : VH} {K : Int32 → VH → Prop} {x1 : Int32}  (h : ((vI V 6 0 89) ≤ x1 → ∀ V1 : VH, V1 = wrI V 6 0 1 (2 + (vI V 6 0 89)) → vwp E d M_X12_take 62 [some (sl 6 0), some (wj 0), none, some (wi 0)] [] V1 (zi K)) ∧ (¬ ((vI V 6 0 89) ≤ x1) → vp_in x1 20000 ∧ (vp_in (2 + x1) 20000 ∧ (∀ V4 : VH, V4 = wrI V 6 1 (Int32.toNatClampNeg (2 + x1)) (i2b (vI V 6 59 (Int32.toNatClampNeg x1))) → vwp E d M_X12_take 20 [some (sl 6 0), some (wi (x1 + 1)), none, none] [] V4 (zi K))))) : vwp E d M_X12_take 20 [some (sl 6 0), some (wi x1), none, none] [] V (zi K) := by
  intro G A hR
  obtain ⟨L, P, rfl, hS⟩ := hR
  have hx := Xt.refl (V := pl G A L P) (A := A)
  show wp E d M_X12_take 20 [some (vr (A 6 0)), some (vi x1), none, none] [] G _
  refine v_X12_take_20 ?_
  refine ⟨hS.o (s6_0 hS), ?_⟩
  refine ⟨fun hc => ?_, fun hc => ?_⟩
  · have h := h.1 hc
    have hS1 : Sh E (sI G (A 6 0) 1 (2 + (gI G (A 6 0) 89))) A L P := Sh_sI (rfl : sI G (A 6 0) 1 (2 + (gI G (A 6 0) 89)) = sI G (A 6 0) 1 (2 + (gI G (A 6 0) 89))) hS (s6_0 hS) (okT_0 rfl)
    have h := h (pl (sI G (A 6 0) 1 (2 + (gI G (A 6 0) 89))) A L P) (pl_sI (rfl : sI G (A 6 0) 1 (2 + (gI G (A 6 0) 89)) = sI G (A 6 0) 1 (2 + (gI G (A 6 0) 89))) hS (s6_0 hS))
    have hx1 : Xt (pl G A L P) A (pl (sI G (A 6 0) 1 (2 + (gI G (A 6 0) 89))) A L P) A := Xt_sI (rfl : sI G (A 6 0) 1 (2 + (gI G (A 6 0) 89)) = sI G (A 6 0) 1 (2 + (gI G (A 6 0) 89))) hx
    exact wp.mono (h (sI G (A 6 0) 1 (2 + (gI G (A 6 0) 89))) A ⟨L, P, rfl, hS1⟩) (fun r G' q => qx_trans hx1 q)
  · have h := h.2 hc
    rw [l6_0_0 hS]
    rw [l6_0_88 hS]
    refine ⟨hS.o (s6_59 hS), ?_⟩
    obtain ⟨hi2, h⟩ := h
    refine ⟨by first | (rw [(n6_59 hS)]; exact hi2) | exact (congrArg (vp_in _) (n6_59 hS)).mpr hi2 | exact hi2, ?_⟩
    refine ⟨hS.o (s6_1 hS), ?_⟩
    obtain ⟨hi3, h⟩ := h
    refine ⟨by first | (rw [(n6_1 hS)]; exact hi3) | exact (congrArg (vp_in _) (n6_1 hS)).mpr hi3 | exact hi3, ?_⟩
    have hS4 : Sh E (sI G (A 6 1) (Int32.toNatClampNeg (2 + x1)) (i2b (gI G (A 6 59) (Int32.toNatClampNeg x1)))) A L P := Sh_sI (rfl : sI G (A 6 1) (Int32.toNatClampNeg (2 + x1)) (i2b (gI G (A 6 59) (Int32.toNatClampNeg x1))) = sI G (A 6 1) (Int32.toNatClampNeg (2 + x1)) (i2b (gI G (A 6 59) (Int32.toNatClampNeg x1)))) hS (s6_1 hS) (okT_b rfl)
    have h := h (pl (sI G (A 6 1) (Int32.toNatClampNeg (2 + x1)) (i2b (gI G (A 6 59) (Int32.toNatClampNeg x1)))) A L P) (pl_sI (rfl : sI G (A 6 1) (Int32.toNatClampNeg (2 + x1)) (i2b (gI G (A 6 59) (Int32.toNatClampNeg x1))) = sI G (A 6 1) (Int32.toNatClampNeg (2 + x1)) (i2b (gI G (A 6 59) (Int32.toNatClampNeg x1)))) hS (s6_1 hS))
    have hx4 : Xt (pl G A L P) A (pl (sI G (A 6 1) (Int32.toNatClampNeg (2 + x1)) (i2b (gI G (A 6 59) (Int32.toNatClampNeg x1)))) A L P) A := Xt_sI (rfl : sI G (A 6 1) (Int32.toNatClampNeg (2 + x1)) (i2b (gI G (A 6 59) (Int32.toNatClampNeg x1))) = sI G (A 6 1) (Int32.toNatClampNeg (2 + x1)) (i2b (gI G (A 6 59) (Int32.toNatClampNeg x1)))) hx
    exact wp.mono (h (sI G (A 6 1) (Int32.toNatClampNeg (2 + x1)) (i2b (gI G (A 6 59) (Int32.toNatClampNeg x1)))) A ⟨L, P, rfl, hS4⟩) (fun r G' q => qx_trans hx4 q)
theorem w_X12_take_62 {E : EE} {d : Nat} {V : VH} {K : Int32 → VH → Prop} {x1 : Int64} {x3 : Int32}  (h0 : 0 < d) (h : ((vI V 6 0 1) ≤ x3 → vwp E d M_X12_take 90 [some (sl 6 0), some (wj x1), none, some (wi 7)] [] V (zi K)) ∧ (¬ ((vI V 6 0 1) ≤ x3) → vp_in x3 20000 ∧ (vMJ E (d - 1) M_X12_mixed [wj x1, wi (vI V 6 1 (Int32.toNatClampNeg x3))] V (fun r2 V2 => vwp E d M_X12_take 62 [some (sl 6 0), some (wj r2), none, some (wi (x3 + 1))] [] V2 (zi K))))) : vwp E d M_X12_take 62 [some (sl 6 0), some (wj x1), none, some (wi x3)] [] V (zi K) := by
  intro G A hR
  obtain ⟨L, P, rfl, hS⟩ := hR
  have hx := Xt.refl (V := pl G A L P) (A := A)
  show wp E d M_X12_take 62 [some (vr (A 6 0)), some (vj x1), none, some (vi x3)] [] G _
  refine v_X12_take_62 h0 ?_
  refine ⟨hS.o (s6_0 hS), ?_⟩
  refine ⟨fun hc => ?_, fun hc => ?_⟩
  · have h := h.1 hc
    exact wp.mono (h G A ⟨L, P, rfl, hS⟩) (fun r G' q => qx_trans hx q)
  · have h := h.2 hc
    rw [l6_0_0 hS]
    refine ⟨hS.o (s6_1 hS), ?_⟩
    obtain ⟨hi1, h⟩ := h
    refine ⟨by first | (rw [(n6_1 hS)]; exact hi1) | exact (congrArg (vp_in _) (n6_1 hS)).mpr hi1 | exact hi1, ?_⟩
    refine wpM.mono (h G A ⟨L, P, rfl, hS⟩) (fun rr2 G2 hr => ?_)
    obtain ⟨A2, W2, w2, ⟨L2, P2, rfl, hS2⟩, hy2, rfl, r2, rfl, h⟩ := hr
    refine ⟨r2, rfl, ?_⟩
    have hx2 := Xt.trans hx hy2
    have ee3 : A2 6 0 = A 6 0 := hy2.2 _ _ hS.1.2.1 (((n6_0 hS2)).trans ((n6_0 hS)).symm)
    try rw [← ee3]
    exact wp.mono (h G2 A2 ⟨L2, P2, rfl, hS2⟩) (fun r G' q => qx_trans hx2 q)
theorem w_X12_take_90 {E : EE} {d : Nat} {V : VH} {K : Int32 → VH → Prop} {x1 : Int64} {x3 : Int32}  (h : (x3 < 0 → K (vI V 6 0 1) V) ∧ (¬ (x3 < 0) → vp_in (vI V 6 0 1) 20000 ∧ (∀ V2 : VH, V2 = wrI V 6 1 (Int32.toNatClampNeg (vI V 6 0 1)) (i2b (i2b (Int64.toInt32 (x1 >>> (Int32.toInt64 (8 * x3) &&& 63))))) → ∀ V3 : VH, V3 = wrI V2 6 0 1 ((vI V2 6 0 1) + 1) → vwp E d M_X12_take 90 [some (sl 6 0), some (wj x1), none, some (wi (x3 + (-1)))] [] V3 (zi K)))) : vwp E d M_X12_take 90 [some (sl 6 0), some (wj x1), none, some (wi x3)] [] V (zi K) := by
  intro G A hR
  obtain ⟨L, P, rfl, hS⟩ := hR
  have hx := Xt.refl (V := pl G A L P) (A := A)
  show wp E d M_X12_take 90 [some (vr (A 6 0)), some (vj x1), none, some (vi x3)] [] G _
  refine v_X12_take_90 ?_
  refine ⟨fun hc => ?_, fun hc => ?_⟩
  · have h := h.1 hc
    refine ⟨hS.o (s6_0 hS), ?_⟩
    exact qx_i hS hx h
  · have h := h.2 hc
    refine ⟨hS.o (s6_0 hS), ?_⟩
    rw [l6_0_0 hS]
    refine ⟨hS.o (s6_1 hS), ?_⟩
    obtain ⟨hi1, h⟩ := h
    refine ⟨by first | (rw [(n6_1 hS)]; exact hi1) | exact (congrArg (vp_in _) (n6_1 hS)).mpr hi1 | exact hi1, ?_⟩
    intro G2 eG2
    have hS2 : Sh E G2 A L P := Sh_sI eG2 hS (s6_1 hS) (okT_b rfl)
    have h := h (pl G2 A L P) (pl_sI eG2 hS (s6_1 hS))
    have hx2 : Xt (pl G A L P) A (pl G2 A L P) A := Xt_sI eG2 hx
    intro G3 eG3
    have hS3 : Sh E G3 A L P := Sh_sI eG3 hS2 (s6_0 hS2) (okT_0 rfl)
    have h := h (pl G3 A L P) (pl_sI eG3 hS2 (s6_0 hS2))
    have hx3 : Xt (pl G A L P) A (pl G3 A L P) A := Xt_sI eG3 hx2
    exact wp.mono (h G3 A ⟨L, P, rfl, hS3⟩) (fun r G' q => qx_trans hx3 q)
theorem w_X12_crash_0 {E : EE} {d : Nat} {V : VH} {K : Int32 → VH → Prop} {x1 : Int32}  (h : (0 ≤ x1 → ((vI V 6 0 92) < 0 → vwp E d M_X12_crash 84 [some (sl 6 0), some (wi x1), none, none] [] V (zi K)) ∧ (¬ ((vI V 6 0 92) < 0) → vp_in (vI V 6 0 92) 101 ∧ (vwp E d M_X12_crash 27 [some (sl 6 0), some (wi x1), some (wj ((Int32.toInt64 (vI V 6 60 (Int32.toNatClampNeg (vI V 6 0 92)))) + (Int32.toInt64 x1))), none] [] V (zi K)))) ∧ (¬ (0 ≤ x1) → K (-1) V)) : vMI E d M_X12_crash [sl 6 0, wi x1] V K := by
  intro G A hR
  obtain ⟨L, P, rfl, hS⟩ := hR
  have hx := Xt.refl (V := pl G A L P) (A := A)
  show wpM E d M_X12_crash [vr (A 6 0), vi x1] G _
  refine wpM_of mk_X12_crash (Nat.le_of_ble_eq_true rfl) ?_
  refine v_X12_crash_0 ?_
  refine ⟨fun hc => ?_, fun hc => ?_⟩
  · have h := h.1 hc
    refine ⟨hS.o (s6_0 hS), ?_⟩
    refine ⟨fun hc => ?_, fun hc => ?_⟩
    · have h := h.1 hc
      exact wp.mono (h G A ⟨L, P, rfl, hS⟩) (fun r G' q => qx_trans hx q)
    · have h := h.2 hc
      rw [l6_0_90 hS]
      refine ⟨hS.o (s6_60 hS), ?_⟩
      obtain ⟨hi1, h⟩ := h
      refine ⟨by first | (rw [(n6_60 hS)]; exact hi1) | exact (congrArg (vp_in _) (n6_60 hS)).mpr hi1 | exact hi1, ?_⟩
      exact wp.mono (h G A ⟨L, P, rfl, hS⟩) (fun r G' q => qx_trans hx q)
  · have h := h.2 hc
    exact qx_i hS hx h
theorem w_X12_crash_84 {E : EE} {d : Nat} {V : VH} {K : Int32 → VH → Prop} {x1 : Int32}  (h : K (vI V 6 0 91) V) : vwp E d M_X12_crash 84 [some (sl 6 0), some (wi x1), none, none] [] V (zi K) := by
  intro G A hR
  obtain ⟨L, P, rfl, hS⟩ := hR
  have hx := Xt.refl (V := pl G A L P) (A := A)
  show wp E d M_X12_crash 84 [some (vr (A 6 0)), some (vi x1), none, none] [] G _
  refine v_X12_crash_84 ?_
  refine ⟨hS.o (s6_0 hS), ?_⟩
  exact qx_i hS hx h
theorem w_X12_byteAt_0 {E : EE} {d : Nat} {V : VH} {K : Int32 → VH → Prop} {x1 : Int32}  (h : (x1 < 0 → vwp E d M_X12_byteAt 12 [some (sl 6 0), some (wi x1)] [] V (zi K)) ∧ (¬ (x1 < 0) → (x1 < (vI V 6 0 89) → vp_in x1 20000 ∧ (K ((vI V 6 59 (Int32.toNatClampNeg x1)) &&& 255) V)) ∧ (¬ (x1 < (vI V 6 0 89)) → vwp E d M_X12_byteAt 12 [some (sl 6 0), some (wi x1)] [] V (zi K)))) : vMI E d M_X12_byteAt [sl 6 0, wi x1] V K := by
  intro G A hR
  obtain ⟨L, P, rfl, hS⟩ := hR
  have hx := Xt.refl (V := pl G A L P) (A := A)
  show wpM E d M_X12_byteAt [vr (A 6 0), vi x1] G _
  refine wpM_of mk_X12_byteAt (Nat.le_of_ble_eq_true rfl) ?_
  refine v_X12_byteAt_0 ?_
  refine ⟨fun hc => ?_, fun hc => ?_⟩
  · have h := h.1 hc
    exact wp.mono (h G A ⟨L, P, rfl, hS⟩) (fun r G' q => qx_trans hx q)
  · have h := h.2 hc
    refine ⟨hS.o (s6_0 hS), ?_⟩
    refine ⟨fun hc => ?_, fun hc => ?_⟩
    · have h := h.1 hc
      rw [l6_0_88 hS]
      refine ⟨hS.o (s6_59 hS), ?_⟩
      obtain ⟨hi1, h⟩ := h
      refine ⟨by first | (rw [(n6_59 hS)]; exact hi1) | exact (congrArg (vp_in _) (n6_59 hS)).mpr hi1 | exact hi1, ?_⟩
      exact qx_i hS hx h
    · have h := h.2 hc
      exact wp.mono (h G A ⟨L, P, rfl, hS⟩) (fun r G' q => qx_trans hx q)
theorem w_X12_byteAt_12 {E : EE} {d : Nat} {V : VH} {K : Int32 → VH → Prop} {x1 : Int32}  (h : K (-1) V) : vwp E d M_X12_byteAt 12 [some (sl 6 0), some (wi x1)] [] V (zi K) := by
  intro G A hR
  obtain ⟨L, P, rfl, hS⟩ := hR
  have hx := Xt.refl (V := pl G A L P) (A := A)
  show wp E d M_X12_byteAt 12 [some (vr (A 6 0)), some (vi x1)] [] G _
  refine v_X12_byteAt_12 ?_
  exact qx_i hS hx h
theorem w_X12_size_0 {E : EE} {d : Nat} {V : VH} {K : Int32 → VH → Prop}   (h : K (vI V 6 0 89) V) : vMI E d M_X12_size [sl 6 0] V K := by
  intro G A hR
  obtain ⟨L, P, rfl, hS⟩ := hR
  have hx := Xt.refl (V := pl G A L P) (A := A)
  show wpM E d M_X12_size [vr (A 6 0)] G _
  refine wpM_of mk_X12_size (Nat.le_of_ble_eq_true rfl) ?_
  refine v_X12_size_0 ?_
  refine ⟨hS.o (s6_0 hS), ?_⟩
  exact qx_i hS hx h
theorem w_X12_rows_0 {E : EE} {d : Nat} {V : VH} {K : Int32 → VH → Prop}   (h : K (vI V 6 0 91) V) : vMI E d M_X12_rows [sl 6 0] V K := by
  intro G A hR
  obtain ⟨L, P, rfl, hS⟩ := hR
  have hx := Xt.refl (V := pl G A L P) (A := A)
  show wpM E d M_X12_rows [vr (A 6 0)] G _
  refine wpM_of mk_X12_rows (Nat.le_of_ble_eq_true rfl) ?_
  refine v_X12_rows_0 ?_
  refine ⟨hS.o (s6_0 hS), ?_⟩
  exact qx_i hS hx h
theorem w_X12_load_0 {E : EE} {d : Nat} {V : VH} {K : Int32 → VH → Prop} {x1 : Int32}  (h0 : 0 < d) (h : (x1 < 0 → K (-1) V) ∧ (¬ (x1 < 0) → (x1 < (vI V 6 0 91) → vMI E (d - 1) M_X12_freeSlot [sl 6 0] V (fun r1 V1 => (¬ r1 = 4 → ∀ V3 : VH, V3 = wrI V1 6 0 93 1 → vp_in x1 101 ∧ (vp_in (x1 + 1) 101 ∧ (vMI E (d - 1) M_X12_readRow [sl 6 0, wi (vI V3 6 60 (Int32.toNatClampNeg x1)), wi (vI V3 6 60 (Int32.toNatClampNeg (x1 + 1))), wi r1] V3 (fun r6 V6 => vp_in r1 5 ∧ (∀ V9 : VH, V9 = wrI V6 6 2 (Int32.toNatClampNeg r1) (nz 1) → K r1 V9))))) ∧ (r1 = 4 → K (-100000) V1))) ∧ (¬ (x1 < (vI V 6 0 91)) → K (-1) V))) : vMI E d M_X12_load [sl 6 0, wi x1] V K := by
  intro G A hR
  obtain ⟨L, P, rfl, hS⟩ := hR
  have hx := Xt.refl (V := pl G A L P) (A := A)
  show wpM E d M_X12_load [vr (A 6 0), vi x1] G _
  refine wpM_of mk_X12_load (Nat.le_of_ble_eq_true rfl) ?_
  refine v_X12_load_0 h0 ?_
  refine ⟨fun hc => ?_, fun hc => ?_⟩
  · have h := h.1 hc
    exact qx_i hS hx h
  · have h := h.2 hc
    refine ⟨hS.o (s6_0 hS), ?_⟩
    refine ⟨fun hc => ?_, fun hc => ?_⟩
    · have h := h.1 hc
      refine wpM.mono (h G A ⟨L, P, rfl, hS⟩) (fun rr1 G1 hr => ?_)
      obtain ⟨A1, W1, w1, ⟨L1, P1, rfl, hS1⟩, hy1, rfl, r1, rfl, h⟩ := hr
      refine ⟨r1, rfl, ?_⟩
      have hx1 := Xt.trans hx hy1
      have ee2 : A1 6 0 = A 6 0 := hy1.2 _ _ hS.1.2.1 (((n6_0 hS1)).trans ((n6_0 hS)).symm)
      try rw [← ee2]
      refine ⟨fun hc => ?_, fun hc => ?_⟩
      · have h := h.1 hc
        refine ⟨hS1.o (s6_0 hS1), ?_⟩
        intro G3 eG3
        have hS3 : Sh E G3 A1 L1 P1 := Sh_sI eG3 hS1 (s6_0 hS1) (okT_2 rfl (Or.inr rfl))
        have h := h (pl G3 A1 L1 P1) (pl_sI eG3 hS1 (s6_0 hS1))
        have hx3 : Xt (pl G A L P) A (pl G3 A1 L1 P1) A1 := Xt_sI eG3 hx1
        rw [l6_0_90 hS3]
        refine ⟨hS3.o (s6_60 hS3), ?_⟩
        obtain ⟨hi4, h⟩ := h
        refine ⟨by first | (rw [(n6_60 hS3)]; exact hi4) | exact (congrArg (vp_in _) (n6_60 hS3)).mpr hi4 | exact hi4, ?_⟩
        obtain ⟨hi5, h⟩ := h
        refine ⟨by first | (rw [(n6_60 hS3)]; exact hi5) | exact (congrArg (vp_in _) (n6_60 hS3)).mpr hi5 | exact hi5, ?_⟩
        refine wpM.mono (h G3 A1 ⟨L1, P1, rfl, hS3⟩) (fun rr6 G6 hr => ?_)
        obtain ⟨A6, W6, w6, ⟨L6, P6, rfl, hS6⟩, hy6, rfl, r6, rfl, h⟩ := hr
        refine ⟨r6, rfl, ?_⟩
        have hx6 := Xt.trans hx3 hy6
        have ee7 : A6 6 0 = A1 6 0 := hy6.2 _ _ hS3.1.2.1 (((n6_0 hS6)).trans ((n6_0 hS3)).symm)
        try rw [← ee7]
        refine ⟨hS6.o (s6_0 hS6), ?_⟩
        rw [l6_0_5 hS6]
        refine ⟨hS6.o (s6_2 hS6), ?_⟩
        obtain ⟨hi8, h⟩ := h
        refine ⟨by first | (rw [(n6_2 hS6)]; exact hi8) | exact (congrArg (vp_in _) (n6_2 hS6)).mpr hi8 | exact hi8, ?_⟩
        intro G9 eG9
        have hS9 : Sh E G9 A6 L6 P6 := Sh_sI eG9 hS6 (s6_2 hS6) (okT_nz rfl)
        have h := h (pl G9 A6 L6 P6) (pl_sI eG9 hS6 (s6_2 hS6))
        have hx9 : Xt (pl G A L P) A (pl G9 A6 L6 P6) A6 := Xt_sI eG9 hx6
        exact qx_i hS9 hx9 h
      · have h := h.2 hc
        exact qx_i hS1 hx1 h
    · have h := h.2 hc
      exact qx_i hS hx h
theorem w_X12_freeSlot_0 {E : EE} {d : Nat} {V : VH} {K : Int32 → VH → Prop}   (h : vwp E d M_X12_freeSlot 2 [some (sl 6 0), some (wi 0)] [] V (zi K)) : vMI E d M_X12_freeSlot [sl 6 0] V K := by
  intro G A hR
  obtain ⟨L, P, rfl, hS⟩ := hR
  have hx := Xt.refl (V := pl G A L P) (A := A)
  show wpM E d M_X12_freeSlot [vr (A 6 0)] G _
  refine wpM_of mk_X12_freeSlot (Nat.le_of_ble_eq_true rfl) ?_
  refine v_X12_freeSlot_0 ?_
  exact wp.mono (h G A ⟨L, P, rfl, hS⟩) (fun r G' q => qx_trans hx q)
theorem w_X12_freeSlot_2 {E : EE} {d : Nat} {V : VH} {K : Int32 → VH → Prop} {x1 : Int32}  (h : (4 ≤ x1 → K x1 V) ∧ (¬ (4 ≤ x1) → vp_in x1 5 ∧ (((vI V 6 2 (Int32.toNatClampNeg x1)) = 0 → K x1 V) ∧ (¬ ((vI V 6 2 (Int32.toNatClampNeg x1)) = 0) → vwp E d M_X12_freeSlot 2 [some (sl 6 0), some (wi (x1 + 1))] [] V (zi K))))) : vwp E d M_X12_freeSlot 2 [some (sl 6 0), some (wi x1)] [] V (zi K) := by
  intro G A hR
  obtain ⟨L, P, rfl, hS⟩ := hR
  have hx := Xt.refl (V := pl G A L P) (A := A)
  show wp E d M_X12_freeSlot 2 [some (vr (A 6 0)), some (vi x1)] [] G _
  refine v_X12_freeSlot_2 ?_
  refine ⟨fun hc => ?_, fun hc => ?_⟩
  · have h := h.1 hc
    exact qx_i hS hx h
  · have h := h.2 hc
    refine ⟨hS.o (s6_0 hS), ?_⟩
    rw [l6_0_5 hS]
    refine ⟨hS.o (s6_2 hS), ?_⟩
    obtain ⟨hi1, h⟩ := h
    refine ⟨by first | (rw [(n6_2 hS)]; exact hi1) | exact (congrArg (vp_in _) (n6_2 hS)).mpr hi1 | exact hi1, ?_⟩
    refine ⟨fun hc => ?_, fun hc => ?_⟩
    · have h := h.1 hc
      exact qx_i hS hx h
    · have h := h.2 hc
      exact wp.mono (h G A ⟨L, P, rfl, hS⟩) (fun r G' q => qx_trans hx q)
theorem w_X12_save_0 {E : EE} {d : Nat} {V : VH} {K : Int32 → VH → Prop} {x1 : Int32}  (h0 : 0 < d) (h : vMI E (d - 1) M_X12_isProblem [sl 6 0, wi x1] V (fun r1 V1 => (¬ r1 = 0 → ((vI V1 6 0 91) = 100 → K (-100000) V1) ∧ (¬ ((vI V1 6 0 91) = 100) → vMI E (d - 1) M_X12_needOf [sl 6 0, wi x1] V1 (fun r3 V3 => (((vI V1 6 0 89) + r3) ≤ 19990 → vMV E (d - 1) M_X12_storeBytes [sl 6 0, wj 211, wi 1] V3 (fun V5 => vp_in x1 5 ∧ (vMV E (d - 1) M_X12_storeBytes [sl 6 0, wj (Int32.toInt64 (vI V5 6 4 (Int32.toNatClampNeg x1))), wi 2] V5 (fun V8 => vwp E d M_X12_save 65 [some (sl 6 0), some (wi x1), some (wi (vI V3 6 0 89)), some (wi 0), none, none, none] [] V8 (zi K))))) ∧ (¬ (((vI V1 6 0 89) + r3) ≤ 19990) → K (-100000) V3)))) ∧ (r1 = 0 → K (-1) V1))) : vMI E d M_X12_save [sl 6 0, wi x1] V K := by
  intro G A hR
  obtain ⟨L, P, rfl, hS⟩ := hR
  have hx := Xt.refl (V := pl G A L P) (A := A)
  show wpM E d M_X12_save [vr (A 6 0), vi x1] G _
  refine wpM_of mk_X12_save (Nat.le_of_ble_eq_true rfl) ?_
  refine v_X12_save_0 h0 ?_
  refine ⟨hS.o (s6_0 hS), ?_⟩
  refine wpM.mono (h G A ⟨L, P, rfl, hS⟩) (fun rr1 G1 hr => ?_)
  obtain ⟨A1, W1, w1, ⟨L1, P1, rfl, hS1⟩, hy1, rfl, r1, rfl, h⟩ := hr
  refine ⟨r1, rfl, ?_⟩
  have hx1 := Xt.trans hx hy1
  have ee2 : A1 6 0 = A 6 0 := hy1.2 _ _ hS.1.2.1 (((n6_0 hS1)).trans ((n6_0 hS)).symm)
  try rw [← ee2]
  refine ⟨fun hc => ?_, fun hc => ?_⟩
  · have h := h.1 hc
    refine ⟨hS1.o (s6_0 hS1), ?_⟩
    refine ⟨fun hc => ?_, fun hc => ?_⟩
    · have h := h.1 hc
      exact qx_i hS1 hx1 h
    · have h := h.2 hc
      refine wpM.mono (h G1 A1 ⟨L1, P1, rfl, hS1⟩) (fun rr3 G3 hr => ?_)
      obtain ⟨A3, W3, w3, ⟨L3, P3, rfl, hS3⟩, hy3, rfl, r3, rfl, h⟩ := hr
      refine ⟨r3, rfl, ?_⟩
      have hx3 := Xt.trans hx1 hy3
      have ee4 : A3 6 0 = A1 6 0 := hy3.2 _ _ hS1.1.2.1 (((n6_0 hS3)).trans ((n6_0 hS1)).symm)
      try rw [← ee4]
      try rw [show gI G1 (A3 6 0) = gI G1 (A1 6 0) from by rw [ee4]]
      refine ⟨fun hc => ?_, fun hc => ?_⟩
      · have h := h.1 hc
        refine ⟨hS3.o (s6_0 hS3), ?_⟩
        refine wpM.mono (h G3 A3 ⟨L3, P3, rfl, hS3⟩) (fun rr5 G5 hr => ?_)
        obtain ⟨A5, W5, w5, ⟨L5, P5, rfl, hS5⟩, hy5, rfl, rfl, h⟩ := hr
        refine ⟨rfl, ?_⟩
        have hx5 := Xt.trans hx3 hy5
        have ee6 : A5 6 0 = A3 6 0 := hy5.2 _ _ hS3.1.2.1 (((n6_0 hS5)).trans ((n6_0 hS3)).symm)
        try rw [← ee6]
        try rw [show gI G3 (A5 6 0) = gI G3 (A3 6 0) from by rw [ee6]]
        refine ⟨hS5.o (s6_0 hS5), ?_⟩
        rw [l6_0_7 hS5]
        refine ⟨hS5.o (s6_4 hS5), ?_⟩
        obtain ⟨hi7, h⟩ := h
        refine ⟨by first | (rw [(n6_4 hS5)]; exact hi7) | exact (congrArg (vp_in _) (n6_4 hS5)).mpr hi7 | exact hi7, ?_⟩
        refine wpM.mono (h G5 A5 ⟨L5, P5, rfl, hS5⟩) (fun rr8 G8 hr => ?_)
        obtain ⟨A8, W8, w8, ⟨L8, P8, rfl, hS8⟩, hy8, rfl, rfl, h⟩ := hr
        refine ⟨rfl, ?_⟩
        have hx8 := Xt.trans hx5 hy8
        have ee9 : A8 6 0 = A5 6 0 := hy8.2 _ _ hS5.1.2.1 (((n6_0 hS8)).trans ((n6_0 hS5)).symm)
        try rw [← ee9]
        exact wp.mono (h G8 A8 ⟨L8, P8, rfl, hS8⟩) (fun r G' q => qx_trans hx8 q)
      · have h := h.2 hc
        exact qx_i hS3 hx3 h
  · have h := h.2 hc
    exact qx_i hS1 hx1 h
theorem w_X12_isProblem_0 {E : EE} {d : Nat} {V : VH} {K : Int32 → VH → Prop} {x1 : Int32}  (h : (x1 < 0 → K 0 V) ∧ (¬ (x1 < 0) → (4 ≤ x1 → K 0 V) ∧ (¬ (4 ≤ x1) → vp_in x1 5 ∧ (((vI V 6 2 (Int32.toNatClampNeg x1)) = 0 → K 0 V) ∧ (¬ ((vI V 6 2 (Int32.toNatClampNeg x1)) = 0) → K 1 V))))) : vMI E d M_X12_isProblem [sl 6 0, wi x1] V K := by
  intro G A hR
  obtain ⟨L, P, rfl, hS⟩ := hR
  have hx := Xt.refl (V := pl G A L P) (A := A)
  show wpM E d M_X12_isProblem [vr (A 6 0), vi x1] G _
  refine wpM_of mk_X12_isProblem (Nat.le_of_ble_eq_true rfl) ?_
  refine v_X12_isProblem_0 ?_
  refine ⟨fun hc => ?_, fun hc => ?_⟩
  · have h := h.1 hc
    exact qx_i hS hx h
  · have h := h.2 hc
    refine ⟨fun hc => ?_, fun hc => ?_⟩
    · have h := h.1 hc
      exact qx_i hS hx h
    · have h := h.2 hc
      refine ⟨hS.o (s6_0 hS), ?_⟩
      rw [l6_0_5 hS]
      refine ⟨hS.o (s6_2 hS), ?_⟩
      obtain ⟨hi1, h⟩ := h
      refine ⟨by first | (rw [(n6_2 hS)]; exact hi1) | exact (congrArg (vp_in _) (n6_2 hS)).mpr hi1 | exact hi1, ?_⟩
      refine ⟨fun hc => ?_, fun hc => ?_⟩
      · have h := h.1 hc
        exact qx_i hS hx h
      · have h := h.2 hc
        exact qx_i hS hx h
theorem w_X12_below_0 {E : EE} {d : Nat} {V : VH} {K : Int64 → VH → Prop}   (h : K (vJ V 6 0 3) V) : vMJ E d M_X12_below [sl 6 0] V K := by
  intro G A hR
  obtain ⟨L, P, rfl, hS⟩ := hR
  have hx := Xt.refl (V := pl G A L P) (A := A)
  show wpM E d M_X12_below [vr (A 6 0)] G _
  refine wpM_of mk_X12_below (Nat.le_of_ble_eq_true rfl) ?_
  refine v_X12_below_0 ?_
  refine ⟨hS.o (s6_0 hS), ?_⟩
  exact qx_j hS hx h
theorem w_X12_above_0 {E : EE} {d : Nat} {V : VH} {K : Int64 → VH → Prop}   (h : K (vJ V 6 0 2) V) : vMJ E d M_X12_above [sl 6 0] V K := by
  intro G A hR
  obtain ⟨L, P, rfl, hS⟩ := hR
  have hx := Xt.refl (V := pl G A L P) (A := A)
  show wpM E d M_X12_above [vr (A 6 0)] G _
  refine wpM_of mk_X12_above (Nat.le_of_ble_eq_true rfl) ?_
  refine v_X12_above_0 ?_
  refine ⟨hS.o (s6_0 hS), ?_⟩
  exact qx_j hS hx h
theorem w_X12_prove_0 {E : EE} {d : Nat} {V : VH} {K : Int32 → VH → Prop} {x1 : Int32}  (h0 : 0 < d) (h : vMI E (d - 1) M_X12_isProblem [sl 6 0, wi x1] V (fun r1 V1 => (¬ r1 = 0 → vMV E (d - 1) M_X12_know [sl 6 0, wi x1] V1 (fun V3 => vMI E (d - 1) M_X12_handOf [sl 6 0, wi x1] V3 (fun r5 V5 => vwp E d M_X12_prove 23 [some (sl 6 0), some (wi x1), some (wi r5), some (wi 0)] [] V5 (zi K)))) ∧ (r1 = 0 → K (-1) V1))) : vMI E d M_X12_prove [sl 6 0, wi x1] V K := by
  intro G A hR
  obtain ⟨L, P, rfl, hS⟩ := hR
  have hx := Xt.refl (V := pl G A L P) (A := A)
  show wpM E d M_X12_prove [vr (A 6 0), vi x1] G _
  refine wpM_of mk_X12_prove (Nat.le_of_ble_eq_true rfl) ?_
  refine v_X12_prove_0 h0 ?_
  refine ⟨hS.o (s6_0 hS), ?_⟩
  refine wpM.mono (h G A ⟨L, P, rfl, hS⟩) (fun rr1 G1 hr => ?_)
  obtain ⟨A1, W1, w1, ⟨L1, P1, rfl, hS1⟩, hy1, rfl, r1, rfl, h⟩ := hr
  refine ⟨r1, rfl, ?_⟩
  have hx1 := Xt.trans hx hy1
  have ee2 : A1 6 0 = A 6 0 := hy1.2 _ _ hS.1.2.1 (((n6_0 hS1)).trans ((n6_0 hS)).symm)
  try rw [← ee2]
  refine ⟨fun hc => ?_, fun hc => ?_⟩
  · have h := h.1 hc
    refine ⟨hS1.o (s6_0 hS1), ?_⟩
    refine wpM.mono (h G1 A1 ⟨L1, P1, rfl, hS1⟩) (fun rr3 G3 hr => ?_)
    obtain ⟨A3, W3, w3, ⟨L3, P3, rfl, hS3⟩, hy3, rfl, rfl, h⟩ := hr
    refine ⟨rfl, ?_⟩
    have hx3 := Xt.trans hx1 hy3
    have ee4 : A3 6 0 = A1 6 0 := hy3.2 _ _ hS1.1.2.1 (((n6_0 hS3)).trans ((n6_0 hS1)).symm)
    try rw [← ee4]
    refine ⟨hS3.o (s6_0 hS3), ?_⟩
    refine wpM.mono (h G3 A3 ⟨L3, P3, rfl, hS3⟩) (fun rr5 G5 hr => ?_)
    obtain ⟨A5, W5, w5, ⟨L5, P5, rfl, hS5⟩, hy5, rfl, r5, rfl, h⟩ := hr
    refine ⟨r5, rfl, ?_⟩
    have hx5 := Xt.trans hx3 hy5
    have ee6 : A5 6 0 = A3 6 0 := hy5.2 _ _ hS3.1.2.1 (((n6_0 hS5)).trans ((n6_0 hS3)).symm)
    try rw [← ee6]
    exact wp.mono (h G5 A5 ⟨L5, P5, rfl, hS5⟩) (fun r G' q => qx_trans hx5 q)
  · have h := h.2 hc
    exact qx_i hS1 hx1 h
theorem w_X12_check_0 {E : EE} {d : Nat} {V : VH} {K : Int32 → VH → Prop} {x1 : Int32}  (h0 : 0 < d) (h : vMI E (d - 1) M_X12_isProblem [sl 6 0, wi x1] V (fun r1 V1 => (¬ r1 = 0 → vMV E (d - 1) M_X12_know [sl 6 0, wi x1] V1 (fun V3 => vMV E (d - 1) M_X12_giveAll [sl 6 0, wi x1] V3 (fun V5 => ∀ V7 : VH, V7 = wrI V5 6 0 37 1 → ∀ V8 : VH, V8 = wrI V7 6 0 39 (vI V7 6 0 1) → ∀ V9 : VH, V9 = wrI V8 6 0 40 0 → ∀ V10 : VH, V10 = wrI V9 6 0 45 0 → vMV E (d - 1) M_X12_next [sl 6 0] V10 (fun V11 => vMV E (d - 1) M_X12_tree [sl 6 0, wi x1] V11 (fun V13 => (¬ (vI V13 6 0 45) = 0 → vwp E d M_X12_check 71 [some (sl 6 0), some (wi x1)] [] V13 (zi K)) ∧ ((vI V13 6 0 45) = 0 → ((vI V13 6 0 41) = 0 → vwp E d M_X12_check 71 [some (sl 6 0), some (wi x1)] [] V13 (zi K)) ∧ (¬ ((vI V13 6 0 41) = 0) → vMV E (d - 1) M_X12_failHere [sl 6 0] V13 (fun V15 => vwp E d M_X12_check 71 [some (sl 6 0), some (wi x1)] [] V15 (zi K))))))))) ∧ (r1 = 0 → K (-100000) V1))) : vMI E d M_X12_check [sl 6 0, wi x1] V K := by
  intro G A hR
  obtain ⟨L, P, rfl, hS⟩ := hR
  have hx := Xt.refl (V := pl G A L P) (A := A)
  show wpM E d M_X12_check [vr (A 6 0), vi x1] G _
  refine wpM_of mk_X12_check (Nat.le_of_ble_eq_true rfl) ?_
  refine v_X12_check_0 h0 ?_
  refine ⟨hS.o (s6_0 hS), ?_⟩
  refine wpM.mono (h G A ⟨L, P, rfl, hS⟩) (fun rr1 G1 hr => ?_)
  obtain ⟨A1, W1, w1, ⟨L1, P1, rfl, hS1⟩, hy1, rfl, r1, rfl, h⟩ := hr
  refine ⟨r1, rfl, ?_⟩
  have hx1 := Xt.trans hx hy1
  have ee2 : A1 6 0 = A 6 0 := hy1.2 _ _ hS.1.2.1 (((n6_0 hS1)).trans ((n6_0 hS)).symm)
  try rw [← ee2]
  refine ⟨fun hc => ?_, fun hc => ?_⟩
  · have h := h.1 hc
    refine ⟨hS1.o (s6_0 hS1), ?_⟩
    refine wpM.mono (h G1 A1 ⟨L1, P1, rfl, hS1⟩) (fun rr3 G3 hr => ?_)
    obtain ⟨A3, W3, w3, ⟨L3, P3, rfl, hS3⟩, hy3, rfl, rfl, h⟩ := hr
    refine ⟨rfl, ?_⟩
    have hx3 := Xt.trans hx1 hy3
    have ee4 : A3 6 0 = A1 6 0 := hy3.2 _ _ hS1.1.2.1 (((n6_0 hS3)).trans ((n6_0 hS1)).symm)
    try rw [← ee4]
    refine ⟨hS3.o (s6_0 hS3), ?_⟩
    refine wpM.mono (h G3 A3 ⟨L3, P3, rfl, hS3⟩) (fun rr5 G5 hr => ?_)
    obtain ⟨A5, W5, w5, ⟨L5, P5, rfl, hS5⟩, hy5, rfl, rfl, h⟩ := hr
    refine ⟨rfl, ?_⟩
    have hx5 := Xt.trans hx3 hy5
    have ee6 : A5 6 0 = A3 6 0 := hy5.2 _ _ hS3.1.2.1 (((n6_0 hS5)).trans ((n6_0 hS3)).symm)
    try rw [← ee6]
    refine ⟨hS5.o (s6_0 hS5), ?_⟩
    intro G7 eG7
    have hS7 : Sh E G7 A5 L5 P5 := Sh_sI eG7 hS5 (s6_0 hS5) (okT_2 rfl (Or.inr rfl))
    have h := h (pl G7 A5 L5 P5) (pl_sI eG7 hS5 (s6_0 hS5))
    have hx7 : Xt (pl G A L P) A (pl G7 A5 L5 P5) A5 := Xt_sI eG7 hx5
    intro G8 eG8
    have hS8 : Sh E G8 A5 L5 P5 := Sh_sI eG8 hS7 (s6_0 hS7) (okT_0 rfl)
    have h := h (pl G8 A5 L5 P5) (pl_sI eG8 hS7 (s6_0 hS7))
    have hx8 : Xt (pl G A L P) A (pl G8 A5 L5 P5) A5 := Xt_sI eG8 hx7
    intro G9 eG9
    have hS9 : Sh E G9 A5 L5 P5 := Sh_sI eG9 hS8 (s6_0 hS8) (okT_0 rfl)
    have h := h (pl G9 A5 L5 P5) (pl_sI eG9 hS8 (s6_0 hS8))
    have hx9 : Xt (pl G A L P) A (pl G9 A5 L5 P5) A5 := Xt_sI eG9 hx8
    intro G10 eG10
    have hS10 : Sh E G10 A5 L5 P5 := Sh_sI eG10 hS9 (s6_0 hS9) (okT_0 rfl)
    have h := h (pl G10 A5 L5 P5) (pl_sI eG10 hS9 (s6_0 hS9))
    have hx10 : Xt (pl G A L P) A (pl G10 A5 L5 P5) A5 := Xt_sI eG10 hx9
    refine wpM.mono (h G10 A5 ⟨L5, P5, rfl, hS10⟩) (fun rr11 G11 hr => ?_)
    obtain ⟨A11, W11, w11, ⟨L11, P11, rfl, hS11⟩, hy11, rfl, rfl, h⟩ := hr
    refine ⟨rfl, ?_⟩
    have hx11 := Xt.trans hx10 hy11
    have ee12 : A11 6 0 = A5 6 0 := hy11.2 _ _ hS10.1.2.1 (((n6_0 hS11)).trans ((n6_0 hS10)).symm)
    try rw [← ee12]
    refine ⟨hS11.o (s6_0 hS11), ?_⟩
    refine wpM.mono (h G11 A11 ⟨L11, P11, rfl, hS11⟩) (fun rr13 G13 hr => ?_)
    obtain ⟨A13, W13, w13, ⟨L13, P13, rfl, hS13⟩, hy13, rfl, rfl, h⟩ := hr
    refine ⟨rfl, ?_⟩
    have hx13 := Xt.trans hx11 hy13
    have ee14 : A13 6 0 = A11 6 0 := hy13.2 _ _ hS11.1.2.1 (((n6_0 hS13)).trans ((n6_0 hS11)).symm)
    try rw [← ee14]
    refine ⟨hS13.o (s6_0 hS13), ?_⟩
    refine ⟨fun hc => ?_, fun hc => ?_⟩
    · have h := h.1 hc
      exact wp.mono (h G13 A13 ⟨L13, P13, rfl, hS13⟩) (fun r G' q => qx_trans hx13 q)
    · have h := h.2 hc
      refine ⟨fun hc => ?_, fun hc => ?_⟩
      · have h := h.1 hc
        exact wp.mono (h G13 A13 ⟨L13, P13, rfl, hS13⟩) (fun r G' q => qx_trans hx13 q)
      · have h := h.2 hc
        refine wpM.mono (h G13 A13 ⟨L13, P13, rfl, hS13⟩) (fun rr15 G15 hr => ?_)
        obtain ⟨A15, W15, w15, ⟨L15, P15, rfl, hS15⟩, hy15, rfl, rfl, h⟩ := hr
        refine ⟨rfl, ?_⟩
        have hx15 := Xt.trans hx13 hy15
        have ee16 : A15 6 0 = A13 6 0 := hy15.2 _ _ hS13.1.2.1 (((n6_0 hS15)).trans ((n6_0 hS13)).symm)
        try rw [← ee16]
        exact wp.mono (h G15 A15 ⟨L15, P15, rfl, hS15⟩) (fun r G' q => qx_trans hx15 q)
  · have h := h.2 hc
    exact qx_i hS1 hx1 h
