/-! regions over the view (by program): J7_fill_53178 J7_fill_d0a16 X0_sum X0_at X0_number X0_become X0_addAll X0_keep X0_addNumber X0_add X0_exchange X10_scan X10_afterBlanks X10_write X10_step X10_isLetter X10_readName X10_isFigure X10_readNumber X10_readSign X10_fail X10_is X10_refuse X10_accept X7_clear X7_add X7_placeOfValue X7_moved X7_placeOf X7_valueOf X7_lowest X7_following X7_isVar X7_agreeing X9_renew X9_beatsHand X9_gather X9_setOf X9_isBetter X9_scoreOf X9_keepValue X9_keepBest X9_gatherFor X9_walkFront X9_sortByPair X9_sink X9_isBehind X9_isSamePair X9_differentValues X2_clear X2_begin X2_emit X2_note X2_amend X2_finish X2_describe X2_weighAll X2_look X2_run X2_leaf X2_push X2_pop X2_ofOne X2_held X2_picked X2_noteAt X2_ofTwo X2_ofMany X2_overlaps X2_valueAt X2_overload X2_astray X2_offRound X2_outOfOrder X2_offRows X2_repeated X2_isPart X3_clear X3_lookUp X3_tell X3_letters X3_moveTo X3_regretIn X3_factsIn X3_sumOverFutures -/
theorem w_J7_fill_53178_0 {E : EE} {d : Nat} {V : VH} {K : VH → Prop} {a0 f0 : Nat} {x1 : Int32} (hA0 : SL (vL V) a0 f0 14) (h : vwp E d M_J7_fill_53178 5 [some (sl a0 f0), some (wi x1), some (wi 0), some (wi (nI (vN V a0 f0)))] [] V (zv K)) : vMV E d M_J7_fill_53178 [sl a0 f0, wi x1] V K := by
  intro G A hR
  obtain ⟨L, P, rfl, hS⟩ := hR
  have hx := Xt.refl (V := pl G A L P) (A := A)
  show wpM E d M_J7_fill_53178 [vr (A a0 f0), vi x1] G _
  refine wpM_of mk_J7_fill_53178 (Nat.le_of_ble_eq_true rfl) ?_
  refine v_J7_fill_53178_0 ?_
  refine ⟨hS.o hA0, ?_⟩
  exact wp.mono (h G A ⟨L, P, rfl, hS⟩) (fun r G' q => qx_trans hx q)
theorem w_J7_fill_53178_5 {E : EE} {d : Nat} {V : VH} {K : VH → Prop} {a0 f0 : Nat} {x1 : Int32} {x2 : Int32} {x3 : Int32} (hA0 : SL (vL V) a0 f0 14) (h : (x3 ≤ x2 → K V) ∧ (¬ (x3 ≤ x2) → vp_in x2 (vN V a0 f0) ∧ (∀ V2 : VH, V2 = wrI V a0 f0 (Int32.toNatClampNeg x2) x1 → vwp E d M_J7_fill_53178 5 [some (sl a0 f0), some (wi x1), some (wi (x2 + 1)), some (wi x3)] [] V2 (zv K)))) : vwp E d M_J7_fill_53178 5 [some (sl a0 f0), some (wi x1), some (wi x2), some (wi x3)] [] V (zv K) := by
  intro G A hR
  obtain ⟨L, P, rfl, hS⟩ := hR
  have hx := Xt.refl (V := pl G A L P) (A := A)
  show wp E d M_J7_fill_53178 5 [some (vr (A a0 f0)), some (vi x1), some (vi x2), some (vi x3)] [] G _
  refine v_J7_fill_53178_5 ?_
  refine ⟨fun hc => ?_, fun hc => ?_⟩
  · have h := h.1 hc
    exact qx_v hS hx h
  · have h := h.2 hc
    refine ⟨hS.o hA0, ?_⟩
    obtain ⟨hi1, h⟩ := h
    refine ⟨hi1, ?_⟩
    have hS2 : Sh E (sI G (A a0 f0) (Int32.toNatClampNeg x2) x1) A L P := Sh_sI (rfl : sI G (A a0 f0) (Int32.toNatClampNeg x2) x1 = sI G (A a0 f0) (Int32.toNatClampNeg x2) x1) hS hA0 (okT_0 rfl)
    have h := h (pl (sI G (A a0 f0) (Int32.toNatClampNeg x2) x1) A L P) (pl_sI (rfl : sI G (A a0 f0) (Int32.toNatClampNeg x2) x1 = sI G (A a0 f0) (Int32.toNatClampNeg x2) x1) hS hA0)
    have hx2 : Xt (pl G A L P) A (pl (sI G (A a0 f0) (Int32.toNatClampNeg x2) x1) A L P) A := Xt_sI (rfl : sI G (A a0 f0) (Int32.toNatClampNeg x2) x1 = sI G (A a0 f0) (Int32.toNatClampNeg x2) x1) hx
    exact wp.mono (h (sI G (A a0 f0) (Int32.toNatClampNeg x2) x1) A ⟨L, P, rfl, hS2⟩) (fun r G' q => qx_trans hx2 q)
theorem w_X0_sum_0 {E : EE} {d : Nat} {V : VH} {K : Int64 → VH → Prop} {b0 c0 : Nat} {x1 : Int32} {x2 : Int32} (hB0 : BS (vL V) b0 c0) (h : vwp E d M_X0_sum 5 [some (sl b0 c0), some (wi x1), some (wi x2), some (wj 0), none, some (wi x1)] [] V (zj K)) : vMJ E d M_X0_sum [sl b0 c0, wi x1, wi x2] V K := by
  intro G A hR
  obtain ⟨L, P, rfl, hS⟩ := hR
  have hx := Xt.refl (V := pl G A L P) (A := A)
  show wpM E d M_X0_sum [vr (A b0 c0), vi x1, vi x2] G _
  refine wpM_of mk_X0_sum (Nat.le_of_ble_eq_true rfl) ?_
  refine v_X0_sum_0 ?_
  exact wp.mono (h G A ⟨L, P, rfl, hS⟩) (fun r G' q => qx_trans hx q)
theorem w_X0_sum_5 {E : EE} {d : Nat} {V : VH} {K : Int64 → VH → Prop} {b0 c0 : Nat} {x1 : Int32} {x2 : Int32} {x3 : Int64} {x5 : Int32} (hB0 : BS (vL V) b0 c0) (h0 : 0 < d) (h : (x2 ≤ x5 → K x3 V) ∧ (¬ (x2 ≤ x5) → vMI E (d - 1) M_X0_at [sl b0 c0, wi x5] V (fun r1 V1 => vwp E d M_X0_sum 5 [some (sl b0 c0), some (wi x1), some (wi x2), some (wj ((((x3 ^^^ (Int32.toInt64 (r1 &&& 255))) <<< (Int32.toInt64 53 &&& 63)) ||| (lushr (x3 ^^^ (Int32.toInt64 (r1 &&& 255))) 11)) * (-4417276706812531889))), none, some (wi (x5 + 1))] [] V1 (zj K)))) : vwp E d M_X0_sum 5 [some (sl b0 c0), some (wi x1), some (wi x2), some (wj x3), none, some (wi x5)] [] V (zj K) := by
  intro G A hR
  obtain ⟨L, P, rfl, hS⟩ := hR
  have hx := Xt.refl (V := pl G A L P) (A := A)
  show wp E d M_X0_sum 5 [some (vr (A b0 c0)), some (vi x1), some (vi x2), some (vj x3), none, some (vi x5)] [] G _
  refine v_X0_sum_5 h0 ?_
  refine ⟨fun hc => ?_, fun hc => ?_⟩
  · have h := h.1 hc
    exact qx_j hS hx h
  · have h := h.2 hc
    refine ⟨hS.o (BS.o hB0), ?_⟩
    refine wpM.mono (h G A ⟨L, P, rfl, hS⟩) (fun rr1 G1 hr => ?_)
    obtain ⟨A1, W1, w1, ⟨L1, P1, rfl, hS1⟩, hy1, rfl, r1, rfl, h⟩ := hr
    refine ⟨r1, rfl, ?_⟩
    have hx1 := Xt.trans hx hy1
    have hg2 : BS L1 b0 c0 := BS.up hy1 hB0
    have ee3 : A1 b0 c0 = A b0 c0 := hy1.2 _ _ hB0.1 (((BS.n hg2 hS1)).trans ((BS.n hB0 hS)).symm)
    try rw [← ee3]
    exact wp.mono (h G1 A1 ⟨L1, P1, rfl, hS1⟩) (fun r G' q => qx_trans hx1 q)
theorem w_X0_at_0 {E : EE} {d : Nat} {V : VH} {K : Int32 → VH → Prop} {b0 c0 : Nat} {x1 : Int32} (hB0 : BS (vL V) b0 c0) (h : (x1 < 0 → K (-1) V) ∧ (¬ (x1 < 0) → ((vI V b0 c0 1) ≤ x1 → K (-1) V) ∧ (¬ ((vI V b0 c0 1) ≤ x1) → ((nI (vN V b0 (c0 + 1))) ≤ x1 → K (-1) V) ∧ (¬ ((nI (vN V b0 (c0 + 1))) ≤ x1) → vp_in x1 (vN V b0 (c0 + 1)) ∧ (K ((vI V b0 (c0 + 1) (Int32.toNatClampNeg x1)) &&& 255) V))))) : vMI E d M_X0_at [sl b0 c0, wi x1] V K := by
  intro G A hR
  obtain ⟨L, P, rfl, hS⟩ := hR
  have hx := Xt.refl (V := pl G A L P) (A := A)
  show wpM E d M_X0_at [vr (A b0 c0), vi x1] G _
  refine wpM_of mk_X0_at (Nat.le_of_ble_eq_true rfl) ?_
  refine v_X0_at_0 ?_
  refine ⟨fun hc => ?_, fun hc => ?_⟩
  · have h := h.1 hc
    exact qx_i hS hx h
  · have h := h.2 hc
    refine ⟨hS.o (BS.o hB0), ?_⟩
    refine ⟨fun hc => ?_, fun hc => ?_⟩
    · have h := h.1 hc
      exact qx_i hS hx h
    · have h := h.2 hc
      rw [BS.l hB0 hS]
      refine ⟨hS.o (BS.a hB0), ?_⟩
      refine ⟨fun hc => ?_, fun hc => ?_⟩
      · have h := h.1 hc
        exact qx_i hS hx h
      · have h := h.2 hc
        obtain ⟨hi1, h⟩ := h
        refine ⟨hi1, ?_⟩
        exact qx_i hS hx h
theorem w_X0_become_0 {E : EE} {d : Nat} {V : VH} {K : VH → Prop} {b0 c0 : Nat} {b1 c1 : Nat} {x2 : Int32} {x3 : Int32} (hB0 : BS (vL V) b0 c0) (hB1 : BS (vL V) b1 c1) (h0 : 0 < d) (h : ∀ V1 : VH, V1 = wrI V b0 c0 1 0 → vMV E (d - 1) M_X0_addAll [sl b0 c0, sl b1 c1, wi x2, wi x3] V1 (fun V2 => K V2)) : vMV E d M_X0_become [sl b0 c0, sl b1 c1, wi x2, wi x3] V K := by
  intro G A hR
  obtain ⟨L, P, rfl, hS⟩ := hR
  have hx := Xt.refl (V := pl G A L P) (A := A)
  show wpM E d M_X0_become [vr (A b0 c0), vr (A b1 c1), vi x2, vi x3] G _
  refine wpM_of mk_X0_become (Nat.le_of_ble_eq_true rfl) ?_
  refine v_X0_become_0 h0 ?_
  refine ⟨hS.o (BS.o hB0), ?_⟩
  have hS1 : Sh E (sI G (A b0 c0) 1 0) A L P := Sh_sI (rfl : sI G (A b0 c0) 1 0 = sI G (A b0 c0) 1 0) hS (BS.o hB0) (okT_0 rfl)
  have h := h (pl (sI G (A b0 c0) 1 0) A L P) (pl_sI (rfl : sI G (A b0 c0) 1 0 = sI G (A b0 c0) 1 0) hS (BS.o hB0))
  have hx1 : Xt (pl G A L P) A (pl (sI G (A b0 c0) 1 0) A L P) A := Xt_sI (rfl : sI G (A b0 c0) 1 0 = sI G (A b0 c0) 1 0) hx
  refine wpM.mono (h (sI G (A b0 c0) 1 0) A ⟨L, P, rfl, hS1⟩) (fun rr2 G2 hr => ?_)
  obtain ⟨A2, W2, w2, ⟨L2, P2, rfl, hS2⟩, hy2, rfl, rfl, h⟩ := hr
  refine ⟨rfl, ?_⟩
  have hx2 := Xt.trans hx1 hy2
  have hg3 : BS L2 b0 c0 := BS.up hy2 hB0
  have hg4 : BS L2 b1 c1 := BS.up hy2 hB1
  have ee5 : A2 b0 c0 = A b0 c0 := hy2.2 _ _ hB0.1 (((BS.n hg3 hS2)).trans ((BS.n hB0 hS1)).symm)
  try rw [← ee5]
  have ee6 : A2 b1 c1 = A b1 c1 := hy2.2 _ _ hB1.1 (((BS.n hg4 hS2)).trans ((BS.n hB1 hS1)).symm)
  try rw [← ee6]
  exact qx_v hS2 hx2 h
theorem w_X0_addAll_0 {E : EE} {d : Nat} {V : VH} {K : VH → Prop} {b0 c0 : Nat} {b1 c1 : Nat} {x2 : Int32} {x3 : Int32} (hB0 : BS (vL V) b0 c0) (hB1 : BS (vL V) b1 c1) (h0 : 0 < d) (h : (x2 < 0 → K V) ∧ (¬ (x2 < 0) → (x3 < 0 → K V) ∧ (¬ (x3 < 0) → (x2 ≤ ((vI V b1 c1 1) - x3) → vMV E (d - 1) M_X0_makeRoom [sl b0 c0, wi ((vI V b0 c0 1) + x3)] V (fun V1 => ¬ x2 < 0 ∧ (¬ (vI V1 b0 c0 1) < 0 ∧ (¬ x3 < 0 ∧ ((Int32.toNatClampNeg x2) + (Int32.toNatClampNeg x3) ≤ vN V1 b1 (c1 + 1) ∧ ((Int32.toNatClampNeg (vI V1 b0 c0 1)) + (Int32.toNatClampNeg x3) ≤ vN V1 b0 (c0 + 1) ∧ (∀ V11 : VH, V11 = cpyI V1 b1 (c1 + 1) b0 (c0 + 1) (Int32.toNatClampNeg x2) (Int32.toNatClampNeg (vI V1 b0 c0 1)) (Int32.toNatClampNeg x3) → ∀ V12 : VH, V12 = wrI V11 b0 c0 1 ((vI V11 b0 c0 1) + x3) → K V12))))))) ∧ (¬ (x2 ≤ ((vI V b1 c1 1) - x3)) → K V)))) : vMV E d M_X0_addAll [sl b0 c0, sl b1 c1, wi x2, wi x3] V K := by
  intro G A hR
  obtain ⟨L, P, rfl, hS⟩ := hR
  have hx := Xt.refl (V := pl G A L P) (A := A)
  show wpM E d M_X0_addAll [vr (A b0 c0), vr (A b1 c1), vi x2, vi x3] G _
  refine wpM_of mk_X0_addAll (Nat.le_of_ble_eq_true rfl) ?_
  refine v_X0_addAll_0 h0 ?_
  refine ⟨fun hc => ?_, fun hc => ?_⟩
  · have h := h.1 hc
    exact qx_v hS hx h
  · have h := h.2 hc
    refine ⟨fun hc => ?_, fun hc => ?_⟩
    · have h := h.1 hc
      exact qx_v hS hx h
    · have h := h.2 hc
      refine ⟨hS.o (BS.o hB1), ?_⟩
      refine ⟨fun hc => ?_, fun hc => ?_⟩
      · have h := h.1 hc
        refine ⟨hS.o (BS.o hB0), ?_⟩
        refine wpM.mono (h G A ⟨L, P, rfl, hS⟩) (fun rr1 G1 hr => ?_)
        obtain ⟨A1, W1, w1, ⟨L1, P1, rfl, hS1⟩, hy1, rfl, rfl, h⟩ := hr
        refine ⟨rfl, ?_⟩
        have hx1 := Xt.trans hx hy1
        have hg2 : BS L1 b0 c0 := BS.up hy1 hB0
        have hg3 : BS L1 b1 c1 := BS.up hy1 hB1
        have ee4 : A1 b0 c0 = A b0 c0 := hy1.2 _ _ hB0.1 (((BS.n hg2 hS1)).trans ((BS.n hB0 hS)).symm)
        try rw [← ee4]
        have ee5 : A1 b1 c1 = A b1 c1 := hy1.2 _ _ hB1.1 (((BS.n hg3 hS1)).trans ((BS.n hB1 hS)).symm)
        try rw [← ee5]
        refine ⟨hS1.o (BS.o hg3), ?_⟩
        rw [BS.l hg3 hS1]
        refine ⟨hS1.o (BS.o hg2), ?_⟩
        rw [BS.l hg2 hS1]
        refine ⟨hS1.o (BS.a hg3), ?_⟩
        refine ⟨hS1.o (BS.a hg2), ?_⟩
        obtain ⟨hc6, h⟩ := h
        refine ⟨hc6, ?_⟩
        obtain ⟨hc7, h⟩ := h
        refine ⟨hc7, ?_⟩
        obtain ⟨hc8, h⟩ := h
        refine ⟨hc8, ?_⟩
        obtain ⟨hc9, h⟩ := h
        refine ⟨hc9, ?_⟩
        obtain ⟨hc10, h⟩ := h
        refine ⟨hc10, ?_⟩
        refine ⟨fun i _ => hS1.fit (BS.a hg3) _, ?_⟩
        have hS11 : Sh E (cpI G1 (A1 b1 (c1 + 1)) (A1 b0 (c0 + 1)) (Int32.toNatClampNeg x2) (Int32.toNatClampNeg (gI G1 (A1 b0 c0) 1)) (Int32.toNatClampNeg x3)) A1 L1 P1 := Sh_cpI (rfl : cpI G1 (A1 b1 (c1 + 1)) (A1 b0 (c0 + 1)) (Int32.toNatClampNeg x2) (Int32.toNatClampNeg (gI G1 (A1 b0 c0) 1)) (Int32.toNatClampNeg x3) = cpI G1 (A1 b1 (c1 + 1)) (A1 b0 (c0 + 1)) (Int32.toNatClampNeg x2) (Int32.toNatClampNeg (gI G1 (A1 b0 c0) 1)) (Int32.toNatClampNeg x3)) hS1 (BS.a hg2) (BS.a hg3) (fun _ => rfl)
        have h := h (pl (cpI G1 (A1 b1 (c1 + 1)) (A1 b0 (c0 + 1)) (Int32.toNatClampNeg x2) (Int32.toNatClampNeg (gI G1 (A1 b0 c0) 1)) (Int32.toNatClampNeg x3)) A1 L1 P1) (pl_cpI (rfl : cpI G1 (A1 b1 (c1 + 1)) (A1 b0 (c0 + 1)) (Int32.toNatClampNeg x2) (Int32.toNatClampNeg (gI G1 (A1 b0 c0) 1)) (Int32.toNatClampNeg x3) = cpI G1 (A1 b1 (c1 + 1)) (A1 b0 (c0 + 1)) (Int32.toNatClampNeg x2) (Int32.toNatClampNeg (gI G1 (A1 b0 c0) 1)) (Int32.toNatClampNeg x3)) hS1 (BS.a hg2))
        have hx11 : Xt (pl G A L P) A (pl (cpI G1 (A1 b1 (c1 + 1)) (A1 b0 (c0 + 1)) (Int32.toNatClampNeg x2) (Int32.toNatClampNeg (gI G1 (A1 b0 c0) 1)) (Int32.toNatClampNeg x3)) A1 L1 P1) A1 := Xt_cpI (rfl : cpI G1 (A1 b1 (c1 + 1)) (A1 b0 (c0 + 1)) (Int32.toNatClampNeg x2) (Int32.toNatClampNeg (gI G1 (A1 b0 c0) 1)) (Int32.toNatClampNeg x3) = cpI G1 (A1 b1 (c1 + 1)) (A1 b0 (c0 + 1)) (Int32.toNatClampNeg x2) (Int32.toNatClampNeg (gI G1 (A1 b0 c0) 1)) (Int32.toNatClampNeg x3)) hx1
        have hS12 : Sh E (sI (cpI G1 (A1 b1 (c1 + 1)) (A1 b0 (c0 + 1)) (Int32.toNatClampNeg x2) (Int32.toNatClampNeg (gI G1 (A1 b0 c0) 1)) (Int32.toNatClampNeg x3)) (A1 b0 c0) 1 ((gI (cpI G1 (A1 b1 (c1 + 1)) (A1 b0 (c0 + 1)) (Int32.toNatClampNeg x2) (Int32.toNatClampNeg (gI G1 (A1 b0 c0) 1)) (Int32.toNatClampNeg x3)) (A1 b0 c0) 1) + x3)) A1 L1 P1 := Sh_sI (rfl : sI (cpI G1 (A1 b1 (c1 + 1)) (A1 b0 (c0 + 1)) (Int32.toNatClampNeg x2) (Int32.toNatClampNeg (gI G1 (A1 b0 c0) 1)) (Int32.toNatClampNeg x3)) (A1 b0 c0) 1 ((gI (cpI G1 (A1 b1 (c1 + 1)) (A1 b0 (c0 + 1)) (Int32.toNatClampNeg x2) (Int32.toNatClampNeg (gI G1 (A1 b0 c0) 1)) (Int32.toNatClampNeg x3)) (A1 b0 c0) 1) + x3) = sI (cpI G1 (A1 b1 (c1 + 1)) (A1 b0 (c0 + 1)) (Int32.toNatClampNeg x2) (Int32.toNatClampNeg (gI G1 (A1 b0 c0) 1)) (Int32.toNatClampNeg x3)) (A1 b0 c0) 1 ((gI (cpI G1 (A1 b1 (c1 + 1)) (A1 b0 (c0 + 1)) (Int32.toNatClampNeg x2) (Int32.toNatClampNeg (gI G1 (A1 b0 c0) 1)) (Int32.toNatClampNeg x3)) (A1 b0 c0) 1) + x3)) hS11 (BS.o hg2) (okT_0 rfl)
        have h := h (pl (sI (cpI G1 (A1 b1 (c1 + 1)) (A1 b0 (c0 + 1)) (Int32.toNatClampNeg x2) (Int32.toNatClampNeg (gI G1 (A1 b0 c0) 1)) (Int32.toNatClampNeg x3)) (A1 b0 c0) 1 ((gI (cpI G1 (A1 b1 (c1 + 1)) (A1 b0 (c0 + 1)) (Int32.toNatClampNeg x2) (Int32.toNatClampNeg (gI G1 (A1 b0 c0) 1)) (Int32.toNatClampNeg x3)) (A1 b0 c0) 1) + x3)) A1 L1 P1) (pl_sI (rfl : sI (cpI G1 (A1 b1 (c1 + 1)) (A1 b0 (c0 + 1)) (Int32.toNatClampNeg x2) (Int32.toNatClampNeg (gI G1 (A1 b0 c0) 1)) (Int32.toNatClampNeg x3)) (A1 b0 c0) 1 ((gI (cpI G1 (A1 b1 (c1 + 1)) (A1 b0 (c0 + 1)) (Int32.toNatClampNeg x2) (Int32.toNatClampNeg (gI G1 (A1 b0 c0) 1)) (Int32.toNatClampNeg x3)) (A1 b0 c0) 1) + x3) = sI (cpI G1 (A1 b1 (c1 + 1)) (A1 b0 (c0 + 1)) (Int32.toNatClampNeg x2) (Int32.toNatClampNeg (gI G1 (A1 b0 c0) 1)) (Int32.toNatClampNeg x3)) (A1 b0 c0) 1 ((gI (cpI G1 (A1 b1 (c1 + 1)) (A1 b0 (c0 + 1)) (Int32.toNatClampNeg x2) (Int32.toNatClampNeg (gI G1 (A1 b0 c0) 1)) (Int32.toNatClampNeg x3)) (A1 b0 c0) 1) + x3)) hS11 (BS.o hg2))
        have hx12 : Xt (pl G A L P) A (pl (sI (cpI G1 (A1 b1 (c1 + 1)) (A1 b0 (c0 + 1)) (Int32.toNatClampNeg x2) (Int32.toNatClampNeg (gI G1 (A1 b0 c0) 1)) (Int32.toNatClampNeg x3)) (A1 b0 c0) 1 ((gI (cpI G1 (A1 b1 (c1 + 1)) (A1 b0 (c0 + 1)) (Int32.toNatClampNeg x2) (Int32.toNatClampNeg (gI G1 (A1 b0 c0) 1)) (Int32.toNatClampNeg x3)) (A1 b0 c0) 1) + x3)) A1 L1 P1) A1 := Xt_sI (rfl : sI (cpI G1 (A1 b1 (c1 + 1)) (A1 b0 (c0 + 1)) (Int32.toNatClampNeg x2) (Int32.toNatClampNeg (gI G1 (A1 b0 c0) 1)) (Int32.toNatClampNeg x3)) (A1 b0 c0) 1 ((gI (cpI G1 (A1 b1 (c1 + 1)) (A1 b0 (c0 + 1)) (Int32.toNatClampNeg x2) (Int32.toNatClampNeg (gI G1 (A1 b0 c0) 1)) (Int32.toNatClampNeg x3)) (A1 b0 c0) 1) + x3) = sI (cpI G1 (A1 b1 (c1 + 1)) (A1 b0 (c0 + 1)) (Int32.toNatClampNeg x2) (Int32.toNatClampNeg (gI G1 (A1 b0 c0) 1)) (Int32.toNatClampNeg x3)) (A1 b0 c0) 1 ((gI (cpI G1 (A1 b1 (c1 + 1)) (A1 b0 (c0 + 1)) (Int32.toNatClampNeg x2) (Int32.toNatClampNeg (gI G1 (A1 b0 c0) 1)) (Int32.toNatClampNeg x3)) (A1 b0 c0) 1) + x3)) hx11
        exact qx_v hS12 hx12 h
      · have h := h.2 hc
        exact qx_v hS hx h
theorem w_X0_keep_0 {E : EE} {d : Nat} {V : VH} {K : VH → Prop} {b0 c0 : Nat} {x1 : Int32} (hB0 : BS (vL V) b0 c0) (h : (x1 < 0 → K V) ∧ (¬ (x1 < 0) → ((vI V b0 c0 1) ≤ x1 → K V) ∧ (¬ ((vI V b0 c0 1) ≤ x1) → ∀ V1 : VH, V1 = wrI V b0 c0 1 x1 → K V1))) : vMV E d M_X0_keep [sl b0 c0, wi x1] V K := by
  intro G A hR
  obtain ⟨L, P, rfl, hS⟩ := hR
  have hx := Xt.refl (V := pl G A L P) (A := A)
  show wpM E d M_X0_keep [vr (A b0 c0), vi x1] G _
  refine wpM_of mk_X0_keep (Nat.le_of_ble_eq_true rfl) ?_
  refine v_X0_keep_0 ?_
  refine ⟨fun hc => ?_, fun hc => ?_⟩
  · have h := h.1 hc
    exact qx_v hS hx h
  · have h := h.2 hc
    refine ⟨hS.o (BS.o hB0), ?_⟩
    refine ⟨fun hc => ?_, fun hc => ?_⟩
    · have h := h.1 hc
      exact qx_v hS hx h
    · have h := h.2 hc
      have hS1 : Sh E (sI G (A b0 c0) 1 x1) A L P := Sh_sI (rfl : sI G (A b0 c0) 1 x1 = sI G (A b0 c0) 1 x1) hS (BS.o hB0) (okT_0 rfl)
      have h := h (pl (sI G (A b0 c0) 1 x1) A L P) (pl_sI (rfl : sI G (A b0 c0) 1 x1 = sI G (A b0 c0) 1 x1) hS (BS.o hB0))
      have hx1 : Xt (pl G A L P) A (pl (sI G (A b0 c0) 1 x1) A L P) A := Xt_sI (rfl : sI G (A b0 c0) 1 x1 = sI G (A b0 c0) 1 x1) hx
      exact qx_v hS1 hx1 h
theorem w_X0_addNumber_0 {E : EE} {d : Nat} {V : VH} {K : VH → Prop} {b0 c0 : Nat} {x1 : Int64} {x3 : Int32} (hB0 : BS (vL V) b0 c0) (h : vwp E d M_X0_addNumber 5 [some (sl b0 c0), some (wj x1), none, some (wi x3), some (wi (x3 - 1))] [] V (zv K)) : vMV E d M_X0_addNumber [sl b0 c0, wj x1, wi x3] V K := by
  intro G A hR
  obtain ⟨L, P, rfl, hS⟩ := hR
  have hx := Xt.refl (V := pl G A L P) (A := A)
  show wpM E d M_X0_addNumber [vr (A b0 c0), vj x1, vi x3] G _
  refine wpM_of mk_X0_addNumber (Nat.le_of_ble_eq_true rfl) ?_
  refine v_X0_addNumber_0 ?_
  exact wp.mono (h G A ⟨L, P, rfl, hS⟩) (fun r G' q => qx_trans hx q)
theorem w_X0_addNumber_5 {E : EE} {d : Nat} {V : VH} {K : VH → Prop} {b0 c0 : Nat} {x1 : Int64} {x3 : Int32} {x4 : Int32} (hB0 : BS (vL V) b0 c0) (h0 : 0 < d) (h : (x4 < 0 → K V) ∧ (¬ (x4 < 0) → vMV E (d - 1) M_X0_add [sl b0 c0, wi (Int64.toInt32 (lushr x1 (8 * x4)))] V (fun V1 => vwp E d M_X0_addNumber 5 [some (sl b0 c0), some (wj x1), none, some (wi x3), some (wi (x4 + (-1)))] [] V1 (zv K)))) : vwp E d M_X0_addNumber 5 [some (sl b0 c0), some (wj x1), none, some (wi x3), some (wi x4)] [] V (zv K) := by
  intro G A hR
  obtain ⟨L, P, rfl, hS⟩ := hR
  have hx := Xt.refl (V := pl G A L P) (A := A)
  show wp E d M_X0_addNumber 5 [some (vr (A b0 c0)), some (vj x1), none, some (vi x3), some (vi x4)] [] G _
  refine v_X0_addNumber_5 h0 ?_
  refine ⟨fun hc => ?_, fun hc => ?_⟩
  · have h := h.1 hc
    exact qx_v hS hx h
  · have h := h.2 hc
    refine ⟨hS.o (BS.o hB0), ?_⟩
    refine wpM.mono (h G A ⟨L, P, rfl, hS⟩) (fun rr1 G1 hr => ?_)
    obtain ⟨A1, W1, w1, ⟨L1, P1, rfl, hS1⟩, hy1, rfl, rfl, h⟩ := hr
    refine ⟨rfl, ?_⟩
    have hx1 := Xt.trans hx hy1
    have hg2 : BS L1 b0 c0 := BS.up hy1 hB0
    have ee3 : A1 b0 c0 = A b0 c0 := hy1.2 _ _ hB0.1 (((BS.n hg2 hS1)).trans ((BS.n hB0 hS)).symm)
    try rw [← ee3]
    exact wp.mono (h G1 A1 ⟨L1, P1, rfl, hS1⟩) (fun r G' q => qx_trans hx1 q)
theorem w_X0_add_0 {E : EE} {d : Nat} {V : VH} {K : VH → Prop} {b0 c0 : Nat} {x1 : Int32} (hB0 : BS (vL V) b0 c0) (h0 : 0 < d) (h : vMV E (d - 1) M_X0_makeRoom [sl b0 c0, wi ((vI V b0 c0 1) + 1)] V (fun V1 => ((nI (vN V1 b0 (c0 + 1))) ≤ (vI V1 b0 c0 1) → K V1) ∧ (¬ ((nI (vN V1 b0 (c0 + 1))) ≤ (vI V1 b0 c0 1)) → ∀ V4 : VH, V4 = wrI V1 b0 c0 1 ((vI V1 b0 c0 1) + 1) → vp_in (vI V1 b0 c0 1) (vN V4 b0 (c0 + 1)) ∧ (∀ V6 : VH, V6 = wrI V4 b0 (c0 + 1) (Int32.toNatClampNeg (vI V1 b0 c0 1)) (i2b (i2b x1)) → K V6)))) : vMV E d M_X0_add [sl b0 c0, wi x1] V K := by
  intro G A hR
  obtain ⟨L, P, rfl, hS⟩ := hR
  have hx := Xt.refl (V := pl G A L P) (A := A)
  show wpM E d M_X0_add [vr (A b0 c0), vi x1] G _
  refine wpM_of mk_X0_add (Nat.le_of_ble_eq_true rfl) ?_
  refine v_X0_add_0 h0 ?_
  refine ⟨hS.o (BS.o hB0), ?_⟩
  refine wpM.mono (h G A ⟨L, P, rfl, hS⟩) (fun rr1 G1 hr => ?_)
  obtain ⟨A1, W1, w1, ⟨L1, P1, rfl, hS1⟩, hy1, rfl, rfl, h⟩ := hr
  refine ⟨rfl, ?_⟩
  have hx1 := Xt.trans hx hy1
  have hg2 : BS L1 b0 c0 := BS.up hy1 hB0
  have ee3 : A1 b0 c0 = A b0 c0 := hy1.2 _ _ hB0.1 (((BS.n hg2 hS1)).trans ((BS.n hB0 hS)).symm)
  try rw [← ee3]
  refine ⟨hS1.o (BS.o hg2), ?_⟩
  rw [BS.l hg2 hS1]
  refine ⟨hS1.o (BS.a hg2), ?_⟩
  refine ⟨fun hc => ?_, fun hc => ?_⟩
  · have h := h.1 hc
    exact qx_v hS1 hx1 h
  · have h := h.2 hc
    intro G4 eG4
    have hS4 : Sh E G4 A1 L1 P1 := Sh_sI eG4 hS1 (BS.o hg2) (okT_0 rfl)
    have h := h (pl G4 A1 L1 P1) (pl_sI eG4 hS1 (BS.o hg2))
    have hx4 : Xt (pl G A L P) A (pl G4 A1 L1 P1) A1 := Xt_sI eG4 hx1
    obtain ⟨hi5, h⟩ := h
    refine ⟨hi5, ?_⟩
    intro G6 eG6
    have hS6 : Sh E G6 A1 L1 P1 := Sh_sI eG6 hS4 (BS.a hg2) (okT_b rfl)
    have h := h (pl G6 A1 L1 P1) (pl_sI eG6 hS4 (BS.a hg2))
    have hx6 : Xt (pl G A L P) A (pl G6 A1 L1 P1) A1 := Xt_sI eG6 hx4
    exact qx_v hS6 hx6 h
theorem w_X10_scan_0 {E : EE} {d : Nat} {V : VH} {K : VH → Prop} {b1 c1 : Nat} (hB1 : BS (vL V) b1 c1) (h : ∀ V1 : VH, V1 = wrI V 0 2 5 0 → ∀ V2 : VH, V2 = wrI V1 0 2 10 0 → ∀ V3 : VH, V3 = wrI V2 0 2 11 0 → vwp E d M_X10_scan 19 [some (sl 0 2), some (sl b1 c1), some (wi 0), some (wi 0), none] [] V3 (zv K)) : vMV E d M_X10_scan [sl 0 2, sl b1 c1] V K := by
  intro G A hR
  obtain ⟨L, P, rfl, hS⟩ := hR
  have hx := Xt.refl (V := pl G A L P) (A := A)
  show wpM E d M_X10_scan [vr (A 0 2), vr (A b1 c1)] G _
  refine wpM_of mk_X10_scan (Nat.le_of_ble_eq_true rfl) ?_
  refine v_X10_scan_0 ?_
  refine ⟨hS.o (s0_2 hS), ?_⟩
  intro G1 eG1
  have hS1 : Sh E G1 A L P := Sh_sI eG1 hS (s0_2 hS) (okT_0 rfl)
  have h := h (pl G1 A L P) (pl_sI eG1 hS (s0_2 hS))
  have hx1 : Xt (pl G A L P) A (pl G1 A L P) A := Xt_sI eG1 hx
  intro G2 eG2
  have hS2 : Sh E G2 A L P := Sh_sI eG2 hS1 (s0_2 hS1) (okT_0 rfl)
  have h := h (pl G2 A L P) (pl_sI eG2 hS1 (s0_2 hS1))
  have hx2 : Xt (pl G A L P) A (pl G2 A L P) A := Xt_sI eG2 hx1
  intro G3 eG3
  have hS3 : Sh E G3 A L P := Sh_sI eG3 hS2 (s0_2 hS2) (okT_0 rfl)
  have h := h (pl G3 A L P) (pl_sI eG3 hS2 (s0_2 hS2))
  have hx3 : Xt (pl G A L P) A (pl G3 A L P) A := Xt_sI eG3 hx2
  exact wp.mono (h G3 A ⟨L, P, rfl, hS3⟩) (fun r G' q => qx_trans hx3 q)
theorem w_X10_scan_19 {E : EE} {d : Nat} {V : VH} {K : VH → Prop} {b1 c1 : Nat} {x2 : Int32} {x3 : Int32} (hB1 : BS (vL V) b1 c1) (h0 : 0 < d) (h : ((vI V b1 c1 1) < x3 → vwp E d M_X10_scan 125 [some (sl 0 2), some (sl b1 c1), some (wi x2), some (wi x3), none] [] V (zv K)) ∧ (¬ ((vI V b1 c1 1) < x3) → vMI E (d - 1) M_X10_afterBlanks [sl b1 c1, wi x2] V (fun r1 V1 => vMI E (d - 1) M_X0_at [sl b1 c1, wi r1] V1 (fun r5 V5 => (0 ≤ r5 → vMI E (d - 1) M_X10_isLetter [wi r5] V5 (fun r9 V9 => (r9 = 0 → vMI E (d - 1) M_X10_isFigure [wi r5] V9 (fun r13 V13 => (r13 = 0 → vMI E (d - 1) M_X10_readSign [sl 0 2, sl b1 c1, wi r1] V13 (fun r17 V17 => vwp E d M_X10_scan 91 [some (sl 0 2), some (sl b1 c1), some (wi r17), some (wi x3), some (wi r5)] [] V17 (zv K))) ∧ (¬ (r13 = 0) → vMI E (d - 1) M_X10_readNumber [sl 0 2, sl b1 c1, wi r1] V13 (fun r21 V21 => vwp E d M_X10_scan 91 [some (sl 0 2), some (sl b1 c1), some (wi r21), some (wi x3), some (wi r5)] [] V21 (zv K))))) ∧ (¬ (r9 = 0) → vMI E (d - 1) M_X10_readName [sl 0 2, sl b1 c1, wi r1] V9 (fun r25 V25 => vwp E d M_X10_scan 91 [some (sl 0 2), some (sl b1 c1), some (wi r25), some (wi x3), some (wi r5)] [] V25 (zv K))))) ∧ (¬ (0 ≤ r5) → vwp E d M_X10_scan 125 [some (sl 0 2), some (sl b1 c1), some (wi r1), some (wi x3), none] [] V5 (zv K)))))) : vwp E d M_X10_scan 19 [some (sl 0 2), some (sl b1 c1), some (wi x2), some (wi x3), none] [] V (zv K) := by
  intro G A hR
  obtain ⟨L, P, rfl, hS⟩ := hR
  have hx := Xt.refl (V := pl G A L P) (A := A)
  show wp E d M_X10_scan 19 [some (vr (A 0 2)), some (vr (A b1 c1)), some (vi x2), some (vi x3), none] [] G _
  refine v_X10_scan_19 h0 ?_
  refine ⟨hS.o (BS.o hB1), ?_⟩
  refine ⟨fun hc => ?_, fun hc => ?_⟩
  · have h := h.1 hc
    exact wp.mono (h G A ⟨L, P, rfl, hS⟩) (fun r G' q => qx_trans hx q)
  · have h := h.2 hc
    refine wpM.mono (h G A ⟨L, P, rfl, hS⟩) (fun rr1 G1 hr => ?_)
    obtain ⟨A1, W1, w1, ⟨L1, P1, rfl, hS1⟩, hy1, rfl, r1, rfl, h⟩ := hr
    refine ⟨r1, rfl, ?_⟩
    have hx1 := Xt.trans hx hy1
    have hg2 : BS L1 b1 c1 := BS.up hy1 hB1
    have ee3 : A1 0 2 = A 0 2 := hy1.2 _ _ hS.1.1 (((n0_2 hS1)).trans ((n0_2 hS)).symm)
    try rw [← ee3]
    have ee4 : A1 b1 c1 = A b1 c1 := hy1.2 _ _ hB1.1 (((BS.n hg2 hS1)).trans ((BS.n hB1 hS)).symm)
    try rw [← ee4]
    refine ⟨hS1.o (BS.o hg2), ?_⟩
    refine wpM.mono (h G1 A1 ⟨L1, P1, rfl, hS1⟩) (fun rr5 G5 hr => ?_)
    obtain ⟨A5, W5, w5, ⟨L5, P5, rfl, hS5⟩, hy5, rfl, r5, rfl, h⟩ := hr
    refine ⟨r5, rfl, ?_⟩
    have hx5 := Xt.trans hx1 hy5
    have hg6 : BS L5 b1 c1 := BS.up hy5 hg2
    have ee7 : A5 0 2 = A1 0 2 := hy5.2 _ _ hS1.1.1 (((n0_2 hS5)).trans ((n0_2 hS1)).symm)
    try rw [← ee7]
    have ee8 : A5 b1 c1 = A1 b1 c1 := hy5.2 _ _ hg2.1 (((BS.n hg6 hS5)).trans ((BS.n hg2 hS1)).symm)
    try rw [← ee8]
    refine ⟨fun hc => ?_, fun hc => ?_⟩
    · have h := h.1 hc
      refine wpM.mono (h G5 A5 ⟨L5, P5, rfl, hS5⟩) (fun rr9 G9 hr => ?_)
      obtain ⟨A9, W9, w9, ⟨L9, P9, rfl, hS9⟩, hy9, rfl, r9, rfl, h⟩ := hr
      refine ⟨r9, rfl, ?_⟩
      have hx9 := Xt.trans hx5 hy9
      have hg10 : BS L9 b1 c1 := BS.up hy9 hg6
      have ee11 : A9 0 2 = A5 0 2 := hy9.2 _ _ hS5.1.1 (((n0_2 hS9)).trans ((n0_2 hS5)).symm)
      try rw [← ee11]
      have ee12 : A9 b1 c1 = A5 b1 c1 := hy9.2 _ _ hg6.1 (((BS.n hg10 hS9)).trans ((BS.n hg6 hS5)).symm)
      try rw [← ee12]
      refine ⟨fun hc => ?_, fun hc => ?_⟩
      · have h := h.1 hc
        refine wpM.mono (h G9 A9 ⟨L9, P9, rfl, hS9⟩) (fun rr13 G13 hr => ?_)
        obtain ⟨A13, W13, w13, ⟨L13, P13, rfl, hS13⟩, hy13, rfl, r13, rfl, h⟩ := hr
        refine ⟨r13, rfl, ?_⟩
        have hx13 := Xt.trans hx9 hy13
        have hg14 : BS L13 b1 c1 := BS.up hy13 hg10
        have ee15 : A13 0 2 = A9 0 2 := hy13.2 _ _ hS9.1.1 (((n0_2 hS13)).trans ((n0_2 hS9)).symm)
        try rw [← ee15]
        have ee16 : A13 b1 c1 = A9 b1 c1 := hy13.2 _ _ hg10.1 (((BS.n hg14 hS13)).trans ((BS.n hg10 hS9)).symm)
        try rw [← ee16]
        refine ⟨fun hc => ?_, fun hc => ?_⟩
        · have h := h.1 hc
          refine ⟨hS13.o (s0_2 hS13), ?_⟩
          refine wpM.mono (h G13 A13 ⟨L13, P13, rfl, hS13⟩) (fun rr17 G17 hr => ?_)
          obtain ⟨A17, W17, w17, ⟨L17, P17, rfl, hS17⟩, hy17, rfl, r17, rfl, h⟩ := hr
          refine ⟨r17, rfl, ?_⟩
          have hx17 := Xt.trans hx13 hy17
          have hg18 : BS L17 b1 c1 := BS.up hy17 hg14
          have ee19 : A17 0 2 = A13 0 2 := hy17.2 _ _ hS13.1.1 (((n0_2 hS17)).trans ((n0_2 hS13)).symm)
          try rw [← ee19]
          have ee20 : A17 b1 c1 = A13 b1 c1 := hy17.2 _ _ hg14.1 (((BS.n hg18 hS17)).trans ((BS.n hg14 hS13)).symm)
          try rw [← ee20]
          exact wp.mono (h G17 A17 ⟨L17, P17, rfl, hS17⟩) (fun r G' q => qx_trans hx17 q)
        · have h := h.2 hc
          refine ⟨hS13.o (s0_2 hS13), ?_⟩
          refine wpM.mono (h G13 A13 ⟨L13, P13, rfl, hS13⟩) (fun rr21 G21 hr => ?_)
          obtain ⟨A21, W21, w21, ⟨L21, P21, rfl, hS21⟩, hy21, rfl, r21, rfl, h⟩ := hr
          refine ⟨r21, rfl, ?_⟩
          have hx21 := Xt.trans hx13 hy21
          have hg22 : BS L21 b1 c1 := BS.up hy21 hg14
          have ee23 : A21 0 2 = A13 0 2 := hy21.2 _ _ hS13.1.1 (((n0_2 hS21)).trans ((n0_2 hS13)).symm)
          try rw [← ee23]
          have ee24 : A21 b1 c1 = A13 b1 c1 := hy21.2 _ _ hg14.1 (((BS.n hg22 hS21)).trans ((BS.n hg14 hS13)).symm)
          try rw [← ee24]
          exact wp.mono (h G21 A21 ⟨L21, P21, rfl, hS21⟩) (fun r G' q => qx_trans hx21 q)
      · have h := h.2 hc
        refine ⟨hS9.o (s0_2 hS9), ?_⟩
        refine wpM.mono (h G9 A9 ⟨L9, P9, rfl, hS9⟩) (fun rr25 G25 hr => ?_)
        obtain ⟨A25, W25, w25, ⟨L25, P25, rfl, hS25⟩, hy25, rfl, r25, rfl, h⟩ := hr
        refine ⟨r25, rfl, ?_⟩
        have hx25 := Xt.trans hx9 hy25
        have hg26 : BS L25 b1 c1 := BS.up hy25 hg10
        have ee27 : A25 0 2 = A9 0 2 := hy25.2 _ _ hS9.1.1 (((n0_2 hS25)).trans ((n0_2 hS9)).symm)
        try rw [← ee27]
        have ee28 : A25 b1 c1 = A9 b1 c1 := hy25.2 _ _ hg10.1 (((BS.n hg26 hS25)).trans ((BS.n hg10 hS9)).symm)
        try rw [← ee28]
        exact wp.mono (h G25 A25 ⟨L25, P25, rfl, hS25⟩) (fun r G' q => qx_trans hx25 q)
    · have h := h.2 hc
      exact wp.mono (h G5 A5 ⟨L5, P5, rfl, hS5⟩) (fun r G' q => qx_trans hx5 q)
theorem w_X10_scan_125 {E : EE} {d : Nat} {V : VH} {K : VH → Prop} {b1 c1 : Nat} {x2 : Int32} {x3 : Int32} (hB1 : BS (vL V) b1 c1) (h0 : 0 < d) (h : vMI E (d - 1) M_X10_write [sl 0 2, wi 0, wj 0, wi (vI V b1 c1 1), wi (vI V b1 c1 1)] V (fun r1 V1 => ∀ V5 : VH, V5 = wrI V1 0 2 4 (-1) → vMV E (d - 1) M_X10_step [sl 0 2] V5 (fun V6 => K V6))) : vwp E d M_X10_scan 125 [some (sl 0 2), some (sl b1 c1), some (wi x2), some (wi x3), none] [] V (zv K) := by
  intro G A hR
  obtain ⟨L, P, rfl, hS⟩ := hR
  have hx := Xt.refl (V := pl G A L P) (A := A)
  show wp E d M_X10_scan 125 [some (vr (A 0 2)), some (vr (A b1 c1)), some (vi x2), some (vi x3), none] [] G _
  refine v_X10_scan_125 h0 ?_
  refine ⟨hS.o (BS.o hB1), ?_⟩
  refine ⟨hS.o (s0_2 hS), ?_⟩
  refine wpM.mono (h G A ⟨L, P, rfl, hS⟩) (fun rr1 G1 hr => ?_)
  obtain ⟨A1, W1, w1, ⟨L1, P1, rfl, hS1⟩, hy1, rfl, r1, rfl, h⟩ := hr
  refine ⟨r1, rfl, ?_⟩
  have hx1 := Xt.trans hx hy1
  have hg2 : BS L1 b1 c1 := BS.up hy1 hB1
  have ee3 : A1 0 2 = A 0 2 := hy1.2 _ _ hS.1.1 (((n0_2 hS1)).trans ((n0_2 hS)).symm)
  try rw [← ee3]
  have ee4 : A1 b1 c1 = A b1 c1 := hy1.2 _ _ hB1.1 (((BS.n hg2 hS1)).trans ((BS.n hB1 hS)).symm)
  try rw [← ee4]
  refine ⟨hS1.o (s0_2 hS1), ?_⟩
  have hS5 : Sh E (sI G1 (A1 0 2) 4 (-1)) A1 L1 P1 := Sh_sI (rfl : sI G1 (A1 0 2) 4 (-1) = sI G1 (A1 0 2) 4 (-1)) hS1 (s0_2 hS1) (okT_0 rfl)
  have h := h (pl (sI G1 (A1 0 2) 4 (-1)) A1 L1 P1) (pl_sI (rfl : sI G1 (A1 0 2) 4 (-1) = sI G1 (A1 0 2) 4 (-1)) hS1 (s0_2 hS1))
  have hx5 : Xt (pl G A L P) A (pl (sI G1 (A1 0 2) 4 (-1)) A1 L1 P1) A1 := Xt_sI (rfl : sI G1 (A1 0 2) 4 (-1) = sI G1 (A1 0 2) 4 (-1)) hx1
  refine wpM.mono (h (sI G1 (A1 0 2) 4 (-1)) A1 ⟨L1, P1, rfl, hS5⟩) (fun rr6 G6 hr => ?_)
  obtain ⟨A6, W6, w6, ⟨L6, P6, rfl, hS6⟩, hy6, rfl, rfl, h⟩ := hr
  refine ⟨rfl, ?_⟩
  have hx6 := Xt.trans hx5 hy6
  have hg7 : BS L6 b1 c1 := BS.up hy6 hg2
  have ee8 : A6 0 2 = A1 0 2 := hy6.2 _ _ hS5.1.1 (((n0_2 hS6)).trans ((n0_2 hS5)).symm)
  try rw [← ee8]
  have ee9 : A6 b1 c1 = A1 b1 c1 := hy6.2 _ _ hg2.1 (((BS.n hg7 hS6)).trans ((BS.n hg2 hS5)).symm)
  try rw [← ee9]
  exact qx_v hS6 hx6 h
theorem w_X10_afterBlanks_0 {E : EE} {d : Nat} {V : VH} {K : Int32 → VH → Prop} {b0 c0 : Nat} {x1 : Int32} (hB0 : BS (vL V) b0 c0) (h : vwp E d M_X10_afterBlanks 4 [some (sl b0 c0), some (wi x1), some (wi 0), some (wi x1), none] [] V (zi K)) : vMI E d M_X10_afterBlanks [sl b0 c0, wi x1] V K := by
  intro G A hR
  obtain ⟨L, P, rfl, hS⟩ := hR
  have hx := Xt.refl (V := pl G A L P) (A := A)
  show wpM E d M_X10_afterBlanks [vr (A b0 c0), vi x1] G _
  refine wpM_of mk_X10_afterBlanks (Nat.le_of_ble_eq_true rfl) ?_
  refine v_X10_afterBlanks_0 ?_
  exact wp.mono (h G A ⟨L, P, rfl, hS⟩) (fun r G' q => qx_trans hx q)
theorem w_X10_afterBlanks_4 {E : EE} {d : Nat} {V : VH} {K : Int32 → VH → Prop} {b0 c0 : Nat} {x1 : Int32} {x2 : Int32} {x3 : Int32} (hB0 : BS (vL V) b0 c0) (h0 : 0 < d) (h : ((vI V b0 c0 1) ≤ x3 → K (vI V b0 c0 1) V) ∧ (¬ ((vI V b0 c0 1) ≤ x3) → vMI E (d - 1) M_X0_at [sl b0 c0, wi x3] V (fun r1 V1 => (¬ r1 = 10 → (¬ r1 = 37 → (¬ x2 = 0 → vwp E d M_X10_afterBlanks 70 [some (sl b0 c0), some (wi x1), some (wi x2), some (wi x3), some (wi r1)] [] V1 (zi K)) ∧ (x2 = 0 → (r1 = 32 → vwp E d M_X10_afterBlanks 70 [some (sl b0 c0), some (wi x1), some (wi x2), some (wi x3), some (wi r1)] [] V1 (zi K)) ∧ (¬ (r1 = 32) → (r1 = 9 → vwp E d M_X10_afterBlanks 70 [some (sl b0 c0), some (wi x1), some (wi x2), some (wi x3), some (wi r1)] [] V1 (zi K)) ∧ (¬ (r1 = 9) → (r1 = 13 → vwp E d M_X10_afterBlanks 70 [some (sl b0 c0), some (wi x1), some (wi x2), some (wi x3), some (wi r1)] [] V1 (zi K)) ∧ (¬ (r1 = 13) → K x3 V1))))) ∧ (r1 = 37 → vwp E d M_X10_afterBlanks 70 [some (sl b0 c0), some (wi x1), some (wi 1), some (wi x3), some (wi r1)] [] V1 (zi K))) ∧ (r1 = 10 → vwp E d M_X10_afterBlanks 70 [some (sl b0 c0), some (wi x1), some (wi 0), some (wi x3), some (wi r1)] [] V1 (zi K))))) : vwp E d M_X10_afterBlanks 4 [some (sl b0 c0), some (wi x1), some (wi x2), some (wi x3), none] [] V (zi K) := by
  intro G A hR
  obtain ⟨L, P, rfl, hS⟩ := hR
  have hx := Xt.refl (V := pl G A L P) (A := A)
  show wp E d M_X10_afterBlanks 4 [some (vr (A b0 c0)), some (vi x1), some (vi x2), some (vi x3), none] [] G _
  refine v_X10_afterBlanks_4 h0 ?_
  refine ⟨hS.o (BS.o hB0), ?_⟩
  refine ⟨fun hc => ?_, fun hc => ?_⟩
  · have h := h.1 hc
    exact qx_i hS hx h
  · have h := h.2 hc
    refine wpM.mono (h G A ⟨L, P, rfl, hS⟩) (fun rr1 G1 hr => ?_)
    obtain ⟨A1, W1, w1, ⟨L1, P1, rfl, hS1⟩, hy1, rfl, r1, rfl, h⟩ := hr
    refine ⟨r1, rfl, ?_⟩
    have hx1 := Xt.trans hx hy1
    have hg2 : BS L1 b0 c0 := BS.up hy1 hB0
    have ee3 : A1 b0 c0 = A b0 c0 := hy1.2 _ _ hB0.1 (((BS.n hg2 hS1)).trans ((BS.n hB0 hS)).symm)
    try rw [← ee3]
    refine ⟨fun hc => ?_, fun hc => ?_⟩
    · have h := h.1 hc
      refine ⟨fun hc => ?_, fun hc => ?_⟩
      · have h := h.1 hc
        refine ⟨fun hc => ?_, fun hc => ?_⟩
        · have h := h.1 hc
          exact wp.mono (h G1 A1 ⟨L1, P1, rfl, hS1⟩) (fun r G' q => qx_trans hx1 q)
        · have h := h.2 hc
          refine ⟨fun hc => ?_, fun hc => ?_⟩
          · have h := h.1 hc
            exact wp.mono (h G1 A1 ⟨L1, P1, rfl, hS1⟩) (fun r G' q => qx_trans hx1 q)
          · have h := h.2 hc
            refine ⟨fun hc => ?_, fun hc => ?_⟩
            · have h := h.1 hc
              exact wp.mono (h G1 A1 ⟨L1, P1, rfl, hS1⟩) (fun r G' q => qx_trans hx1 q)
            · have h := h.2 hc
              refine ⟨fun hc => ?_, fun hc => ?_⟩
              · have h := h.1 hc
                exact wp.mono (h G1 A1 ⟨L1, P1, rfl, hS1⟩) (fun r G' q => qx_trans hx1 q)
              · have h := h.2 hc
                exact qx_i hS1 hx1 h
      · have h := h.2 hc
        exact wp.mono (h G1 A1 ⟨L1, P1, rfl, hS1⟩) (fun r G' q => qx_trans hx1 q)
    · have h := h.2 hc
      exact wp.mono (h G1 A1 ⟨L1, P1, rfl, hS1⟩) (fun r G' q => qx_trans hx1 q)
theorem w_X10_write_80 {E : EE} {d : Nat} {V : VH} {K : Int32 → VH → Prop} {x1 : Int32} {x2 : Int64} {x4 : Int32} {x5 : Int32}  (h : vp_in (vI V 0 2 5) (vN V 0 3) ∧ (∀ V2 : VH, V2 = wrI V 0 3 (Int32.toNatClampNeg (vI V 0 2 5)) x1 → vp_in (vI V2 0 2 5) (vN V2 0 4) ∧ (∀ V4 : VH, V4 = wrJ V2 0 4 (Int32.toNatClampNeg (vI V2 0 2 5)) x2 → vp_in (vI V4 0 2 5) (vN V4 0 5) ∧ (∀ V6 : VH, V6 = wrI V4 0 5 (Int32.toNatClampNeg (vI V4 0 2 5)) x4 → vp_in (vI V6 0 2 5) (vN V6 0 6) ∧ (∀ V8 : VH, V8 = wrI V6 0 6 (Int32.toNatClampNeg (vI V6 0 2 5)) x5 → K x5 V8))))) : vwp E d M_X10_write 80 [some (sl 0 2), some (wi x1), some (wj x2), none, some (wi x4), some (wi x5)] [] V (zi K) := by
  intro G A hR
  obtain ⟨L, P, rfl, hS⟩ := hR
  have hx := Xt.refl (V := pl G A L P) (A := A)
  show wp E d M_X10_write 80 [some (vr (A 0 2)), some (vi x1), some (vj x2), none, some (vi x4), some (vi x5)] [] G _
  refine v_X10_write_80 ?_
  refine ⟨hS.o (s0_2 hS), ?_⟩
  rw [l0_2_0 hS]
  refine ⟨hS.o (s0_3 hS), ?_⟩
  obtain ⟨hi1, h⟩ := h
  refine ⟨hi1, ?_⟩
  intro G2 eG2
  have hS2 : Sh E G2 A L P := Sh_sI eG2 hS (s0_3 hS) (okT_0 rfl)
  have h := h (pl G2 A L P) (pl_sI eG2 hS (s0_3 hS))
  have hx2 : Xt (pl G A L P) A (pl G2 A L P) A := Xt_sI eG2 hx
  rw [l0_2_1 hS2]
  refine ⟨hS2.o (s0_4 hS2), ?_⟩
  obtain ⟨hi3, h⟩ := h
  refine ⟨hi3, ?_⟩
  intro G4 eG4
  have hS4 : Sh E G4 A L P := Sh_sJ eG4 hS2
  have h := h (pl G4 A L P) (pl_sJ eG4 hS2 (s0_4 hS2))
  have hx4 : Xt (pl G A L P) A (pl G4 A L P) A := Xt_sJ eG4 hx2
  rw [l0_2_2 hS4]
  refine ⟨hS4.o (s0_5 hS4), ?_⟩
  obtain ⟨hi5, h⟩ := h
  refine ⟨hi5, ?_⟩
  intro G6 eG6
  have hS6 : Sh E G6 A L P := Sh_sI eG6 hS4 (s0_5 hS4) (okT_0 rfl)
  have h := h (pl G6 A L P) (pl_sI eG6 hS4 (s0_5 hS4))
  have hx6 : Xt (pl G A L P) A (pl G6 A L P) A := Xt_sI eG6 hx4
  rw [l0_2_3 hS6]
  refine ⟨hS6.o (s0_6 hS6), ?_⟩
  obtain ⟨hi7, h⟩ := h
  refine ⟨hi7, ?_⟩
  intro G8 eG8
  have hS8 : Sh E G8 A L P := Sh_sI eG8 hS6 (s0_6 hS6) (okT_0 rfl)
  have h := h (pl G8 A L P) (pl_sI eG8 hS6 (s0_6 hS6))
  have hx8 : Xt (pl G A L P) A (pl G8 A L P) A := Xt_sI eG8 hx6
  exact qx_i hS8 hx8 h
theorem w_X10_step_0 {E : EE} {d : Nat} {V : VH} {K : VH → Prop}   (h : ((vI V 0 2 5) ≤ (vI V 0 2 4) → vwp E d M_X10_step 21 [some (sl 0 2)] [] V (zv K)) ∧ (¬ ((vI V 0 2 5) ≤ (vI V 0 2 4)) → ∀ V1 : VH, V1 = wrI V 0 2 4 ((vI V 0 2 4) + 1) → vwp E d M_X10_step 21 [some (sl 0 2)] [] V1 (zv K))) : vMV E d M_X10_step [sl 0 2] V K := by
  intro G A hR
  obtain ⟨L, P, rfl, hS⟩ := hR
  have hx := Xt.refl (V := pl G A L P) (A := A)
  show wpM E d M_X10_step [vr (A 0 2)] G _
  refine wpM_of mk_X10_step (Nat.le_of_ble_eq_true rfl) ?_
  refine v_X10_step_0 ?_
  refine ⟨hS.o (s0_2 hS), ?_⟩
  refine ⟨fun hc => ?_, fun hc => ?_⟩
  · have h := h.1 hc
    exact wp.mono (h G A ⟨L, P, rfl, hS⟩) (fun r G' q => qx_trans hx q)
  · have h := h.2 hc
    have hS1 : Sh E (sI G (A 0 2) 4 ((gI G (A 0 2) 4) + 1)) A L P := Sh_sI (rfl : sI G (A 0 2) 4 ((gI G (A 0 2) 4) + 1) = sI G (A 0 2) 4 ((gI G (A 0 2) 4) + 1)) hS (s0_2 hS) (okT_0 rfl)
    have h := h (pl (sI G (A 0 2) 4 ((gI G (A 0 2) 4) + 1)) A L P) (pl_sI (rfl : sI G (A 0 2) 4 ((gI G (A 0 2) 4) + 1) = sI G (A 0 2) 4 ((gI G (A 0 2) 4) + 1)) hS (s0_2 hS))
    have hx1 : Xt (pl G A L P) A (pl (sI G (A 0 2) 4 ((gI G (A 0 2) 4) + 1)) A L P) A := Xt_sI (rfl : sI G (A 0 2) 4 ((gI G (A 0 2) 4) + 1) = sI G (A 0 2) 4 ((gI G (A 0 2) 4) + 1)) hx
    exact wp.mono (h (sI G (A 0 2) 4 ((gI G (A 0 2) 4) + 1)) A ⟨L, P, rfl, hS1⟩) (fun r G' q => qx_trans hx1 q)
theorem w_X10_step_21 {E : EE} {d : Nat} {V : VH} {K : VH → Prop}   (h : ((vI V 0 2 4) < 0 → K V) ∧ (¬ ((vI V 0 2 4) < 0) → ((vI V 0 2 4) < (nI (vN V 0 3)) → vp_in (vI V 0 2 4) (vN V 0 3) ∧ (∀ V2 : VH, V2 = wrI V 0 2 6 (vI V 0 3 (Int32.toNatClampNeg (vI V 0 2 4))) → vp_in (vI V2 0 2 4) (vN V2 0 4) ∧ (∀ V4 : VH, V4 = wrJ V2 0 2 7 (vJ V2 0 4 (Int32.toNatClampNeg (vI V2 0 2 4))) → vp_in (vI V4 0 2 4) (vN V4 0 5) ∧ (∀ V6 : VH, V6 = wrI V4 0 2 8 (vI V4 0 5 (Int32.toNatClampNeg (vI V4 0 2 4))) → vp_in (vI V6 0 2 4) (vN V6 0 6) ∧ (∀ V8 : VH, V8 = wrI V6 0 2 9 (vI V6 0 6 (Int32.toNatClampNeg (vI V6 0 2 4))) → K V8))))) ∧ (¬ ((vI V 0 2 4) < (nI (vN V 0 3))) → K V))) : vwp E d M_X10_step 21 [some (sl 0 2)] [] V (zv K) := by
  intro G A hR
  obtain ⟨L, P, rfl, hS⟩ := hR
  have hx := Xt.refl (V := pl G A L P) (A := A)
  show wp E d M_X10_step 21 [some (vr (A 0 2))] [] G _
  refine v_X10_step_21 ?_
  refine ⟨hS.o (s0_2 hS), ?_⟩
  refine ⟨fun hc => ?_, fun hc => ?_⟩
  · have h := h.1 hc
    exact qx_v hS hx h
  · have h := h.2 hc
    rw [l0_2_0 hS]
    refine ⟨hS.o (s0_3 hS), ?_⟩
    refine ⟨fun hc => ?_, fun hc => ?_⟩
    · have h := h.1 hc
      obtain ⟨hi1, h⟩ := h
      refine ⟨hi1, ?_⟩
      intro G2 eG2
      have hS2 : Sh E G2 A L P := Sh_sI eG2 hS (s0_2 hS) (okT_0 rfl)
      have h := h (pl G2 A L P) (pl_sI eG2 hS (s0_2 hS))
      have hx2 : Xt (pl G A L P) A (pl G2 A L P) A := Xt_sI eG2 hx
      rw [l0_2_1 hS2]
      refine ⟨hS2.o (s0_4 hS2), ?_⟩
      obtain ⟨hi3, h⟩ := h
      refine ⟨hi3, ?_⟩
      intro G4 eG4
      have hS4 : Sh E G4 A L P := Sh_sJ eG4 hS2
      have h := h (pl G4 A L P) (pl_sJ eG4 hS2 (s0_2 hS2))
      have hx4 : Xt (pl G A L P) A (pl G4 A L P) A := Xt_sJ eG4 hx2
      rw [l0_2_2 hS4]
      refine ⟨hS4.o (s0_5 hS4), ?_⟩
      obtain ⟨hi5, h⟩ := h
      refine ⟨hi5, ?_⟩
      intro G6 eG6
      have hS6 : Sh E G6 A L P := Sh_sI eG6 hS4 (s0_2 hS4) (okT_0 rfl)
      have h := h (pl G6 A L P) (pl_sI eG6 hS4 (s0_2 hS4))
      have hx6 : Xt (pl G A L P) A (pl G6 A L P) A := Xt_sI eG6 hx4
      rw [l0_2_3 hS6]
      refine ⟨hS6.o (s0_6 hS6), ?_⟩
      obtain ⟨hi7, h⟩ := h
      refine ⟨hi7, ?_⟩
      intro G8 eG8
      have hS8 : Sh E G8 A L P := Sh_sI eG8 hS6 (s0_2 hS6) (okT_0 rfl)
      have h := h (pl G8 A L P) (pl_sI eG8 hS6 (s0_2 hS6))
      have hx8 : Xt (pl G A L P) A (pl G8 A L P) A := Xt_sI eG8 hx6
      exact qx_v hS8 hx8 h
    · have h := h.2 hc
      exact qx_v hS hx h
theorem w_X10_is_0 {E : EE} {d : Nat} {V : VH} {K : Int32 → VH → Prop} {x1 : Int32}  (h : (¬ (vI V 0 2 6) = 4 → K 0 V) ∧ ((vI V 0 2 6) = 4 → (¬ (vJ V 0 2 7) = (Int32.toInt64 x1) → K 0 V) ∧ ((vJ V 0 2 7) = (Int32.toInt64 x1) → K 1 V))) : vMI E d M_X10_is [sl 0 2, wi x1] V K := by
  intro G A hR
  obtain ⟨L, P, rfl, hS⟩ := hR
  have hx := Xt.refl (V := pl G A L P) (A := A)
  show wpM E d M_X10_is [vr (A 0 2), vi x1] G _
  refine wpM_of mk_X10_is (Nat.le_of_ble_eq_true rfl) ?_
  refine v_X10_is_0 ?_
  refine ⟨hS.o (s0_2 hS), ?_⟩
  refine ⟨fun hc => ?_, fun hc => ?_⟩
  · have h := h.1 hc
    exact qx_i hS hx h
  · have h := h.2 hc
    refine ⟨fun hc => ?_, fun hc => ?_⟩
    · have h := h.1 hc
      exact qx_i hS hx h
    · have h := h.2 hc
      exact qx_i hS hx h
theorem w_X10_refuse_0 {E : EE} {d : Nat} {V : VH} {K : Int32 → VH → Prop}   (h : (¬ (vI V 0 2 6) = 1 → vwp E d M_X10_refuse 14 [some (sl 0 2)] [wi 2, sl 0 2] V (zi K)) ∧ ((vI V 0 2 6) = 1 → vwp E d M_X10_refuse 14 [some (sl 0 2)] [wi 1, sl 0 2] V (zi K))) : vMI E d M_X10_refuse [sl 0 2] V K := by
  intro G A hR
  obtain ⟨L, P, rfl, hS⟩ := hR
  have hx := Xt.refl (V := pl G A L P) (A := A)
  show wpM E d M_X10_refuse [vr (A 0 2)] G _
  refine wpM_of mk_X10_refuse (Nat.le_of_ble_eq_true rfl) ?_
  refine v_X10_refuse_0 ?_
  refine ⟨hS.o (s0_2 hS), ?_⟩
  refine ⟨fun hc => ?_, fun hc => ?_⟩
  · have h := h.1 hc
    exact wp.mono (h G A ⟨L, P, rfl, hS⟩) (fun r G' q => qx_trans hx q)
  · have h := h.2 hc
    exact wp.mono (h G A ⟨L, P, rfl, hS⟩) (fun r G' q => qx_trans hx q)
theorem w_X10_refuse_14 {E : EE} {d : Nat} {V : VH} {K : Int32 → VH → Prop} {t1 : Int32}  (h : ∀ V1 : VH, V1 = wrI V 0 2 10 t1 → ∀ V2 : VH, V2 = wrI V1 0 2 11 (vI V1 0 2 8) → K 0 V2) : vwp E d M_X10_refuse 14 [some (sl 0 2)] [wi t1, sl 0 2] V (zi K) := by
  intro G A hR
  obtain ⟨L, P, rfl, hS⟩ := hR
  have hx := Xt.refl (V := pl G A L P) (A := A)
  show wp E d M_X10_refuse 14 [some (vr (A 0 2))] [vi t1, vr (A 0 2)] G _
  refine v_X10_refuse_14 ?_
  refine ⟨hS.o (s0_2 hS), ?_⟩
  intro G1 eG1
  have hS1 : Sh E G1 A L P := Sh_sI eG1 hS (s0_2 hS) (okT_0 rfl)
  have h := h (pl G1 A L P) (pl_sI eG1 hS (s0_2 hS))
  have hx1 : Xt (pl G A L P) A (pl G1 A L P) A := Xt_sI eG1 hx
  refine ⟨hS1.o (s0_2 hS1), ?_⟩
  intro G2 eG2
  have hS2 : Sh E G2 A L P := Sh_sI eG2 hS1 (s0_2 hS1) (okT_0 rfl)
  have h := h (pl G2 A L P) (pl_sI eG2 hS1 (s0_2 hS1))
  have hx2 : Xt (pl G A L P) A (pl G2 A L P) A := Xt_sI eG2 hx1
  exact qx_i hS2 hx2 h
theorem w_X7_clear_0 {E : EE} {d : Nat} {V : VH} {K : VH → Prop} {g : Nat} (hg : PG (vL V) g) (h : ∀ V1 : VH, V1 = wrI V g 5 0 0 → ∀ V2 : VH, V2 = wrI V1 g 5 1 1 → K V2) : vMV E d M_X7_clear [sl g 5] V K := by
  intro G A hR
  obtain ⟨L, P, rfl, hS⟩ := hR
  have hx := Xt.refl (V := pl G A L P) (A := A)
  show wpM E d M_X7_clear [vr (A g 5)] G _
  refine wpM_of mk_X7_clear (Nat.le_of_ble_eq_true rfl) ?_
  refine v_X7_clear_0 ?_
  refine ⟨hS.o (sP_5 hg), ?_⟩
  intro G1 eG1
  have hS1 : Sh E G1 A L P := Sh_sI eG1 hS (sP_5 hg) (okT_0 rfl)
  have h := h (pl G1 A L P) (pl_sI eG1 hS (sP_5 hg))
  have hx1 : Xt (pl G A L P) A (pl G1 A L P) A := Xt_sI eG1 hx
  intro G2 eG2
  have hS2 : Sh E G2 A L P := Sh_sI eG2 hS1 (sP_5 hg) (okT_0 rfl)
  have h := h (pl G2 A L P) (pl_sI eG2 hS1 (sP_5 hg))
  have hx2 : Xt (pl G A L P) A (pl G2 A L P) A := Xt_sI eG2 hx1
  exact qx_v hS2 hx2 h
theorem w_X2_clear_0 {E : EE} {d : Nat} {V : VH} {K : VH → Prop} {g : Nat} (hg : PG (vL V) g) (h : ∀ V1 : VH, V1 = wrI V g 9 0 0 → ∀ V2 : VH, V2 = wrI V1 g 9 1 0 → ∀ V3 : VH, V3 = wrI V2 g 9 2 0 → ∀ V4 : VH, V4 = wrI V3 g 9 3 0 → ∀ V5 : VH, V5 = wrI V4 g 9 10 0 → K V5) : vMV E d M_X2_clear [sl g 9] V K := by
  intro G A hR
  obtain ⟨L, P, rfl, hS⟩ := hR
  have hx := Xt.refl (V := pl G A L P) (A := A)
  show wpM E d M_X2_clear [vr (A g 9)] G _
  refine wpM_of mk_X2_clear (Nat.le_of_ble_eq_true rfl) ?_
  refine v_X2_clear_0 ?_
  refine ⟨hS.o (sP_9 hg), ?_⟩
  intro G1 eG1
  have hS1 : Sh E G1 A L P := Sh_sI eG1 hS (sP_9 hg) (okT_0 rfl)
  have h := h (pl G1 A L P) (pl_sI eG1 hS (sP_9 hg))
  have hx1 : Xt (pl G A L P) A (pl G1 A L P) A := Xt_sI eG1 hx
  intro G2 eG2
  have hS2 : Sh E G2 A L P := Sh_sI eG2 hS1 (sP_9 hg) (okT_0 rfl)
  have h := h (pl G2 A L P) (pl_sI eG2 hS1 (sP_9 hg))
  have hx2 : Xt (pl G A L P) A (pl G2 A L P) A := Xt_sI eG2 hx1
  intro G3 eG3
  have hS3 : Sh E G3 A L P := Sh_sI eG3 hS2 (sP_9 hg) (okT_0 rfl)
  have h := h (pl G3 A L P) (pl_sI eG3 hS2 (sP_9 hg))
  have hx3 : Xt (pl G A L P) A (pl G3 A L P) A := Xt_sI eG3 hx2
  intro G4 eG4
  have hS4 : Sh E G4 A L P := Sh_sI eG4 hS3 (sP_9 hg) (okT_0 rfl)
  have h := h (pl G4 A L P) (pl_sI eG4 hS3 (sP_9 hg))
  have hx4 : Xt (pl G A L P) A (pl G4 A L P) A := Xt_sI eG4 hx3
  intro G5 eG5
  have hS5 : Sh E G5 A L P := Sh_sI eG5 hS4 (sP_9 hg) (okT_0 rfl)
  have h := h (pl G5 A L P) (pl_sI eG5 hS4 (sP_9 hg))
  have hx5 : Xt (pl G A L P) A (pl G5 A L P) A := Xt_sI eG5 hx4
  exact qx_v hS5 hx5 h
theorem w_X3_clear_0 {E : EE} {d : Nat} {V : VH} {K : VH → Prop} {g : Nat} (hg : PG (vL V) g) (h0 : 0 < d) (h : ∀ V1 : VH, V1 = wrI V g 0 0 0 → vMV E (d - 1) M_J7_fill_53178 [sl g 4, wi 0] V1 (fun V2 => vMV E (d - 1) M_X7_clear [sl g 5] V2 (fun V5 => vMV E (d - 1) M_X2_clear [sl g 9] V5 (fun V8 => ∀ V11 : VH, V11 = wrI V8 g 19 0 0 → ∀ V12 : VH, V12 = wrI V11 g 0 8 0 → ∀ V13 : VH, V13 = wrI V12 g 0 9 0 → vMV E (d - 1) M_J7_fill_53178 [sl g 24, wi 1] V13 (fun V14 => ∀ V17 : VH, V17 = wrI V14 g 0 11 0 → K V17))))) : vMV E d M_X3_clear [sl g 0] V K := by
  intro G A hR
  obtain ⟨L, P, rfl, hS⟩ := hR
  have hx := Xt.refl (V := pl G A L P) (A := A)
  show wpM E d M_X3_clear [vr (A g 0)] G _
  refine wpM_of mk_X3_clear (Nat.le_of_ble_eq_true rfl) ?_
  refine v_X3_clear_0 h0 ?_
  refine ⟨hS.o (sP_0 hg), ?_⟩
  intro G1 eG1
  have hS1 : Sh E G1 A L P := Sh_sI eG1 hS (sP_0 hg) (okT_2 rfl (Or.inl rfl))
  have h := h (pl G1 A L P) (pl_sI eG1 hS (sP_0 hg))
  have hx1 : Xt (pl G A L P) A (pl G1 A L P) A := Xt_sI eG1 hx
  rw [lP_0_3 hS1 hg]
  refine wpM.mono (h G1 A ⟨L, P, rfl, hS1⟩) (fun rr2 G2 hr => ?_)
  obtain ⟨A2, W2, w2, ⟨L2, P2, rfl, hS2⟩, hy2, rfl, rfl, h⟩ := hr
  refine ⟨rfl, ?_⟩
  have hx2 := Xt.trans hx1 hy2
  have hg3 : PG L2 g := PG.up hy2 hg
  have ee4 : A2 g 0 = A g 0 := hy2.2 _ _ hg.1 (((nP_0 hS2 hg3)).trans ((nP_0 hS1 hg)).symm)
  try rw [← ee4]
  refine ⟨hS2.o (sP_0 hg3), ?_⟩
  rw [lP_0_4 hS2 hg3]
  refine ⟨hS2.o (sP_5 hg3), ?_⟩
  refine wpM.mono (h G2 A2 ⟨L2, P2, rfl, hS2⟩) (fun rr5 G5 hr => ?_)
  obtain ⟨A5, W5, w5, ⟨L5, P5, rfl, hS5⟩, hy5, rfl, rfl, h⟩ := hr
  refine ⟨rfl, ?_⟩
  have hx5 := Xt.trans hx2 hy5
  have hg6 : PG L5 g := PG.up hy5 hg3
  have ee7 : A5 g 0 = A2 g 0 := hy5.2 _ _ hg3.1 (((nP_0 hS5 hg6)).trans ((nP_0 hS2 hg3)).symm)
  try rw [← ee7]
  refine ⟨hS5.o (sP_0 hg6), ?_⟩
  rw [lP_0_5 hS5 hg6]
  refine ⟨hS5.o (sP_9 hg6), ?_⟩
  refine wpM.mono (h G5 A5 ⟨L5, P5, rfl, hS5⟩) (fun rr8 G8 hr => ?_)
  obtain ⟨A8, W8, w8, ⟨L8, P8, rfl, hS8⟩, hy8, rfl, rfl, h⟩ := hr
  refine ⟨rfl, ?_⟩
  have hx8 := Xt.trans hx5 hy8
  have hg9 : PG L8 g := PG.up hy8 hg6
  have ee10 : A8 g 0 = A5 g 0 := hy8.2 _ _ hg6.1 (((nP_0 hS8 hg9)).trans ((nP_0 hS5 hg6)).symm)
  try rw [← ee10]
  refine ⟨hS8.o (sP_0 hg9), ?_⟩
  rw [lP_0_6 hS8 hg9]
  refine ⟨hS8.o (sP_19 hg9), ?_⟩
  intro G11 eG11
  have hS11 : Sh E G11 A8 L8 P8 := Sh_sI eG11 hS8 (sP_19 hg9) (okT_2 rfl (Or.inl rfl))
  have h := h (pl G11 A8 L8 P8) (pl_sI eG11 hS8 (sP_19 hg9))
  have hx11 : Xt (pl G A L P) A (pl G11 A8 L8 P8) A8 := Xt_sI eG11 hx8
  intro G12 eG12
  have hS12 : Sh E G12 A8 L8 P8 := Sh_sI eG12 hS11 (sP_0 hg9) (okT_0 rfl)
  have h := h (pl G12 A8 L8 P8) (pl_sI eG12 hS11 (sP_0 hg9))
  have hx12 : Xt (pl G A L P) A (pl G12 A8 L8 P8) A8 := Xt_sI eG12 hx11
  intro G13 eG13
  have hS13 : Sh E G13 A8 L8 P8 := Sh_sI eG13 hS12 (sP_0 hg9) (okT_0 rfl)
  have h := h (pl G13 A8 L8 P8) (pl_sI eG13 hS12 (sP_0 hg9))
  have hx13 : Xt (pl G A L P) A (pl G13 A8 L8 P8) A8 := Xt_sI eG13 hx12
  rw [lP_0_10 hS13 hg9]
  refine wpM.mono (h G13 A8 ⟨L8, P8, rfl, hS13⟩) (fun rr14 G14 hr => ?_)
  obtain ⟨A14, W14, w14, ⟨L14, P14, rfl, hS14⟩, hy14, rfl, rfl, h⟩ := hr
  refine ⟨rfl, ?_⟩
  have hx14 := Xt.trans hx13 hy14
  have hg15 : PG L14 g := PG.up hy14 hg9
  have ee16 : A14 g 0 = A8 g 0 := hy14.2 _ _ hg9.1 (((nP_0 hS14 hg15)).trans ((nP_0 hS13 hg9)).symm)
  try rw [← ee16]
  refine ⟨hS14.o (sP_0 hg15), ?_⟩
  intro G17 eG17
  have hS17 : Sh E G17 A14 L14 P14 := Sh_sI eG17 hS14 (sP_0 hg15) (okT_0 rfl)
  have h := h (pl G17 A14 L14 P14) (pl_sI eG17 hS14 (sP_0 hg15))
  have hx17 : Xt (pl G A L P) A (pl G17 A14 L14 P14) A14 := Xt_sI eG17 hx14
  exact qx_v hS17 hx17 h
