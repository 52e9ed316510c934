/-! regions over the view (by program): J7_fill_53178 J7_fill_d0a16 X0_sum X0_at X0_number X0_become X0_addAll X0_keep X0_addNumber X0_add X0_exchange X10_scan X10_afterBlanks X10_write X10_step X10_isLetter X10_readName X10_isFigure X10_readNumber X10_readSign X10_fail X10_is X10_refuse X10_accept X7_clear X7_add X7_placeOfValue X7_moved X7_placeOf X7_valueOf X7_lowest X7_following X7_isVar X7_agreeing X9_renew X9_beatsHand X9_gather X9_setOf X9_isBetter X9_scoreOf X9_keepValue X9_keepBest X9_gatherFor X9_walkFront X9_sortByPair X9_sink X9_isBehind X9_isSamePair X9_differentValues X2_clear X2_begin X2_emit X2_note X2_amend X2_finish X2_describe X2_weighAll X2_look X2_run X2_leaf X2_push X2_pop X2_ofOne X2_held X2_picked X2_noteAt X2_ofTwo X2_ofMany X2_overlaps X2_valueAt X2_overload X2_astray X2_offRound X2_outOfOrder X2_offRows X2_repeated X2_isPart X3_clear X3_lookUp X3_tell X3_letters X3_moveTo X3_regretIn X3_factsIn X3_sumOverFutures -/
theorem w_J7_fill_53178_0 {E : EE} {d : Nat} {V : VH} {K : VH → Prop} {a0 f0 : Nat} {x1 : Int32} (hA0 : SL (vL V) a0 f0 14) (h : vwp E d M_J7_fill_53178 5 [some (sl a0 f0), some (wi x1), some (wi 0), some (wi (nI (vN V a0 f0)))] [] V (zv K)) : vMV E d M_J7_fill_53178 [sl a0 f0, wi x1] V K := by
  intro G A hR
  obtain ⟨L, P, rfl, hS⟩ := hR
  have hx := Xt.refl (V := pl G A L P) (A := A)
  show wpM E d M_J7_fill_53178 [vr (A a0 f0), vi x1] G _
  refine wpM_of mk_J7_fill_53178 (Nat.le_of_ble_eq_true rfl) ?_
  refine v_J7_fill_53178_0 ?_
  refine ⟨hS.o hA0, ?_⟩
  exact wp.mono (h G A ⟨L, P, rfl, hS⟩) (fun r G' q => qx_trans hx q)
theorem w_J7_fill_53178_5 {E : EE} {d : Nat} {V : VH} {K : VH → Prop} {a0 f0 : Nat} {x1 : Int32} {x2 : Int32} {x3 : Int32} (hA0 : SL (vL V) a0 f0 14) (h : (x3 ≤ x2 → K V) ∧ (¬ (x3 ≤ x2) → vp_in x2 (vN V a0 f0) ∧ (∀ V2 : VH, V2 = wrI V a0 f0 (Int32.toNatClampNeg x2) x1 → vwp E d M_J7_fill_53178 5 [some (sl a0 f0), some (wi x1), some (wi (x2 + 1)), some (wi x3)] [] V2 (zv K)))) : vwp E d M_J7_fill_53178 5 [some (sl a0 f0), some (wi x1), some (wi x2), some (wi x3)] [] V (zv K) := by
  intro G A hR
  obtain ⟨L, P, rfl, hS⟩ := hR
  have hx := Xt.refl (V := pl G A L P) (A := A)
  show wp E d M_J7_fill_53178 5 [some (vr (A a0 f0)), some (vi x1), some (vi x2), some (vi x3)] [] G _
  refine v_J7_fill_53178_5 ?_
  refine ⟨fun hc => ?_, fun hc => ?_⟩
  · have h := h.1 hc
    exact qx_v hS hx h
  · have h := h.2 hc
    refine ⟨hS.o hA0, ?_⟩
    obtain ⟨hi1, h⟩ := h
    refine ⟨hi1, ?_⟩
    have hS2 : Sh E (sI G (A a0 f0) (Int32.toNatClampNeg x2) x1) A L P := Sh_sI (rfl : sI G (A a0 f0) (Int32.toNatClampNeg x2) x1 = sI G (A a0 f0) (Int32.toNatClampNeg x2) x1) hS hA0 (okT_0 rfl)
    have h := h (pl (sI G (A a0 f0) (Int32.toNatClampNeg x2) x1) A L P) (pl_sI (rfl : sI G (A a0 f0) (Int32.toNatClampNeg x2) x1 = sI G (A a0 f0) (Int32.toNatClampNeg x2) x1) hS hA0)
    have hx2 : Xt (pl G A L P) A (pl (sI G (A a0 f0) (Int32.toNatClampNeg x2) x1) A L P) A := Xt_sI (rfl : sI G (A a0 f0) (Int32.toNatClampNeg x2) x1 = sI G (A a0 f0) (Int32.toNatClampNeg x2) x1) hx
    exact wp.mono (h (sI G (A a0 f0) (Int32.toNatClampNeg x2) x1) A ⟨L, P, rfl, hS2⟩) (fun r G' q => qx_trans hx2 q)
theorem w_J7_fill_d0a16_0 {E : EE} {d : Nat} {V : VH} {K : VH → Prop} {a0 f0 : Nat} {x1 : Int64} (hA0 : SL (vL V) a0 f0 15) (h : vwp E d M_J7_fill_d0a16 6 [some (sl a0 f0), some (wj x1), none, some (wi 0), some (wi (nI (vN V a0 f0)))] [] V (zv K)) : vMV E d M_J7_fill_d0a16 [sl a0 f0, wj x1] V K := by
  intro G A hR
  obtain ⟨L, P, rfl, hS⟩ := hR
  have hx := Xt.refl (V := pl G A L P) (A := A)
  show wpM E d M_J7_fill_d0a16 [vr (A a0 f0), vj x1] G _
  refine wpM_of mk_J7_fill_d0a16 (Nat.le_of_ble_eq_true rfl) ?_
  refine v_J7_fill_d0a16_0 ?_
  refine ⟨hS.o hA0, ?_⟩
  exact wp.mono (h G A ⟨L, P, rfl, hS⟩) (fun r G' q => qx_trans hx q)
theorem w_J7_fill_d0a16_6 {E : EE} {d : Nat} {V : VH} {K : VH → Prop} {a0 f0 : Nat} {x1 : Int64} {x3 : Int32} {x4 : Int32} (hA0 : SL (vL V) a0 f0 15) (h : (x4 ≤ x3 → K V) ∧ (¬ (x4 ≤ x3) → vp_in x3 (vN V a0 f0) ∧ (∀ V2 : VH, V2 = wrJ V a0 f0 (Int32.toNatClampNeg x3) x1 → vwp E d M_J7_fill_d0a16 6 [some (sl a0 f0), some (wj x1), none, some (wi (x3 + 1)), some (wi x4)] [] V2 (zv K)))) : vwp E d M_J7_fill_d0a16 6 [some (sl a0 f0), some (wj x1), none, some (wi x3), some (wi x4)] [] V (zv K) := by
  intro G A hR
  obtain ⟨L, P, rfl, hS⟩ := hR
  have hx := Xt.refl (V := pl G A L P) (A := A)
  show wp E d M_J7_fill_d0a16 6 [some (vr (A a0 f0)), some (vj x1), none, some (vi x3), some (vi x4)] [] G _
  refine v_J7_fill_d0a16_6 ?_
  refine ⟨fun hc => ?_, fun hc => ?_⟩
  · have h := h.1 hc
    exact qx_v hS hx h
  · have h := h.2 hc
    refine ⟨hS.o hA0, ?_⟩
    obtain ⟨hi1, h⟩ := h
    refine ⟨hi1, ?_⟩
    have hS2 : Sh E (sJ G (A a0 f0) (Int32.toNatClampNeg x3) x1) A L P := Sh_sJ (rfl : sJ G (A a0 f0) (Int32.toNatClampNeg x3) x1 = sJ G (A a0 f0) (Int32.toNatClampNeg x3) x1) hS
    have h := h (pl (sJ G (A a0 f0) (Int32.toNatClampNeg x3) x1) A L P) (pl_sJ (rfl : sJ G (A a0 f0) (Int32.toNatClampNeg x3) x1 = sJ G (A a0 f0) (Int32.toNatClampNeg x3) x1) hS hA0)
    have hx2 : Xt (pl G A L P) A (pl (sJ G (A a0 f0) (Int32.toNatClampNeg x3) x1) A L P) A := Xt_sJ (rfl : sJ G (A a0 f0) (Int32.toNatClampNeg x3) x1 = sJ G (A a0 f0) (Int32.toNatClampNeg x3) x1) hx
    exact wp.mono (h (sJ G (A a0 f0) (Int32.toNatClampNeg x3) x1) A ⟨L, P, rfl, hS2⟩) (fun r G' q => qx_trans hx2 q)
theorem w_X0_sum_0 {E : EE} {d : Nat} {V : VH} {K : Int64 → VH → Prop} {b0 c0 : Nat} {x1 : Int32} {x2 : Int32} (hB0 : BS (vL V) b0 c0) (h : vwp E d M_X0_sum 5 [some (sl b0 c0), some (wi x1), some (wi x2), some (wj 0), none, some (wi x1)] [] V (zj K)) : vMJ E d M_X0_sum [sl b0 c0, wi x1, wi x2] V K := by
  intro G A hR
  obtain ⟨L, P, rfl, hS⟩ := hR
  have hx := Xt.refl (V := pl G A L P) (A := A)
  show wpM E d M_X0_sum [vr (A b0 c0), vi x1, vi x2] G _
  refine wpM_of mk_X0_sum (Nat.le_of_ble_eq_true rfl) ?_
  refine v_X0_sum_0 ?_
  exact wp.mono (h G A ⟨L, P, rfl, hS⟩) (fun r G' q => qx_trans hx q)
theorem w_X0_sum_5 {E : EE} {d : Nat} {V : VH} {K : Int64 → VH → Prop} {b0 c0 : Nat} {x1 : Int32} {x2 : Int32} {x3 : Int64} {x5 : Int32} (hB0 : BS (vL V) b0 c0) (h0 : 0 < d) (h : (x2 ≤ x5 → K x3 V) ∧ (¬ (x2 ≤ x5) → vMI E (d - 1) M_X0_at [sl b0 c0, wi x5] V (fun r1 V1 => vwp E d M_X0_sum 5 [some (sl b0 c0), some (wi x1), some (wi x2), some (wj ((((x3 ^^^ (Int32.toInt64 (r1 &&& 255))) <<< (Int32.toInt64 53 &&& 63)) ||| (lushr (x3 ^^^ (Int32.toInt64 (r1 &&& 255))) 11)) * (-4417276706812531889))), none, some (wi (x5 + 1))] [] V1 (zj K)))) : vwp E d M_X0_sum 5 [some (sl b0 c0), some (wi x1), some (wi x2), some (wj x3), none, some (wi x5)] [] V (zj K) := by
  intro G A hR
  obtain ⟨L, P, rfl, hS⟩ := hR
  have hx := Xt.refl (V := pl G A L P) (A := A)
  show wp E d M_X0_sum 5 [some (vr (A b0 c0)), some (vi x1), some (vi x2), some (vj x3), none, some (vi x5)] [] G _
  refine v_X0_sum_5 h0 ?_
  refine ⟨fun hc => ?_, fun hc => ?_⟩
  · have h := h.1 hc
    exact qx_j hS hx h
  · have h := h.2 hc
    refine ⟨hS.o (BS.o hB0), ?_⟩
    refine wpM.mono (h G A ⟨L, P, rfl, hS⟩) (fun rr1 G1 hr => ?_)
    obtain ⟨A1, W1, w1, ⟨L1, P1, rfl, hS1⟩, hy1, rfl, r1, rfl, h⟩ := hr
    refine ⟨r1, rfl, ?_⟩
    have hx1 := Xt.trans hx hy1
    have hg2 : BS L1 b0 c0 := BS.up hy1 hB0
    have ee3 : A1 b0 c0 = A b0 c0 := hy1.2 _ _ hB0.1 (((BS.n hg2 hS1)).trans ((BS.n hB0 hS)).symm)
    try rw [← ee3]
    exact wp.mono (h G1 A1 ⟨L1, P1, rfl, hS1⟩) (fun r G' q => qx_trans hx1 q)
theorem w_X0_at_0 {E : EE} {d : Nat} {V : VH} {K : Int32 → VH → Prop} {b0 c0 : Nat} {x1 : Int32} (hB0 : BS (vL V) b0 c0) (h : (x1 < 0 → K (-1) V) ∧ (¬ (x1 < 0) → ((vI V b0 c0 1) ≤ x1 → K (-1) V) ∧ (¬ ((vI V b0 c0 1) ≤ x1) → ((nI (vN V b0 (c0 + 1))) ≤ x1 → K (-1) V) ∧ (¬ ((nI (vN V b0 (c0 + 1))) ≤ x1) → vp_in x1 (vN V b0 (c0 + 1)) ∧ (K ((vI V b0 (c0 + 1) (Int32.toNatClampNeg x1)) &&& 255) V))))) : vMI E d M_X0_at [sl b0 c0, wi x1] V K := by
  intro G A hR
  obtain ⟨L, P, rfl, hS⟩ := hR
  have hx := Xt.refl (V := pl G A L P) (A := A)
  show wpM E d M_X0_at [vr (A b0 c0), vi x1] G _
  refine wpM_of mk_X0_at (Nat.le_of_ble_eq_true rfl) ?_
  refine v_X0_at_0 ?_
  refine ⟨fun hc => ?_, fun hc => ?_⟩
  · have h := h.1 hc
    exact qx_i hS hx h
  · have h := h.2 hc
    refine ⟨hS.o (BS.o hB0), ?_⟩
    refine ⟨fun hc => ?_, fun hc => ?_⟩
    · have h := h.1 hc
      exact qx_i hS hx h
    · have h := h.2 hc
      rw [BS.l hB0 hS]
      refine ⟨hS.o (BS.a hB0), ?_⟩
      refine ⟨fun hc => ?_, fun hc => ?_⟩
      · have h := h.1 hc
        exact qx_i hS hx h
      · have h := h.2 hc
        obtain ⟨hi1, h⟩ := h
        refine ⟨hi1, ?_⟩
        exact qx_i hS hx h
theorem w_X0_number_0 {E : EE} {d : Nat} {V : VH} {K : Int64 → VH → Prop} {b0 c0 : Nat} {x1 : Int32} {x2 : Int32} (hB0 : BS (vL V) b0 c0) (h : vwp E d M_X0_number 5 [some (sl b0 c0), some (wi x1), some (wi x2), some (wj 0), none, some (wi 0)] [] V (zj K)) : vMJ E d M_X0_number [sl b0 c0, wi x1, wi x2] V K := by
  intro G A hR
  obtain ⟨L, P, rfl, hS⟩ := hR
  have hx := Xt.refl (V := pl G A L P) (A := A)
  show wpM E d M_X0_number [vr (A b0 c0), vi x1, vi x2] G _
  refine wpM_of mk_X0_number (Nat.le_of_ble_eq_true rfl) ?_
  refine v_X0_number_0 ?_
  exact wp.mono (h G A ⟨L, P, rfl, hS⟩) (fun r G' q => qx_trans hx q)
theorem w_X0_number_5 {E : EE} {d : Nat} {V : VH} {K : Int64 → VH → Prop} {b0 c0 : Nat} {x1 : Int32} {x2 : Int32} {x3 : Int64} {x5 : Int32} (hB0 : BS (vL V) b0 c0) (h0 : 0 < d) (h : (x2 ≤ x5 → K x3 V) ∧ (¬ (x2 ≤ x5) → vMI E (d - 1) M_X0_at [sl b0 c0, wi (x1 + x5)] V (fun r1 V1 => vwp E d M_X0_number 5 [some (sl b0 c0), some (wi x1), some (wi x2), some (wj ((x3 <<< (Int32.toInt64 8 &&& 63)) ||| (Int32.toInt64 (r1 &&& 255)))), none, some (wi (x5 + 1))] [] V1 (zj K)))) : vwp E d M_X0_number 5 [some (sl b0 c0), some (wi x1), some (wi x2), some (wj x3), none, some (wi x5)] [] V (zj K) := by
  intro G A hR
  obtain ⟨L, P, rfl, hS⟩ := hR
  have hx := Xt.refl (V := pl G A L P) (A := A)
  show wp E d M_X0_number 5 [some (vr (A b0 c0)), some (vi x1), some (vi x2), some (vj x3), none, some (vi x5)] [] G _
  refine v_X0_number_5 h0 ?_
  refine ⟨fun hc => ?_, fun hc => ?_⟩
  · have h := h.1 hc
    exact qx_j hS hx h
  · have h := h.2 hc
    refine ⟨hS.o (BS.o hB0), ?_⟩
    refine wpM.mono (h G A ⟨L, P, rfl, hS⟩) (fun rr1 G1 hr => ?_)
    obtain ⟨A1, W1, w1, ⟨L1, P1, rfl, hS1⟩, hy1, rfl, r1, rfl, h⟩ := hr
    refine ⟨r1, rfl, ?_⟩
    have hx1 := Xt.trans hx hy1
    have hg2 : BS L1 b0 c0 := BS.up hy1 hB0
    have ee3 : A1 b0 c0 = A b0 c0 := hy1.2 _ _ hB0.1 (((BS.n hg2 hS1)).trans ((BS.n hB0 hS)).symm)
    try rw [← ee3]
    exact wp.mono (h G1 A1 ⟨L1, P1, rfl, hS1⟩) (fun r G' q => qx_trans hx1 q)
theorem w_X0_become_0 {E : EE} {d : Nat} {V : VH} {K : VH → Prop} {b0 c0 : Nat} {b1 c1 : Nat} {x2 : Int32} {x3 : Int32} (hB0 : BS (vL V) b0 c0) (hB1 : BS (vL V) b1 c1) (h0 : 0 < d) (h : ∀ V1 : VH, V1 = wrI V b0 c0 1 0 → vMV E (d - 1) M_X0_addAll [sl b0 c0, sl b1 c1, wi x2, wi x3] V1 (fun V2 => K V2)) : vMV E d M_X0_become [sl b0 c0, sl b1 c1, wi x2, wi x3] V K := by
  intro G A hR
  obtain ⟨L, P, rfl, hS⟩ := hR
  have hx := Xt.refl (V := pl G A L P) (A := A)
  show wpM E d M_X0_become [vr (A b0 c0), vr (A b1 c1), vi x2, vi x3] G _
  refine wpM_of mk_X0_become (Nat.le_of_ble_eq_true rfl) ?_
  refine v_X0_become_0 h0 ?_
  refine ⟨hS.o (BS.o hB0), ?_⟩
  have hS1 : Sh E (sI G (A b0 c0) 1 0) A L P := Sh_sI (rfl : sI G (A b0 c0) 1 0 = sI G (A b0 c0) 1 0) hS (BS.o hB0) (okT_0 rfl)
  have h := h (pl (sI G (A b0 c0) 1 0) A L P) (pl_sI (rfl : sI G (A b0 c0) 1 0 = sI G (A b0 c0) 1 0) hS (BS.o hB0))
  have hx1 : Xt (pl G A L P) A (pl (sI G (A b0 c0) 1 0) A L P) A := Xt_sI (rfl : sI G (A b0 c0) 1 0 = sI G (A b0 c0) 1 0) hx
  refine wpM.mono (h (sI G (A b0 c0) 1 0) A ⟨L, P, rfl, hS1⟩) (fun rr2 G2 hr => ?_)
  obtain ⟨A2, W2, w2, ⟨L2, P2, rfl, hS2⟩, hy2, rfl, rfl, h⟩ := hr
  refine ⟨rfl, ?_⟩
  have hx2 := Xt.trans hx1 hy2
  have hg3 : BS L2 b0 c0 := BS.up hy2 hB0
  have hg4 : BS L2 b1 c1 := BS.up hy2 hB1
  have ee5 : A2 b0 c0 = A b0 c0 := hy2.2 _ _ hB0.1 (((BS.n hg3 hS2)).trans ((BS.n hB0 hS1)).symm)
  try rw [← ee5]
  have ee6 : A2 b1 c1 = A b1 c1 := hy2.2 _ _ hB1.1 (((BS.n hg4 hS2)).trans ((BS.n hB1 hS1)).symm)
  try rw [← ee6]
  exact qx_v hS2 hx2 h
theorem w_X0_addAll_0 {E : EE} {d : Nat} {V : VH} {K : VH → Prop} {b0 c0 : Nat} {b1 c1 : Nat} {x2 : Int32} {x3 : Int32} (hB0 : BS (vL V) b0 c0) (hB1 : BS (vL V) b1 c1) (h0 : 0 < d) (h : (x2 < 0 → K V) ∧ (¬ (x2 < 0) → (x3 < 0 → K V) ∧ (¬ (x3 < 0) → (x2 ≤ ((vI V b1 c1 1) - x3) → vMV E (d - 1) M_X0_makeRoom [sl b0 c0, wi ((vI V b0 c0 1) + x3)] V (fun V1 => ¬ x2 < 0 ∧ (¬ (vI V1 b0 c0 1) < 0 ∧ (¬ x3 < 0 ∧ ((Int32.toNatClampNeg x2) + (Int32.toNatClampNeg x3) ≤ vN V1 b1 (c1 + 1) ∧ ((Int32.toNatClampNeg (vI V1 b0 c0 1)) + (Int32.toNatClampNeg x3) ≤ vN V1 b0 (c0 + 1) ∧ (∀ V11 : VH, V11 = cpyI V1 b1 (c1 + 1) b0 (c0 + 1) (Int32.toNatClampNeg x2) (Int32.toNatClampNeg (vI V1 b0 c0 1)) (Int32.toNatClampNeg x3) → ∀ V12 : VH, V12 = wrI V11 b0 c0 1 ((vI V11 b0 c0 1) + x3) → K V12))))))) ∧ (¬ (x2 ≤ ((vI V b1 c1 1) - x3)) → K V)))) : vMV E d M_X0_addAll [sl b0 c0, sl b1 c1, wi x2, wi x3] V K := by
  intro G A hR
  obtain ⟨L, P, rfl, hS⟩ := hR
  have hx := Xt.refl (V := pl G A L P) (A := A)
  show wpM E d M_X0_addAll [vr (A b0 c0), vr (A b1 c1), vi x2, vi x3] G _
  refine wpM_of mk_X0_addAll (Nat.le_of_ble_eq_true rfl) ?_
  refine v_X0_addAll_0 h0 ?_
  refine ⟨fun hc => ?_, fun hc => ?_⟩
  · have h := h.1 hc
    exact qx_v hS hx h
  · have h := h.2 hc
    refine ⟨fun hc => ?_, fun hc => ?_⟩
    · have h := h.1 hc
      exact qx_v hS hx h
    · have h := h.2 hc
      refine ⟨hS.o (BS.o hB1), ?_⟩
      refine ⟨fun hc => ?_, fun hc => ?_⟩
      · have h := h.1 hc
        refine ⟨hS.o (BS.o hB0), ?_⟩
        refine wpM.mono (h G A ⟨L, P, rfl, hS⟩) (fun rr1 G1 hr => ?_)
        obtain ⟨A1, W1, w1, ⟨L1, P1, rfl, hS1⟩, hy1, rfl, rfl, h⟩ := hr
        refine ⟨rfl, ?_⟩
        have hx1 := Xt.trans hx hy1
        have hg2 : BS L1 b0 c0 := BS.up hy1 hB0
        have hg3 : BS L1 b1 c1 := BS.up hy1 hB1
        have ee4 : A1 b0 c0 = A b0 c0 := hy1.2 _ _ hB0.1 (((BS.n hg2 hS1)).trans ((BS.n hB0 hS)).symm)
        try rw [← ee4]
        have ee5 : A1 b1 c1 = A b1 c1 := hy1.2 _ _ hB1.1 (((BS.n hg3 hS1)).trans ((BS.n hB1 hS)).symm)
        try rw [← ee5]
        refine ⟨hS1.o (BS.o hg3), ?_⟩
        rw [BS.l hg3 hS1]
        refine ⟨hS1.o (BS.o hg2), ?_⟩
        rw [BS.l hg2 hS1]
        refine ⟨hS1.o (BS.a hg3), ?_⟩
        refine ⟨hS1.o (BS.a hg2), ?_⟩
        obtain ⟨hc6, h⟩ := h
        refine ⟨hc6, ?_⟩
        obtain ⟨hc7, h⟩ := h
        refine ⟨hc7, ?_⟩
        obtain ⟨hc8, h⟩ := h
        refine ⟨hc8, ?_⟩
        obtain ⟨hc9, h⟩ := h
        refine ⟨hc9, ?_⟩
        obtain ⟨hc10, h⟩ := h
        refine ⟨hc10, ?_⟩
        refine ⟨fun i _ => hS1.fit (BS.a hg3) _, ?_⟩
        have hS11 : Sh E (cpI G1 (A1 b1 (c1 + 1)) (A1 b0 (c0 + 1)) (Int32.toNatClampNeg x2) (Int32.toNatClampNeg (gI G1 (A1 b0 c0) 1)) (Int32.toNatClampNeg x3)) A1 L1 P1 := Sh_cpI (rfl : cpI G1 (A1 b1 (c1 + 1)) (A1 b0 (c0 + 1)) (Int32.toNatClampNeg x2) (Int32.toNatClampNeg (gI G1 (A1 b0 c0) 1)) (Int32.toNatClampNeg x3) = cpI G1 (A1 b1 (c1 + 1)) (A1 b0 (c0 + 1)) (Int32.toNatClampNeg x2) (Int32.toNatClampNeg (gI G1 (A1 b0 c0) 1)) (Int32.toNatClampNeg x3)) hS1 (BS.a hg2) (BS.a hg3) (fun _ => rfl)
        have h := h (pl (cpI G1 (A1 b1 (c1 + 1)) (A1 b0 (c0 + 1)) (Int32.toNatClampNeg x2) (Int32.toNatClampNeg (gI G1 (A1 b0 c0) 1)) (Int32.toNatClampNeg x3)) A1 L1 P1) (pl_cpI (rfl : cpI G1 (A1 b1 (c1 + 1)) (A1 b0 (c0 + 1)) (Int32.toNatClampNeg x2) (Int32.toNatClampNeg (gI G1 (A1 b0 c0) 1)) (Int32.toNatClampNeg x3) = cpI G1 (A1 b1 (c1 + 1)) (A1 b0 (c0 + 1)) (Int32.toNatClampNeg x2) (Int32.toNatClampNeg (gI G1 (A1 b0 c0) 1)) (Int32.toNatClampNeg x3)) hS1 (BS.a hg2))
        have hx11 : Xt (pl G A L P) A (pl (cpI G1 (A1 b1 (c1 + 1)) (A1 b0 (c0 + 1)) (Int32.toNatClampNeg x2) (Int32.toNatClampNeg (gI G1 (A1 b0 c0) 1)) (Int32.toNatClampNeg x3)) A1 L1 P1) A1 := Xt_cpI (rfl : cpI G1 (A1 b1 (c1 + 1)) (A1 b0 (c0 + 1)) (Int32.toNatClampNeg x2) (Int32.toNatClampNeg (gI G1 (A1 b0 c0) 1)) (Int32.toNatClampNeg x3) = cpI G1 (A1 b1 (c1 + 1)) (A1 b0 (c0 + 1)) (Int32.toNatClampNeg x2) (Int32.toNatClampNeg (gI G1 (A1 b0 c0) 1)) (Int32.toNatClampNeg x3)) hx1
        have hS12 : Sh E (sI (cpI G1 (A1 b1 (c1 + 1)) (A1 b0 (c0 + 1)) (Int32.toNatClampNeg x2) (Int32.toNatClampNeg (gI G1 (A1 b0 c0) 1)) (Int32.toNatClampNeg x3)) (A1 b0 c0) 1 ((gI (cpI G1 (A1 b1 (c1 + 1)) (A1 b0 (c0 + 1)) (Int32.toNatClampNeg x2) (Int32.toNatClampNeg (gI G1 (A1 b0 c0) 1)) (Int32.toNatClampNeg x3)) (A1 b0 c0) 1) + x3)) A1 L1 P1 := Sh_sI (rfl : sI (cpI G1 (A1 b1 (c1 + 1)) (A1 b0 (c0 + 1)) (Int32.toNatClampNeg x2) (Int32.toNatClampNeg (gI G1 (A1 b0 c0) 1)) (Int32.toNatClampNeg x3)) (A1 b0 c0) 1 ((gI (cpI G1 (A1 b1 (c1 + 1)) (A1 b0 (c0 + 1)) (Int32.toNatClampNeg x2) (Int32.toNatClampNeg (gI G1 (A1 b0 c0) 1)) (Int32.toNatClampNeg x3)) (A1 b0 c0) 1) + x3) = sI (cpI G1 (A1 b1 (c1 + 1)) (A1 b0 (c0 + 1)) (Int32.toNatClampNeg x2) (Int32.toNatClampNeg (gI G1 (A1 b0 c0) 1)) (Int32.toNatClampNeg x3)) (A1 b0 c0) 1 ((gI (cpI G1 (A1 b1 (c1 + 1)) (A1 b0 (c0 + 1)) (Int32.toNatClampNeg x2) (Int32.toNatClampNeg (gI G1 (A1 b0 c0) 1)) (Int32.toNatClampNeg x3)) (A1 b0 c0) 1) + x3)) hS11 (BS.o hg2) (okT_0 rfl)
        have h := h (pl (sI (cpI G1 (A1 b1 (c1 + 1)) (A1 b0 (c0 + 1)) (Int32.toNatClampNeg x2) (Int32.toNatClampNeg (gI G1 (A1 b0 c0) 1)) (Int32.toNatClampNeg x3)) (A1 b0 c0) 1 ((gI (cpI G1 (A1 b1 (c1 + 1)) (A1 b0 (c0 + 1)) (Int32.toNatClampNeg x2) (Int32.toNatClampNeg (gI G1 (A1 b0 c0) 1)) (Int32.toNatClampNeg x3)) (A1 b0 c0) 1) + x3)) A1 L1 P1) (pl_sI (rfl : sI (cpI G1 (A1 b1 (c1 + 1)) (A1 b0 (c0 + 1)) (Int32.toNatClampNeg x2) (Int32.toNatClampNeg (gI G1 (A1 b0 c0) 1)) (Int32.toNatClampNeg x3)) (A1 b0 c0) 1 ((gI (cpI G1 (A1 b1 (c1 + 1)) (A1 b0 (c0 + 1)) (Int32.toNatClampNeg x2) (Int32.toNatClampNeg (gI G1 (A1 b0 c0) 1)) (Int32.toNatClampNeg x3)) (A1 b0 c0) 1) + x3) = sI (cpI G1 (A1 b1 (c1 + 1)) (A1 b0 (c0 + 1)) (Int32.toNatClampNeg x2) (Int32.toNatClampNeg (gI G1 (A1 b0 c0) 1)) (Int32.toNatClampNeg x3)) (A1 b0 c0) 1 ((gI (cpI G1 (A1 b1 (c1 + 1)) (A1 b0 (c0 + 1)) (Int32.toNatClampNeg x2) (Int32.toNatClampNeg (gI G1 (A1 b0 c0) 1)) (Int32.toNatClampNeg x3)) (A1 b0 c0) 1) + x3)) hS11 (BS.o hg2))
        have hx12 : Xt (pl G A L P) A (pl (sI (cpI G1 (A1 b1 (c1 + 1)) (A1 b0 (c0 + 1)) (Int32.toNatClampNeg x2) (Int32.toNatClampNeg (gI G1 (A1 b0 c0) 1)) (Int32.toNatClampNeg x3)) (A1 b0 c0) 1 ((gI (cpI G1 (A1 b1 (c1 + 1)) (A1 b0 (c0 + 1)) (Int32.toNatClampNeg x2) (Int32.toNatClampNeg (gI G1 (A1 b0 c0) 1)) (Int32.toNatClampNeg x3)) (A1 b0 c0) 1) + x3)) A1 L1 P1) A1 := Xt_sI (rfl : sI (cpI G1 (A1 b1 (c1 + 1)) (A1 b0 (c0 + 1)) (Int32.toNatClampNeg x2) (Int32.toNatClampNeg (gI G1 (A1 b0 c0) 1)) (Int32.toNatClampNeg x3)) (A1 b0 c0) 1 ((gI (cpI G1 (A1 b1 (c1 + 1)) (A1 b0 (c0 + 1)) (Int32.toNatClampNeg x2) (Int32.toNatClampNeg (gI G1 (A1 b0 c0) 1)) (Int32.toNatClampNeg x3)) (A1 b0 c0) 1) + x3) = sI (cpI G1 (A1 b1 (c1 + 1)) (A1 b0 (c0 + 1)) (Int32.toNatClampNeg x2) (Int32.toNatClampNeg (gI G1 (A1 b0 c0) 1)) (Int32.toNatClampNeg x3)) (A1 b0 c0) 1 ((gI (cpI G1 (A1 b1 (c1 + 1)) (A1 b0 (c0 + 1)) (Int32.toNatClampNeg x2) (Int32.toNatClampNeg (gI G1 (A1 b0 c0) 1)) (Int32.toNatClampNeg x3)) (A1 b0 c0) 1) + x3)) hx11
        exact qx_v hS12 hx12 h
      · have h := h.2 hc
        exact qx_v hS hx h
theorem w_X0_keep_0 {E : EE} {d : Nat} {V : VH} {K : VH → Prop} {b0 c0 : Nat} {x1 : Int32} (hB0 : BS (vL V) b0 c0) (h : (x1 < 0 → K V) ∧ (¬ (x1 < 0) → ((vI V b0 c0 1) ≤ x1 → K V) ∧ (¬ ((vI V b0 c0 1) ≤ x1) → ∀ V1 : VH, V1 = wrI V b0 c0 1 x1 → K V1))) : vMV E d M_X0_keep [sl b0 c0, wi x1] V K := by
  intro G A hR
  obtain ⟨L, P, rfl, hS⟩ := hR
  have hx := Xt.refl (V := pl G A L P) (A := A)
  show wpM E d M_X0_keep [vr (A b0 c0), vi x1] G _
  refine wpM_of mk_X0_keep (Nat.le_of_ble_eq_true rfl) ?_
  refine v_X0_keep_0 ?_
  refine ⟨fun hc => ?_, fun hc => ?_⟩
  · have h := h.1 hc
    exact qx_v hS hx h
  · have h := h.2 hc
    refine ⟨hS.o (BS.o hB0), ?_⟩
    refine ⟨fun hc => ?_, fun hc => ?_⟩
    · have h := h.1 hc
      exact qx_v hS hx h
    · have h := h.2 hc
      have hS1 : Sh E (sI G (A b0 c0) 1 x1) A L P := Sh_sI (rfl : sI G (A b0 c0) 1 x1 = sI G (A b0 c0) 1 x1) hS (BS.o hB0) (okT_0 rfl)
      have h := h (pl (sI G (A b0 c0) 1 x1) A L P) (pl_sI (rfl : sI G (A b0 c0) 1 x1 = sI G (A b0 c0) 1 x1) hS (BS.o hB0))
      have hx1 : Xt (pl G A L P) A (pl (sI G (A b0 c0) 1 x1) A L P) A := Xt_sI (rfl : sI G (A b0 c0) 1 x1 = sI G (A b0 c0) 1 x1) hx
      exact qx_v hS1 hx1 h
theorem w_X0_addNumber_0 {E : EE} {d : Nat} {V : VH} {K : VH → Prop} {b0 c0 : Nat} {x1 : Int64} {x3 : Int32} (hB0 : BS (vL V) b0 c0) (h : vwp E d M_X0_addNumber 5 [some (sl b0 c0), some (wj x1), none, some (wi x3), some (wi (x3 - 1))] [] V (zv K)) : vMV E d M_X0_addNumber [sl b0 c0, wj x1, wi x3] V K := by
  intro G A hR
  obtain ⟨L, P, rfl, hS⟩ := hR
  have hx := Xt.refl (V := pl G A L P) (A := A)
  show wpM E d M_X0_addNumber [vr (A b0 c0), vj x1, vi x3] G _
  refine wpM_of mk_X0_addNumber (Nat.le_of_ble_eq_true rfl) ?_
  refine v_X0_addNumber_0 ?_
  exact wp.mono (h G A ⟨L, P, rfl, hS⟩) (fun r G' q => qx_trans hx q)
theorem w_X0_addNumber_5 {E : EE} {d : Nat} {V : VH} {K : VH → Prop} {b0 c0 : Nat} {x1 : Int64} {x3 : Int32} {x4 : Int32} (hB0 : BS (vL V) b0 c0) (h0 : 0 < d) (h : (x4 < 0 → K V) ∧ (¬ (x4 < 0) → vMV E (d - 1) M_X0_add [sl b0 c0, wi (Int64.toInt32 (lushr x1 (8 * x4)))] V (fun V1 => vwp E d M_X0_addNumber 5 [some (sl b0 c0), some (wj x1), none, some (wi x3), some (wi (x4 + (-1)))] [] V1 (zv K)))) : vwp E d M_X0_addNumber 5 [some (sl b0 c0), some (wj x1), none, some (wi x3), some (wi x4)] [] V (zv K) := by
  intro G A hR
  obtain ⟨L, P, rfl, hS⟩ := hR
  have hx := Xt.refl (V := pl G A L P) (A := A)
  show wp E d M_X0_addNumber 5 [some (vr (A b0 c0)), some (vj x1), none, some (vi x3), some (vi x4)] [] G _
  refine v_X0_addNumber_5 h0 ?_
  refine ⟨fun hc => ?_, fun hc => ?_⟩
  · have h := h.1 hc
    exact qx_v hS hx h
  · have h := h.2 hc
    refine ⟨hS.o (BS.o hB0), ?_⟩
    refine wpM.mono (h G A ⟨L, P, rfl, hS⟩) (fun rr1 G1 hr => ?_)
    obtain ⟨A1, W1, w1, ⟨L1, P1, rfl, hS1⟩, hy1, rfl, rfl, h⟩ := hr
    refine ⟨rfl, ?_⟩
    have hx1 := Xt.trans hx hy1
    have hg2 : BS L1 b0 c0 := BS.up hy1 hB0
    have ee3 : A1 b0 c0 = A b0 c0 := hy1.2 _ _ hB0.1 (((BS.n hg2 hS1)).trans ((BS.n hB0 hS)).symm)
    try rw [← ee3]
    exact wp.mono (h G1 A1 ⟨L1, P1, rfl, hS1⟩) (fun r G' q => qx_trans hx1 q)
theorem w_X0_add_0 {E : EE} {d : Nat} {V : VH} {K : VH → Prop} {b0 c0 : Nat} {x1 : Int32} (hB0 : BS (vL V) b0 c0) (h0 : 0 < d) (h : vMV E (d - 1) M_X0_makeRoom [sl b0 c0, wi ((vI V b0 c0 1) + 1)] V (fun V1 => ((nI (vN V1 b0 (c0 + 1))) ≤ (vI V1 b0 c0 1) → K V1) ∧ (¬ ((nI (vN V1 b0 (c0 + 1))) ≤ (vI V1 b0 c0 1)) → ∀ V4 : VH, V4 = wrI V1 b0 c0 1 ((vI V1 b0 c0 1) + 1) → vp_in (vI V1 b0 c0 1) (vN V4 b0 (c0 + 1)) ∧ (∀ V6 : VH, V6 = wrI V4 b0 (c0 + 1) (Int32.toNatClampNeg (vI V1 b0 c0 1)) (i2b (i2b x1)) → K V6)))) : vMV E d M_X0_add [sl b0 c0, wi x1] V K := by
  intro G A hR
  obtain ⟨L, P, rfl, hS⟩ := hR
  have hx := Xt.refl (V := pl G A L P) (A := A)
  show wpM E d M_X0_add [vr (A b0 c0), vi x1] G _
  refine wpM_of mk_X0_add (Nat.le_of_ble_eq_true rfl) ?_
  refine v_X0_add_0 h0 ?_
  refine ⟨hS.o (BS.o hB0), ?_⟩
  refine wpM.mono (h G A ⟨L, P, rfl, hS⟩) (fun rr1 G1 hr => ?_)
  obtain ⟨A1, W1, w1, ⟨L1, P1, rfl, hS1⟩, hy1, rfl, rfl, h⟩ := hr
  refine ⟨rfl, ?_⟩
  have hx1 := Xt.trans hx hy1
  have hg2 : BS L1 b0 c0 := BS.up hy1 hB0
  have ee3 : A1 b0 c0 = A b0 c0 := hy1.2 _ _ hB0.1 (((BS.n hg2 hS1)).trans ((BS.n hB0 hS)).symm)
  try rw [← ee3]
  refine ⟨hS1.o (BS.o hg2), ?_⟩
  rw [BS.l hg2 hS1]
  refine ⟨hS1.o (BS.a hg2), ?_⟩
  refine ⟨fun hc => ?_, fun hc => ?_⟩
  · have h := h.1 hc
    exact qx_v hS1 hx1 h
  · have h := h.2 hc
    intro G4 eG4
    have hS4 : Sh E G4 A1 L1 P1 := Sh_sI eG4 hS1 (BS.o hg2) (okT_0 rfl)
    have h := h (pl G4 A1 L1 P1) (pl_sI eG4 hS1 (BS.o hg2))
    have hx4 : Xt (pl G A L P) A (pl G4 A1 L1 P1) A1 := Xt_sI eG4 hx1
    obtain ⟨hi5, h⟩ := h
    refine ⟨hi5, ?_⟩
    intro G6 eG6
    have hS6 : Sh E G6 A1 L1 P1 := Sh_sI eG6 hS4 (BS.a hg2) (okT_b rfl)
    have h := h (pl G6 A1 L1 P1) (pl_sI eG6 hS4 (BS.a hg2))
    have hx6 : Xt (pl G A L P) A (pl G6 A1 L1 P1) A1 := Xt_sI eG6 hx4
    exact qx_v hS6 hx6 h
theorem w_X0_exchange_0 {E : EE} {d : Nat} {V : VH} {K : VH → Prop} {b0 c0 : Nat} {x1 : Int32} {x2 : Int32} (hB0 : BS (vL V) b0 c0) (h : (x1 < 0 → K V) ∧ (¬ (x1 < 0) → ((vI V b0 c0 1) ≤ x1 → K V) ∧ (¬ ((vI V b0 c0 1) ≤ x1) → ((nI (vN V b0 (c0 + 1))) ≤ x1 → K V) ∧ (¬ ((nI (vN V b0 (c0 + 1))) ≤ x1) → vp_in x1 (vN V b0 (c0 + 1)) ∧ (∀ V2 : VH, V2 = wrI V b0 (c0 + 1) (Int32.toNatClampNeg x1) (i2b (i2b x2)) → K V2))))) : vMV E d M_X0_exchange [sl b0 c0, wi x1, wi x2] V K := by
  intro G A hR
  obtain ⟨L, P, rfl, hS⟩ := hR
  have hx := Xt.refl (V := pl G A L P) (A := A)
  show wpM E d M_X0_exchange [vr (A b0 c0), vi x1, vi x2] G _
  refine wpM_of mk_X0_exchange (Nat.le_of_ble_eq_true rfl) ?_
  refine v_X0_exchange_0 ?_
  refine ⟨fun hc => ?_, fun hc => ?_⟩
  · have h := h.1 hc
    exact qx_v hS hx h
  · have h := h.2 hc
    refine ⟨hS.o (BS.o hB0), ?_⟩
    refine ⟨fun hc => ?_, fun hc => ?_⟩
    · have h := h.1 hc
      exact qx_v hS hx h
    · have h := h.2 hc
      rw [BS.l hB0 hS]
      refine ⟨hS.o (BS.a hB0), ?_⟩
      refine ⟨fun hc => ?_, fun hc => ?_⟩
      · have h := h.1 hc
        exact qx_v hS hx h
      · have h := h.2 hc
        obtain ⟨hi1, h⟩ := h
        refine ⟨hi1, ?_⟩
        have hS2 : Sh E (sI G (A b0 (c0 + 1)) (Int32.toNatClampNeg x1) (i2b (i2b x2))) A L P := Sh_sI (rfl : sI G (A b0 (c0 + 1)) (Int32.toNatClampNeg x1) (i2b (i2b x2)) = sI G (A b0 (c0 + 1)) (Int32.toNatClampNeg x1) (i2b (i2b x2))) hS (BS.a hB0) (okT_b rfl)
        have h := h (pl (sI G (A b0 (c0 + 1)) (Int32.toNatClampNeg x1) (i2b (i2b x2))) A L P) (pl_sI (rfl : sI G (A b0 (c0 + 1)) (Int32.toNatClampNeg x1) (i2b (i2b x2)) = sI G (A b0 (c0 + 1)) (Int32.toNatClampNeg x1) (i2b (i2b x2))) hS (BS.a hB0))
        have hx2 : Xt (pl G A L P) A (pl (sI G (A b0 (c0 + 1)) (Int32.toNatClampNeg x1) (i2b (i2b x2))) A L P) A := Xt_sI (rfl : sI G (A b0 (c0 + 1)) (Int32.toNatClampNeg x1) (i2b (i2b x2)) = sI G (A b0 (c0 + 1)) (Int32.toNatClampNeg x1) (i2b (i2b x2))) hx
        exact qx_v hS2 hx2 h
theorem w_X10_scan_0 {E : EE} {d : Nat} {V : VH} {K : VH → Prop} {b1 c1 : Nat} (hB1 : BS (vL V) b1 c1) (h : ∀ V1 : VH, V1 = wrI V 0 2 5 0 → ∀ V2 : VH, V2 = wrI V1 0 2 10 0 → ∀ V3 : VH, V3 = wrI V2 0 2 11 0 → vwp E d M_X10_scan 19 [some (sl 0 2), some (sl b1 c1), some (wi 0), some (wi 0), none] [] V3 (zv K)) : vMV E d M_X10_scan [sl 0 2, sl b1 c1] V K := by
  intro G A hR
  obtain ⟨L, P, rfl, hS⟩ := hR
  have hx := Xt.refl (V := pl G A L P) (A := A)
  show wpM E d M_X10_scan [vr (A 0 2), vr (A b1 c1)] G _
  refine wpM_of mk_X10_scan (Nat.le_of_ble_eq_true rfl) ?_
  refine v_X10_scan_0 ?_
  refine ⟨hS.o (s0_2 hS), ?_⟩
  intro G1 eG1
  have hS1 : Sh E G1 A L P := Sh_sI eG1 hS (s0_2 hS) (okT_0 rfl)
  have h := h (pl G1 A L P) (pl_sI eG1 hS (s0_2 hS))
  have hx1 : Xt (pl G A L P) A (pl G1 A L P) A := Xt_sI eG1 hx
  intro G2 eG2
  have hS2 : Sh E G2 A L P := Sh_sI eG2 hS1 (s0_2 hS1) (okT_0 rfl)
  have h := h (pl G2 A L P) (pl_sI eG2 hS1 (s0_2 hS1))
  have hx2 : Xt (pl G A L P) A (pl G2 A L P) A := Xt_sI eG2 hx1
  intro G3 eG3
  have hS3 : Sh E G3 A L P := Sh_sI eG3 hS2 (s0_2 hS2) (okT_0 rfl)
  have h := h (pl G3 A L P) (pl_sI eG3 hS2 (s0_2 hS2))
  have hx3 : Xt (pl G A L P) A (pl G3 A L P) A := Xt_sI eG3 hx2
  exact wp.mono (h G3 A ⟨L, P, rfl, hS3⟩) (fun r G' q => qx_trans hx3 q)
theorem w_X10_scan_19 {E : EE} {d : Nat} {V : VH} {K : VH → Prop} {b1 c1 : Nat} {x2 : Int32} {x3 : Int32} (hB1 : BS (vL V) b1 c1) (h0 : 0 < d) (h : ((vI V b1 c1 1) < x3 → vwp E d M_X10_scan 125 [some (sl 0 2), some (sl b1 c1), some (wi x2), some (wi x3), none] [] V (zv K)) ∧ (¬ ((vI V b1 c1 1) < x3) → vMI E (d - 1) M_X10_afterBlanks [sl b1 c1, wi x2] V (fun r1 V1 => vMI E (d - 1) M_X0_at [sl b1 c1, wi r1] V1 (fun r5 V5 => (0 ≤ r5 → vMI E (d - 1) M_X10_isLetter [wi r5] V5 (fun r9 V9 => (r9 = 0 → vMI E (d - 1) M_X10_isFigure [wi r5] V9 (fun r13 V13 => (r13 = 0 → vMI E (d - 1) M_X10_readSign [sl 0 2, sl b1 c1, wi r1] V13 (fun r17 V17 => vwp E d M_X10_scan 91 [some (sl 0 2), some (sl b1 c1), some (wi r17), some (wi x3), some (wi r5)] [] V17 (zv K))) ∧ (¬ (r13 = 0) → vMI E (d - 1) M_X10_readNumber [sl 0 2, sl b1 c1, wi r1] V13 (fun r21 V21 => vwp E d M_X10_scan 91 [some (sl 0 2), some (sl b1 c1), some (wi r21), some (wi x3), some (wi r5)] [] V21 (zv K))))) ∧ (¬ (r9 = 0) → vMI E (d - 1) M_X10_readName [sl 0 2, sl b1 c1, wi r1] V9 (fun r25 V25 => vwp E d M_X10_scan 91 [some (sl 0 2), some (sl b1 c1), some (wi r25), some (wi x3), some (wi r5)] [] V25 (zv K))))) ∧ (¬ (0 ≤ r5) → vwp E d M_X10_scan 125 [some (sl 0 2), some (sl b1 c1), some (wi r1), some (wi x3), none] [] V5 (zv K)))))) : vwp E d M_X10_scan 19 [some (sl 0 2), some (sl b1 c1), some (wi x2), some (wi x3), none] [] V (zv K) := by
  intro G A hR
  obtain ⟨L, P, rfl, hS⟩ := hR
  have hx := Xt.refl (V := pl G A L P) (A := A)
  show wp E d M_X10_scan 19 [some (vr (A 0 2)), some (vr (A b1 c1)), some (vi x2), some (vi x3), none] [] G _
  refine v_X10_scan_19 h0 ?_
  refine ⟨hS.o (BS.o hB1), ?_⟩
  refine ⟨fun hc => ?_, fun hc => ?_⟩
  · have h := h.1 hc
    exact wp.mono (h G A ⟨L, P, rfl, hS⟩) (fun r G' q => qx_trans hx q)
  · have h := h.2 hc
    refine wpM.mono (h G A ⟨L, P, rfl, hS⟩) (fun rr1 G1 hr => ?_)
    obtain ⟨A1, W1, w1, ⟨L1, P1, rfl, hS1⟩, hy1, rfl, r1, rfl, h⟩ := hr
    refine ⟨r1, rfl, ?_⟩
    have hx1 := Xt.trans hx hy1
    have hg2 : BS L1 b1 c1 := BS.up hy1 hB1
    have ee3 : A1 0 2 = A 0 2 := hy1.2 _ _ hS.1.1 (((n0_2 hS1)).trans ((n0_2 hS)).symm)
    try rw [← ee3]
    have ee4 : A1 b1 c1 = A b1 c1 := hy1.2 _ _ hB1.1 (((BS.n hg2 hS1)).trans ((BS.n hB1 hS)).symm)
    try rw [← ee4]
    refine ⟨hS1.o (BS.o hg2), ?_⟩
    refine wpM.mono (h G1 A1 ⟨L1, P1, rfl, hS1⟩) (fun rr5 G5 hr => ?_)
    obtain ⟨A5, W5, w5, ⟨L5, P5, rfl, hS5⟩, hy5, rfl, r5, rfl, h⟩ := hr
    refine ⟨r5, rfl, ?_⟩
    have hx5 := Xt.trans hx1 hy5
    have hg6 : BS L5 b1 c1 := BS.up hy5 hg2
    have ee7 : A5 0 2 = A1 0 2 := hy5.2 _ _ hS1.1.1 (((n0_2 hS5)).trans ((n0_2 hS1)).symm)
    try rw [← ee7]
    have ee8 : A5 b1 c1 = A1 b1 c1 := hy5.2 _ _ hg2.1 (((BS.n hg6 hS5)).trans ((BS.n hg2 hS1)).symm)
    try rw [← ee8]
    refine ⟨fun hc => ?_, fun hc => ?_⟩
    · have h := h.1 hc
      refine wpM.mono (h G5 A5 ⟨L5, P5, rfl, hS5⟩) (fun rr9 G9 hr => ?_)
      obtain ⟨A9, W9, w9, ⟨L9, P9, rfl, hS9⟩, hy9, rfl, r9, rfl, h⟩ := hr
      refine ⟨r9, rfl, ?_⟩
      have hx9 := Xt.trans hx5 hy9
      have hg10 : BS L9 b1 c1 := BS.up hy9 hg6
      have ee11 : A9 0 2 = A5 0 2 := hy9.2 _ _ hS5.1.1 (((n0_2 hS9)).trans ((n0_2 hS5)).symm)
      try rw [← ee11]
      have ee12 : A9 b1 c1 = A5 b1 c1 := hy9.2 _ _ hg6.1 (((BS.n hg10 hS9)).trans ((BS.n hg6 hS5)).symm)
      try rw [← ee12]
      refine ⟨fun hc => ?_, fun hc => ?_⟩
      · have h := h.1 hc
        refine wpM.mono (h G9 A9 ⟨L9, P9, rfl, hS9⟩) (fun rr13 G13 hr => ?_)
        obtain ⟨A13, W13, w13, ⟨L13, P13, rfl, hS13⟩, hy13, rfl, r13, rfl, h⟩ := hr
        refine ⟨r13, rfl, ?_⟩
        have hx13 := Xt.trans hx9 hy13
        have hg14 : BS L13 b1 c1 := BS.up hy13 hg10
        have ee15 : A13 0 2 = A9 0 2 := hy13.2 _ _ hS9.1.1 (((n0_2 hS13)).trans ((n0_2 hS9)).symm)
        try rw [← ee15]
        have ee16 : A13 b1 c1 = A9 b1 c1 := hy13.2 _ _ hg10.1 (((BS.n hg14 hS13)).trans ((BS.n hg10 hS9)).symm)
        try rw [← ee16]
        refine ⟨fun hc => ?_, fun hc => ?_⟩
        · have h := h.1 hc
          refine ⟨hS13.o (s0_2 hS13), ?_⟩
          refine wpM.mono (h G13 A13 ⟨L13, P13, rfl, hS13⟩) (fun rr17 G17 hr => ?_)
          obtain ⟨A17, W17, w17, ⟨L17, P17, rfl, hS17⟩, hy17, rfl, r17, rfl, h⟩ := hr
          refine ⟨r17, rfl, ?_⟩
          have hx17 := Xt.trans hx13 hy17
          have hg18 : BS L17 b1 c1 := BS.up hy17 hg14
          have ee19 : A17 0 2 = A13 0 2 := hy17.2 _ _ hS13.1.1 (((n0_2 hS17)).trans ((n0_2 hS13)).symm)
          try rw [← ee19]
          have ee20 : A17 b1 c1 = A13 b1 c1 := hy17.2 _ _ hg14.1 (((BS.n hg18 hS17)).trans ((BS.n hg14 hS13)).symm)
          try rw [← ee20]
          exact wp.mono (h G17 A17 ⟨L17, P17, rfl, hS17⟩) (fun r G' q => qx_trans hx17 q)
        · have h := h.2 hc
          refine ⟨hS13.o (s0_2 hS13), ?_⟩
          refine wpM.mono (h G13 A13 ⟨L13, P13, rfl, hS13⟩) (fun rr21 G21 hr => ?_)
          obtain ⟨A21, W21, w21, ⟨L21, P21, rfl, hS21⟩, hy21, rfl, r21, rfl, h⟩ := hr
          refine ⟨r21, rfl, ?_⟩
          have hx21 := Xt.trans hx13 hy21
          have hg22 : BS L21 b1 c1 := BS.up hy21 hg14
          have ee23 : A21 0 2 = A13 0 2 := hy21.2 _ _ hS13.1.1 (((n0_2 hS21)).trans ((n0_2 hS13)).symm)
          try rw [← ee23]
          have ee24 : A21 b1 c1 = A13 b1 c1 := hy21.2 _ _ hg14.1 (((BS.n hg22 hS21)).trans ((BS.n hg14 hS13)).symm)
          try rw [← ee24]
          exact wp.mono (h G21 A21 ⟨L21, P21, rfl, hS21⟩) (fun r G' q => qx_trans hx21 q)
      · have h := h.2 hc
        refine ⟨hS9.o (s0_2 hS9), ?_⟩
        refine wpM.mono (h G9 A9 ⟨L9, P9, rfl, hS9⟩) (fun rr25 G25 hr => ?_)
        obtain ⟨A25, W25, w25, ⟨L25, P25, rfl, hS25⟩, hy25, rfl, r25, rfl, h⟩ := hr
        refine ⟨r25, rfl, ?_⟩
        have hx25 := Xt.trans hx9 hy25
        have hg26 : BS L25 b1 c1 := BS.up hy25 hg10
        have ee27 : A25 0 2 = A9 0 2 := hy25.2 _ _ hS9.1.1 (((n0_2 hS25)).trans ((n0_2 hS9)).symm)
        try rw [← ee27]
        have ee28 : A25 b1 c1 = A9 b1 c1 := hy25.2 _ _ hg10.1 (((BS.n hg26 hS25)).trans ((BS.n hg10 hS9)).symm)
        try rw [← ee28]
        exact wp.mono (h G25 A25 ⟨L25, P25, rfl, hS25⟩) (fun r G' q => qx_trans hx25 q)
    · have h := h.2 hc
      exact wp.mono (h G5 A5 ⟨L5, P5, rfl, hS5⟩) (fun r G' q => qx_trans hx5 q)
theorem w_X10_scan_91 {E : EE} {d : Nat} {V : VH} {K : VH → Prop} {b1 c1 : Nat} {x2 : Int32} {x3 : Int32} {x4 : Int32} (hB1 : BS (vL V) b1 c1) (h : ∀ V1 : VH, V1 = wrI V 0 2 5 ((vI V 0 2 5) + 1) → vp_in ((vI V1 0 2 5) - 1) (vN V1 0 3) ∧ ((¬ (vI V1 0 3 (Int32.toNatClampNeg ((vI V1 0 2 5) - 1))) = 1 → vwp E d M_X10_scan 19 [some (sl 0 2), some (sl b1 c1), some (wi x2), some (wi (x3 + 1)), none] [] V1 (zv K)) ∧ ((vI V1 0 3 (Int32.toNatClampNeg ((vI V1 0 2 5) - 1))) = 1 → vwp E d M_X10_scan 125 [some (sl 0 2), some (sl b1 c1), some (wi x2), some (wi x3), none] [] V1 (zv K)))) : vwp E d M_X10_scan 91 [some (sl 0 2), some (sl b1 c1), some (wi x2), some (wi x3), some (wi x4)] [] V (zv K) := by
  intro G A hR
  obtain ⟨L, P, rfl, hS⟩ := hR
  have hx := Xt.refl (V := pl G A L P) (A := A)
  show wp E d M_X10_scan 91 [some (vr (A 0 2)), some (vr (A b1 c1)), some (vi x2), some (vi x3), some (vi x4)] [] G _
  refine v_X10_scan_91 ?_
  refine ⟨hS.o (s0_2 hS), ?_⟩
  have hS1 : Sh E (sI G (A 0 2) 5 ((gI G (A 0 2) 5) + 1)) A L P := Sh_sI (rfl : sI G (A 0 2) 5 ((gI G (A 0 2) 5) + 1) = sI G (A 0 2) 5 ((gI G (A 0 2) 5) + 1)) hS (s0_2 hS) (okT_0 rfl)
  have h := h (pl (sI G (A 0 2) 5 ((gI G (A 0 2) 5) + 1)) A L P) (pl_sI (rfl : sI G (A 0 2) 5 ((gI G (A 0 2) 5) + 1) = sI G (A 0 2) 5 ((gI G (A 0 2) 5) + 1)) hS (s0_2 hS))
  have hx1 : Xt (pl G A L P) A (pl (sI G (A 0 2) 5 ((gI G (A 0 2) 5) + 1)) A L P) A := Xt_sI (rfl : sI G (A 0 2) 5 ((gI G (A 0 2) 5) + 1) = sI G (A 0 2) 5 ((gI G (A 0 2) 5) + 1)) hx
  rw [l0_2_0 hS]
  refine ⟨hS1.o (s0_3 hS1), ?_⟩
  obtain ⟨hi2, h⟩ := h
  refine ⟨hi2, ?_⟩
  refine ⟨fun hc => ?_, fun hc => ?_⟩
  · have h := h.1 hc
    exact wp.mono (h (sI G (A 0 2) 5 ((gI G (A 0 2) 5) + 1)) A ⟨L, P, rfl, hS1⟩) (fun r G' q => qx_trans hx1 q)
  · have h := h.2 hc
    exact wp.mono (h (sI G (A 0 2) 5 ((gI G (A 0 2) 5) + 1)) A ⟨L, P, rfl, hS1⟩) (fun r G' q => qx_trans hx1 q)
theorem w_X10_scan_125 {E : EE} {d : Nat} {V : VH} {K : VH → Prop} {b1 c1 : Nat} {x2 : Int32} {x3 : Int32} (hB1 : BS (vL V) b1 c1) (h0 : 0 < d) (h : vMI E (d - 1) M_X10_write [sl 0 2, wi 0, wj 0, wi (vI V b1 c1 1), wi (vI V b1 c1 1)] V (fun r1 V1 => ∀ V5 : VH, V5 = wrI V1 0 2 4 (-1) → vMV E (d - 1) M_X10_step [sl 0 2] V5 (fun V6 => K V6))) : vwp E d M_X10_scan 125 [some (sl 0 2), some (sl b1 c1), some (wi x2), some (wi x3), none] [] V (zv K) := by
  intro G A hR
  obtain ⟨L, P, rfl, hS⟩ := hR
  have hx := Xt.refl (V := pl G A L P) (A := A)
  show wp E d M_X10_scan 125 [some (vr (A 0 2)), some (vr (A b1 c1)), some (vi x2), some (vi x3), none] [] G _
  refine v_X10_scan_125 h0 ?_
  refine ⟨hS.o (BS.o hB1), ?_⟩
  refine ⟨hS.o (s0_2 hS), ?_⟩
  refine wpM.mono (h G A ⟨L, P, rfl, hS⟩) (fun rr1 G1 hr => ?_)
  obtain ⟨A1, W1, w1, ⟨L1, P1, rfl, hS1⟩, hy1, rfl, r1, rfl, h⟩ := hr
  refine ⟨r1, rfl, ?_⟩
  have hx1 := Xt.trans hx hy1
  have hg2 : BS L1 b1 c1 := BS.up hy1 hB1
  have ee3 : A1 0 2 = A 0 2 := hy1.2 _ _ hS.1.1 (((n0_2 hS1)).trans ((n0_2 hS)).symm)
  try rw [← ee3]
  have ee4 : A1 b1 c1 = A b1 c1 := hy1.2 _ _ hB1.1 (((BS.n hg2 hS1)).trans ((BS.n hB1 hS)).symm)
  try rw [← ee4]
  refine ⟨hS1.o (s0_2 hS1), ?_⟩
  have hS5 : Sh E (sI G1 (A1 0 2) 4 (-1)) A1 L1 P1 := Sh_sI (rfl : sI G1 (A1 0 2) 4 (-1) = sI G1 (A1 0 2) 4 (-1)) hS1 (s0_2 hS1) (okT_0 rfl)
  have h := h (pl (sI G1 (A1 0 2) 4 (-1)) A1 L1 P1) (pl_sI (rfl : sI G1 (A1 0 2) 4 (-1) = sI G1 (A1 0 2) 4 (-1)) hS1 (s0_2 hS1))
  have hx5 : Xt (pl G A L P) A (pl (sI G1 (A1 0 2) 4 (-1)) A1 L1 P1) A1 := Xt_sI (rfl : sI G1 (A1 0 2) 4 (-1) = sI G1 (A1 0 2) 4 (-1)) hx1
  refine wpM.mono (h (sI G1 (A1 0 2) 4 (-1)) A1 ⟨L1, P1, rfl, hS5⟩) (fun rr6 G6 hr => ?_)
  obtain ⟨A6, W6, w6, ⟨L6, P6, rfl, hS6⟩, hy6, rfl, rfl, h⟩ := hr
  refine ⟨rfl, ?_⟩
  have hx6 := Xt.trans hx5 hy6
  have hg7 : BS L6 b1 c1 := BS.up hy6 hg2
  have ee8 : A6 0 2 = A1 0 2 := hy6.2 _ _ hS5.1.1 (((n0_2 hS6)).trans ((n0_2 hS5)).symm)
  try rw [← ee8]
  have ee9 : A6 b1 c1 = A1 b1 c1 := hy6.2 _ _ hg2.1 (((BS.n hg7 hS6)).trans ((BS.n hg2 hS5)).symm)
  try rw [← ee9]
  exact qx_v hS6 hx6 h
theorem w_X10_afterBlanks_0 {E : EE} {d : Nat} {V : VH} {K : Int32 → VH → Prop} {b0 c0 : Nat} {x1 : Int32} (hB0 : BS (vL V) b0 c0) (h : vwp E d M_X10_afterBlanks 4 [some (sl b0 c0), some (wi x1), some (wi 0), some (wi x1), none] [] V (zi K)) : vMI E d M_X10_afterBlanks [sl b0 c0, wi x1] V K := by
  intro G A hR
  obtain ⟨L, P, rfl, hS⟩ := hR
  have hx := Xt.refl (V := pl G A L P) (A := A)
  show wpM E d M_X10_afterBlanks [vr (A b0 c0), vi x1] G _
  refine wpM_of mk_X10_afterBlanks (Nat.le_of_ble_eq_true rfl) ?_
  refine v_X10_afterBlanks_0 ?_
  exact wp.mono (h G A ⟨L, P, rfl, hS⟩) (fun r G' q => qx_trans hx q)
theorem w_X10_afterBlanks_4 {E : EE} {d : Nat} {V : VH} {K : Int32 → VH → Prop} {b0 c0 : Nat} {x1 : Int32} {x2 : Int32} {x3 : Int32} (hB0 : BS (vL V) b0 c0) (h0 : 0 < d) (h : ((vI V b0 c0 1) ≤ x3 → K (vI V b0 c0 1) V) ∧ (¬ ((vI V b0 c0 1) ≤ x3) → vMI E (d - 1) M_X0_at [sl b0 c0, wi x3] V (fun r1 V1 => (¬ r1 = 10 → (¬ r1 = 37 → (¬ x2 = 0 → vwp E d M_X10_afterBlanks 70 [some (sl b0 c0), some (wi x1), some (wi x2), some (wi x3), some (wi r1)] [] V1 (zi K)) ∧ (x2 = 0 → (r1 = 32 → vwp E d M_X10_afterBlanks 70 [some (sl b0 c0), some (wi x1), some (wi x2), some (wi x3), some (wi r1)] [] V1 (zi K)) ∧ (¬ (r1 = 32) → (r1 = 9 → vwp E d M_X10_afterBlanks 70 [some (sl b0 c0), some (wi x1), some (wi x2), some (wi x3), some (wi r1)] [] V1 (zi K)) ∧ (¬ (r1 = 9) → (r1 = 13 → vwp E d M_X10_afterBlanks 70 [some (sl b0 c0), some (wi x1), some (wi x2), some (wi x3), some (wi r1)] [] V1 (zi K)) ∧ (¬ (r1 = 13) → K x3 V1))))) ∧ (r1 = 37 → vwp E d M_X10_afterBlanks 70 [some (sl b0 c0), some (wi x1), some (wi 1), some (wi x3), some (wi r1)] [] V1 (zi K))) ∧ (r1 = 10 → vwp E d M_X10_afterBlanks 70 [some (sl b0 c0), some (wi x1), some (wi 0), some (wi x3), some (wi r1)] [] V1 (zi K))))) : vwp E d M_X10_afterBlanks 4 [some (sl b0 c0), some (wi x1), some (wi x2), some (wi x3), none] [] V (zi K) := by
  intro G A hR
  obtain ⟨L, P, rfl, hS⟩ := hR
  have hx := Xt.refl (V := pl G A L P) (A := A)
  show wp E d M_X10_afterBlanks 4 [some (vr (A b0 c0)), some (vi x1), some (vi x2), some (vi x3), none] [] G _
  refine v_X10_afterBlanks_4 h0 ?_
  refine ⟨hS.o (BS.o hB0), ?_⟩
  refine ⟨fun hc => ?_, fun hc => ?_⟩
  · have h := h.1 hc
    exact qx_i hS hx h
  · have h := h.2 hc
    refine wpM.mono (h G A ⟨L, P, rfl, hS⟩) (fun rr1 G1 hr => ?_)
    obtain ⟨A1, W1, w1, ⟨L1, P1, rfl, hS1⟩, hy1, rfl, r1, rfl, h⟩ := hr
    refine ⟨r1, rfl, ?_⟩
    have hx1 := Xt.trans hx hy1
    have hg2 : BS L1 b0 c0 := BS.up hy1 hB0
    have ee3 : A1 b0 c0 = A b0 c0 := hy1.2 _ _ hB0.1 (((BS.n hg2 hS1)).trans ((BS.n hB0 hS)).symm)
    try rw [← ee3]
    refine ⟨fun hc => ?_, fun hc => ?_⟩
    · have h := h.1 hc
      refine ⟨fun hc => ?_, fun hc => ?_⟩
      · have h := h.1 hc
        refine ⟨fun hc => ?_, fun hc => ?_⟩
        · have h := h.1 hc
          exact wp.mono (h G1 A1 ⟨L1, P1, rfl, hS1⟩) (fun r G' q => qx_trans hx1 q)
        · have h := h.2 hc
          refine ⟨fun hc => ?_, fun hc => ?_⟩
          · have h := h.1 hc
            exact wp.mono (h G1 A1 ⟨L1, P1, rfl, hS1⟩) (fun r G' q => qx_trans hx1 q)
          · have h := h.2 hc
            refine ⟨fun hc => ?_, fun hc => ?_⟩
            · have h := h.1 hc
              exact wp.mono (h G1 A1 ⟨L1, P1, rfl, hS1⟩) (fun r G' q => qx_trans hx1 q)
            · have h := h.2 hc
              refine ⟨fun hc => ?_, fun hc => ?_⟩
              · have h := h.1 hc
                exact wp.mono (h G1 A1 ⟨L1, P1, rfl, hS1⟩) (fun r G' q => qx_trans hx1 q)
              · have h := h.2 hc
                exact qx_i hS1 hx1 h
      · have h := h.2 hc
        exact wp.mono (h G1 A1 ⟨L1, P1, rfl, hS1⟩) (fun r G' q => qx_trans hx1 q)
    · have h := h.2 hc
      exact wp.mono (h G1 A1 ⟨L1, P1, rfl, hS1⟩) (fun r G' q => qx_trans hx1 q)
theorem w_X10_afterBlanks_70 {E : EE} {d : Nat} {V : VH} {K : Int32 → VH → Prop} {b0 c0 : Nat} {x1 : Int32} {x2 : Int32} {x3 : Int32} {x4 : Int32} (hB0 : BS (vL V) b0 c0) (h : vwp E d M_X10_afterBlanks 4 [some (sl b0 c0), some (wi x1), some (wi x2), some (wi (x3 + 1)), none] [] V (zi K)) : vwp E d M_X10_afterBlanks 70 [some (sl b0 c0), some (wi x1), some (wi x2), some (wi x3), some (wi x4)] [] V (zi K) := by
  intro G A hR
  obtain ⟨L, P, rfl, hS⟩ := hR
  have hx := Xt.refl (V := pl G A L P) (A := A)
  show wp E d M_X10_afterBlanks 70 [some (vr (A b0 c0)), some (vi x1), some (vi x2), some (vi x3), some (vi x4)] [] G _
  refine v_X10_afterBlanks_70 ?_
  exact wp.mono (h G A ⟨L, P, rfl, hS⟩) (fun r G' q => qx_trans hx q)
theorem w_X10_write_80 {E : EE} {d : Nat} {V : VH} {K : Int32 → VH → Prop} {x1 : Int32} {x2 : Int64} {x4 : Int32} {x5 : Int32}  (h : vp_in (vI V 0 2 5) (vN V 0 3) ∧ (∀ V2 : VH, V2 = wrI V 0 3 (Int32.toNatClampNeg (vI V 0 2 5)) x1 → vp_in (vI V2 0 2 5) (vN V2 0 4) ∧ (∀ V4 : VH, V4 = wrJ V2 0 4 (Int32.toNatClampNeg (vI V2 0 2 5)) x2 → vp_in (vI V4 0 2 5) (vN V4 0 5) ∧ (∀ V6 : VH, V6 = wrI V4 0 5 (Int32.toNatClampNeg (vI V4 0 2 5)) x4 → vp_in (vI V6 0 2 5) (vN V6 0 6) ∧ (∀ V8 : VH, V8 = wrI V6 0 6 (Int32.toNatClampNeg (vI V6 0 2 5)) x5 → K x5 V8))))) : vwp E d M_X10_write 80 [some (sl 0 2), some (wi x1), some (wj x2), none, some (wi x4), some (wi x5)] [] V (zi K) := by
  intro G A hR
  obtain ⟨L, P, rfl, hS⟩ := hR
  have hx := Xt.refl (V := pl G A L P) (A := A)
  show wp E d M_X10_write 80 [some (vr (A 0 2)), some (vi x1), some (vj x2), none, some (vi x4), some (vi x5)] [] G _
  refine v_X10_write_80 ?_
  refine ⟨hS.o (s0_2 hS), ?_⟩
  rw [l0_2_0 hS]
  refine ⟨hS.o (s0_3 hS), ?_⟩
  obtain ⟨hi1, h⟩ := h
  refine ⟨hi1, ?_⟩
  intro G2 eG2
  have hS2 : Sh E G2 A L P := Sh_sI eG2 hS (s0_3 hS) (okT_0 rfl)
  have h := h (pl G2 A L P) (pl_sI eG2 hS (s0_3 hS))
  have hx2 : Xt (pl G A L P) A (pl G2 A L P) A := Xt_sI eG2 hx
  rw [l0_2_1 hS2]
  refine ⟨hS2.o (s0_4 hS2), ?_⟩
  obtain ⟨hi3, h⟩ := h
  refine ⟨hi3, ?_⟩
  intro G4 eG4
  have hS4 : Sh E G4 A L P := Sh_sJ eG4 hS2
  have h := h (pl G4 A L P) (pl_sJ eG4 hS2 (s0_4 hS2))
  have hx4 : Xt (pl G A L P) A (pl G4 A L P) A := Xt_sJ eG4 hx2
  rw [l0_2_2 hS4]
  refine ⟨hS4.o (s0_5 hS4), ?_⟩
  obtain ⟨hi5, h⟩ := h
  refine ⟨hi5, ?_⟩
  intro G6 eG6
  have hS6 : Sh E G6 A L P := Sh_sI eG6 hS4 (s0_5 hS4) (okT_0 rfl)
  have h := h (pl G6 A L P) (pl_sI eG6 hS4 (s0_5 hS4))
  have hx6 : Xt (pl G A L P) A (pl G6 A L P) A := Xt_sI eG6 hx4
  rw [l0_2_3 hS6]
  refine ⟨hS6.o (s0_6 hS6), ?_⟩
  obtain ⟨hi7, h⟩ := h
  refine ⟨hi7, ?_⟩
  intro G8 eG8
  have hS8 : Sh E G8 A L P := Sh_sI eG8 hS6 (s0_6 hS6) (okT_0 rfl)
  have h := h (pl G8 A L P) (pl_sI eG8 hS6 (s0_6 hS6))
  have hx8 : Xt (pl G A L P) A (pl G8 A L P) A := Xt_sI eG8 hx6
  exact qx_i hS8 hx8 h
theorem w_X10_step_0 {E : EE} {d : Nat} {V : VH} {K : VH → Prop}   (h : ((vI V 0 2 5) ≤ (vI V 0 2 4) → vwp E d M_X10_step 21 [some (sl 0 2)] [] V (zv K)) ∧ (¬ ((vI V 0 2 5) ≤ (vI V 0 2 4)) → ∀ V1 : VH, V1 = wrI V 0 2 4 ((vI V 0 2 4) + 1) → vwp E d M_X10_step 21 [some (sl 0 2)] [] V1 (zv K))) : vMV E d M_X10_step [sl 0 2] V K := by
  intro G A hR
  obtain ⟨L, P, rfl, hS⟩ := hR
  have hx := Xt.refl (V := pl G A L P) (A := A)
  show wpM E d M_X10_step [vr (A 0 2)] G _
  refine wpM_of mk_X10_step (Nat.le_of_ble_eq_true rfl) ?_
  refine v_X10_step_0 ?_
  refine ⟨hS.o (s0_2 hS), ?_⟩
  refine ⟨fun hc => ?_, fun hc => ?_⟩
  · have h := h.1 hc
    exact wp.mono (h G A ⟨L, P, rfl, hS⟩) (fun r G' q => qx_trans hx q)
  · have h := h.2 hc
    have hS1 : Sh E (sI G (A 0 2) 4 ((gI G (A 0 2) 4) + 1)) A L P := Sh_sI (rfl : sI G (A 0 2) 4 ((gI G (A 0 2) 4) + 1) = sI G (A 0 2) 4 ((gI G (A 0 2) 4) + 1)) hS (s0_2 hS) (okT_0 rfl)
    have h := h (pl (sI G (A 0 2) 4 ((gI G (A 0 2) 4) + 1)) A L P) (pl_sI (rfl : sI G (A 0 2) 4 ((gI G (A 0 2) 4) + 1) = sI G (A 0 2) 4 ((gI G (A 0 2) 4) + 1)) hS (s0_2 hS))
    have hx1 : Xt (pl G A L P) A (pl (sI G (A 0 2) 4 ((gI G (A 0 2) 4) + 1)) A L P) A := Xt_sI (rfl : sI G (A 0 2) 4 ((gI G (A 0 2) 4) + 1) = sI G (A 0 2) 4 ((gI G (A 0 2) 4) + 1)) hx
    exact wp.mono (h (sI G (A 0 2) 4 ((gI G (A 0 2) 4) + 1)) A ⟨L, P, rfl, hS1⟩) (fun r G' q => qx_trans hx1 q)
theorem w_X10_step_21 {E : EE} {d : Nat} {V : VH} {K : VH → Prop}   (h : ((vI V 0 2 4) < 0 → K V) ∧ (¬ ((vI V 0 2 4) < 0) → ((vI V 0 2 4) < (nI (vN V 0 3)) → vp_in (vI V 0 2 4) (vN V 0 3) ∧ (∀ V2 : VH, V2 = wrI V 0 2 6 (vI V 0 3 (Int32.toNatClampNeg (vI V 0 2 4))) → vp_in (vI V2 0 2 4) (vN V2 0 4) ∧ (∀ V4 : VH, V4 = wrJ V2 0 2 7 (vJ V2 0 4 (Int32.toNatClampNeg (vI V2 0 2 4))) → vp_in (vI V4 0 2 4) (vN V4 0 5) ∧ (∀ V6 : VH, V6 = wrI V4 0 2 8 (vI V4 0 5 (Int32.toNatClampNeg (vI V4 0 2 4))) → vp_in (vI V6 0 2 4) (vN V6 0 6) ∧ (∀ V8 : VH, V8 = wrI V6 0 2 9 (vI V6 0 6 (Int32.toNatClampNeg (vI V6 0 2 4))) → K V8))))) ∧ (¬ ((vI V 0 2 4) < (nI (vN V 0 3))) → K V))) : vwp E d M_X10_step 21 [some (sl 0 2)] [] V (zv K) := by
  intro G A hR
  obtain ⟨L, P, rfl, hS⟩ := hR
  have hx := Xt.refl (V := pl G A L P) (A := A)
  show wp E d M_X10_step 21 [some (vr (A 0 2))] [] G _
  refine v_X10_step_21 ?_
  refine ⟨hS.o (s0_2 hS), ?_⟩
  refine ⟨fun hc => ?_, fun hc => ?_⟩
  · have h := h.1 hc
    exact qx_v hS hx h
  · have h := h.2 hc
    rw [l0_2_0 hS]
    refine ⟨hS.o (s0_3 hS), ?_⟩
    refine ⟨fun hc => ?_, fun hc => ?_⟩
    · have h := h.1 hc
      obtain ⟨hi1, h⟩ := h
      refine ⟨hi1, ?_⟩
      intro G2 eG2
      have hS2 : Sh E G2 A L P := Sh_sI eG2 hS (s0_2 hS) (okT_0 rfl)
      have h := h (pl G2 A L P) (pl_sI eG2 hS (s0_2 hS))
      have hx2 : Xt (pl G A L P) A (pl G2 A L P) A := Xt_sI eG2 hx
      rw [l0_2_1 hS2]
      refine ⟨hS2.o (s0_4 hS2), ?_⟩
      obtain ⟨hi3, h⟩ := h
      refine ⟨hi3, ?_⟩
      intro G4 eG4
      have hS4 : Sh E G4 A L P := Sh_sJ eG4 hS2
      have h := h (pl G4 A L P) (pl_sJ eG4 hS2 (s0_2 hS2))
      have hx4 : Xt (pl G A L P) A (pl G4 A L P) A := Xt_sJ eG4 hx2
      rw [l0_2_2 hS4]
      refine ⟨hS4.o (s0_5 hS4), ?_⟩
      obtain ⟨hi5, h⟩ := h
      refine ⟨hi5, ?_⟩
      intro G6 eG6
      have hS6 : Sh E G6 A L P := Sh_sI eG6 hS4 (s0_2 hS4) (okT_0 rfl)
      have h := h (pl G6 A L P) (pl_sI eG6 hS4 (s0_2 hS4))
      have hx6 : Xt (pl G A L P) A (pl G6 A L P) A := Xt_sI eG6 hx4
      rw [l0_2_3 hS6]
      refine ⟨hS6.o (s0_6 hS6), ?_⟩
      obtain ⟨hi7, h⟩ := h
      refine ⟨hi7, ?_⟩
      intro G8 eG8
      have hS8 : Sh E G8 A L P := Sh_sI eG8 hS6 (s0_2 hS6) (okT_0 rfl)
      have h := h (pl G8 A L P) (pl_sI eG8 hS6 (s0_2 hS6))
      have hx8 : Xt (pl G A L P) A (pl G8 A L P) A := Xt_sI eG8 hx6
      exact qx_v hS8 hx8 h
    · have h := h.2 hc
      exact qx_v hS hx h
theorem w_X10_isLetter_0 {E : EE} {d : Nat} {V : VH} {K : Int32 → VH → Prop} {x0 : Int32}  (h : ((x0 ||| 32) < 97 → K 0 V) ∧ (¬ ((x0 ||| 32) < 97) → (122 < (x0 ||| 32) → K 0 V) ∧ (¬ (122 < (x0 ||| 32)) → K 1 V))) : vMI E d M_X10_isLetter [wi x0] V K := by
  intro G A hR
  obtain ⟨L, P, rfl, hS⟩ := hR
  have hx := Xt.refl (V := pl G A L P) (A := A)
  show wpM E d M_X10_isLetter [vi x0] G _
  refine wpM_of mk_X10_isLetter (Nat.le_of_ble_eq_true rfl) ?_
  refine v_X10_isLetter_0 ?_
  refine ⟨fun hc => ?_, fun hc => ?_⟩
  · have h := h.1 hc
    exact qx_i hS hx h
  · have h := h.2 hc
    refine ⟨fun hc => ?_, fun hc => ?_⟩
    · have h := h.1 hc
      exact qx_i hS hx h
    · have h := h.2 hc
      exact qx_i hS hx h
theorem w_X10_readName_0 {E : EE} {d : Nat} {V : VH} {K : Int32 → VH → Prop} {b1 c1 : Nat} {x2 : Int32} (hB1 : BS (vL V) b1 c1) (h : vwp E d M_X10_readName 5 [some (sl 0 2), some (sl b1 c1), some (wi x2), some (wj 0), none, some (wi x2), none] [] V (zi K)) : vMI E d M_X10_readName [sl 0 2, sl b1 c1, wi x2] V K := by
  intro G A hR
  obtain ⟨L, P, rfl, hS⟩ := hR
  have hx := Xt.refl (V := pl G A L P) (A := A)
  show wpM E d M_X10_readName [vr (A 0 2), vr (A b1 c1), vi x2] G _
  refine wpM_of mk_X10_readName (Nat.le_of_ble_eq_true rfl) ?_
  refine v_X10_readName_0 ?_
  exact wp.mono (h G A ⟨L, P, rfl, hS⟩) (fun r G' q => qx_trans hx q)
theorem w_X10_readName_5 {E : EE} {d : Nat} {V : VH} {K : Int32 → VH → Prop} {b1 c1 : Nat} {x2 : Int32} {x3 : Int64} {x5 : Int32} (hB1 : BS (vL V) b1 c1) (h0 : 0 < d) (h : ((vI V b1 c1 1) ≤ x5 → vwp E d M_X10_readName 56 [some (sl 0 2), some (sl b1 c1), some (wi x2), some (wj x3), none, some (wi x5), none] [] V (zi K)) ∧ (¬ ((vI V b1 c1 1) ≤ x5) → vMI E (d - 1) M_X0_at [sl b1 c1, wi x5] V (fun r1 V1 => vMI E (d - 1) M_X10_isLetter [wi r1] V1 (fun r5 V5 => (¬ r5 = 0 → vwp E d M_X10_readName 41 [some (sl 0 2), some (sl b1 c1), some (wi x2), some (wj x3), none, some (wi x5), some (wi r1)] [] V5 (zi K)) ∧ (r5 = 0 → vMI E (d - 1) M_X10_isFigure [wi r1] V5 (fun r9 V9 => (¬ r9 = 0 → vwp E d M_X10_readName 41 [some (sl 0 2), some (sl b1 c1), some (wi x2), some (wj x3), none, some (wi x5), some (wi r1)] [] V9 (zi K)) ∧ (r9 = 0 → vwp E d M_X10_readName 56 [some (sl 0 2), some (sl b1 c1), some (wi x2), some (wj x3), none, some (wi x5), none] [] V9 (zi K)))))))) : vwp E d M_X10_readName 5 [some (sl 0 2), some (sl b1 c1), some (wi x2), some (wj x3), none, some (wi x5), none] [] V (zi K) := by
  intro G A hR
  obtain ⟨L, P, rfl, hS⟩ := hR
  have hx := Xt.refl (V := pl G A L P) (A := A)
  show wp E d M_X10_readName 5 [some (vr (A 0 2)), some (vr (A b1 c1)), some (vi x2), some (vj x3), none, some (vi x5), none] [] G _
  refine v_X10_readName_5 h0 ?_
  refine ⟨hS.o (BS.o hB1), ?_⟩
  refine ⟨fun hc => ?_, fun hc => ?_⟩
  · have h := h.1 hc
    exact wp.mono (h G A ⟨L, P, rfl, hS⟩) (fun r G' q => qx_trans hx q)
  · have h := h.2 hc
    refine wpM.mono (h G A ⟨L, P, rfl, hS⟩) (fun rr1 G1 hr => ?_)
    obtain ⟨A1, W1, w1, ⟨L1, P1, rfl, hS1⟩, hy1, rfl, r1, rfl, h⟩ := hr
    refine ⟨r1, rfl, ?_⟩
    have hx1 := Xt.trans hx hy1
    have hg2 : BS L1 b1 c1 := BS.up hy1 hB1
    have ee3 : A1 0 2 = A 0 2 := hy1.2 _ _ hS.1.1 (((n0_2 hS1)).trans ((n0_2 hS)).symm)
    try rw [← ee3]
    have ee4 : A1 b1 c1 = A b1 c1 := hy1.2 _ _ hB1.1 (((BS.n hg2 hS1)).trans ((BS.n hB1 hS)).symm)
    try rw [← ee4]
    refine wpM.mono (h G1 A1 ⟨L1, P1, rfl, hS1⟩) (fun rr5 G5 hr => ?_)
    obtain ⟨A5, W5, w5, ⟨L5, P5, rfl, hS5⟩, hy5, rfl, r5, rfl, h⟩ := hr
    refine ⟨r5, rfl, ?_⟩
    have hx5 := Xt.trans hx1 hy5
    have hg6 : BS L5 b1 c1 := BS.up hy5 hg2
    have ee7 : A5 0 2 = A1 0 2 := hy5.2 _ _ hS1.1.1 (((n0_2 hS5)).trans ((n0_2 hS1)).symm)
    try rw [← ee7]
    have ee8 : A5 b1 c1 = A1 b1 c1 := hy5.2 _ _ hg2.1 (((BS.n hg6 hS5)).trans ((BS.n hg2 hS1)).symm)
    try rw [← ee8]
    refine ⟨fun hc => ?_, fun hc => ?_⟩
    · have h := h.1 hc
      exact wp.mono (h G5 A5 ⟨L5, P5, rfl, hS5⟩) (fun r G' q => qx_trans hx5 q)
    · have h := h.2 hc
      refine wpM.mono (h G5 A5 ⟨L5, P5, rfl, hS5⟩) (fun rr9 G9 hr => ?_)
      obtain ⟨A9, W9, w9, ⟨L9, P9, rfl, hS9⟩, hy9, rfl, r9, rfl, h⟩ := hr
      refine ⟨r9, rfl, ?_⟩
      have hx9 := Xt.trans hx5 hy9
      have hg10 : BS L9 b1 c1 := BS.up hy9 hg6
      have ee11 : A9 0 2 = A5 0 2 := hy9.2 _ _ hS5.1.1 (((n0_2 hS9)).trans ((n0_2 hS5)).symm)
      try rw [← ee11]
      have ee12 : A9 b1 c1 = A5 b1 c1 := hy9.2 _ _ hg6.1 (((BS.n hg10 hS9)).trans ((BS.n hg6 hS5)).symm)
      try rw [← ee12]
      refine ⟨fun hc => ?_, fun hc => ?_⟩
      · have h := h.1 hc
        exact wp.mono (h G9 A9 ⟨L9, P9, rfl, hS9⟩) (fun r G' q => qx_trans hx9 q)
      · have h := h.2 hc
        exact wp.mono (h G9 A9 ⟨L9, P9, rfl, hS9⟩) (fun r G' q => qx_trans hx9 q)
theorem w_X10_readName_41 {E : EE} {d : Nat} {V : VH} {K : Int32 → VH → Prop} {b1 c1 : Nat} {x2 : Int32} {x3 : Int64} {x5 : Int32} {x6 : Int32} (hB1 : BS (vL V) b1 c1) (h : vwp E d M_X10_readName 5 [some (sl 0 2), some (sl b1 c1), some (wi x2), some (wj ((x3 <<< (Int32.toInt64 8 &&& 63)) ||| (Int32.toInt64 x6))), none, some (wi (x5 + 1)), none] [] V (zi K)) : vwp E d M_X10_readName 41 [some (sl 0 2), some (sl b1 c1), some (wi x2), some (wj x3), none, some (wi x5), some (wi x6)] [] V (zi K) := by
  intro G A hR
  obtain ⟨L, P, rfl, hS⟩ := hR
  have hx := Xt.refl (V := pl G A L P) (A := A)
  show wp E d M_X10_readName 41 [some (vr (A 0 2)), some (vr (A b1 c1)), some (vi x2), some (vj x3), none, some (vi x5), some (vi x6)] [] G _
  refine v_X10_readName_41 ?_
  exact wp.mono (h G A ⟨L, P, rfl, hS⟩) (fun r G' q => qx_trans hx q)
theorem w_X10_readName_56 {E : EE} {d : Nat} {V : VH} {K : Int32 → VH → Prop} {b1 c1 : Nat} {x2 : Int32} {x3 : Int64} {x5 : Int32} (hB1 : BS (vL V) b1 c1) (h0 : 0 < d) (h : ((x5 - x2) ≤ 8 → vwp E d M_X10_readName 78 [some (sl 0 2), some (sl b1 c1), some (wi x2), some (wj x3), none, some (wi x5), some (wi 0)] [] V (zi K)) ∧ (¬ ((x5 - x2) ≤ 8) → vMI E (d - 1) M_X10_write [sl 0 2, wi 1, wj 0, wi x2, wi x5] V (fun r1 V1 => K r1 V1))) : vwp E d M_X10_readName 56 [some (sl 0 2), some (sl b1 c1), some (wi x2), some (wj x3), none, some (wi x5), none] [] V (zi K) := by
  intro G A hR
  obtain ⟨L, P, rfl, hS⟩ := hR
  have hx := Xt.refl (V := pl G A L P) (A := A)
  show wp E d M_X10_readName 56 [some (vr (A 0 2)), some (vr (A b1 c1)), some (vi x2), some (vj x3), none, some (vi x5), none] [] G _
  refine v_X10_readName_56 h0 ?_
  refine ⟨fun hc => ?_, fun hc => ?_⟩
  · have h := h.1 hc
    exact wp.mono (h G A ⟨L, P, rfl, hS⟩) (fun r G' q => qx_trans hx q)
  · have h := h.2 hc
    refine ⟨hS.o (s0_2 hS), ?_⟩
    refine wpM.mono (h G A ⟨L, P, rfl, hS⟩) (fun rr1 G1 hr => ?_)
    obtain ⟨A1, W1, w1, ⟨L1, P1, rfl, hS1⟩, hy1, rfl, r1, rfl, h⟩ := hr
    refine ⟨r1, rfl, ?_⟩
    have hx1 := Xt.trans hx hy1
    have hg2 : BS L1 b1 c1 := BS.up hy1 hB1
    have ee3 : A1 0 2 = A 0 2 := hy1.2 _ _ hS.1.1 (((n0_2 hS1)).trans ((n0_2 hS)).symm)
    try rw [← ee3]
    have ee4 : A1 b1 c1 = A b1 c1 := hy1.2 _ _ hB1.1 (((BS.n hg2 hS1)).trans ((BS.n hB1 hS)).symm)
    try rw [← ee4]
    exact qx_i hS1 hx1 h
theorem w_X10_readName_78 {E : EE} {d : Nat} {V : VH} {K : Int32 → VH → Prop} {b1 c1 : Nat} {x2 : Int32} {x3 : Int64} {x5 : Int32} {x6 : Int32} (hB1 : BS (vL V) b1 c1) (h0 : 0 < d) (h : (17 ≤ x6 → vMI E (d - 1) M_X10_write [sl 0 2, wi 2, wj x3, wi x2, wi x5] V (fun r1 V1 => K r1 V1)) ∧ (¬ (17 ≤ x6) → vp_in x6 17 ∧ ((¬ (wordsF (Int32.toNatClampNeg x6)) = x3 → vwp E d M_X10_readName 78 [some (sl 0 2), some (sl b1 c1), some (wi x2), some (wj x3), none, some (wi x5), some (wi (x6 + 1))] [] V (zi K)) ∧ ((wordsF (Int32.toNatClampNeg x6)) = x3 → vMI E (d - 1) M_X10_write [sl 0 2, wi 4, wj (Int32.toInt64 x6), wi x2, wi x5] V (fun r6 V6 => K r6 V6))))) : vwp E d M_X10_readName 78 [some (sl 0 2), some (sl b1 c1), some (wi x2), some (wj x3), none, some (wi x5), some (wi x6)] [] V (zi K) := by
  intro G A hR
  obtain ⟨L, P, rfl, hS⟩ := hR
  have hx := Xt.refl (V := pl G A L P) (A := A)
  show wp E d M_X10_readName 78 [some (vr (A 0 2)), some (vr (A b1 c1)), some (vi x2), some (vj x3), none, some (vi x5), some (vi x6)] [] G _
  refine v_X10_readName_78 h0 ?_
  refine ⟨fun hc => ?_, fun hc => ?_⟩
  · have h := h.1 hc
    refine ⟨hS.o (s0_2 hS), ?_⟩
    refine wpM.mono (h G A ⟨L, P, rfl, hS⟩) (fun rr1 G1 hr => ?_)
    obtain ⟨A1, W1, w1, ⟨L1, P1, rfl, hS1⟩, hy1, rfl, r1, rfl, h⟩ := hr
    refine ⟨r1, rfl, ?_⟩
    have hx1 := Xt.trans hx hy1
    have hg2 : BS L1 b1 c1 := BS.up hy1 hB1
    have ee3 : A1 0 2 = A 0 2 := hy1.2 _ _ hS.1.1 (((n0_2 hS1)).trans ((n0_2 hS)).symm)
    try rw [← ee3]
    have ee4 : A1 b1 c1 = A b1 c1 := hy1.2 _ _ hB1.1 (((BS.n hg2 hS1)).trans ((BS.n hB1 hS)).symm)
    try rw [← ee4]
    exact qx_i hS1 hx1 h
  · have h := h.2 hc
    obtain ⟨hi5, h⟩ := h
    refine ⟨hi5, ?_⟩
    refine ⟨fun hc => ?_, fun hc => ?_⟩
    · have h := h.1 hc
      exact wp.mono (h G A ⟨L, P, rfl, hS⟩) (fun r G' q => qx_trans hx q)
    · have h := h.2 hc
      refine ⟨hS.o (s0_2 hS), ?_⟩
      refine wpM.mono (h G A ⟨L, P, rfl, hS⟩) (fun rr6 G6 hr => ?_)
      obtain ⟨A6, W6, w6, ⟨L6, P6, rfl, hS6⟩, hy6, rfl, r6, rfl, h⟩ := hr
      refine ⟨r6, rfl, ?_⟩
      have hx6 := Xt.trans hx hy6
      have hg7 : BS L6 b1 c1 := BS.up hy6 hB1
      have ee8 : A6 0 2 = A 0 2 := hy6.2 _ _ hS.1.1 (((n0_2 hS6)).trans ((n0_2 hS)).symm)
      try rw [← ee8]
      have ee9 : A6 b1 c1 = A b1 c1 := hy6.2 _ _ hB1.1 (((BS.n hg7 hS6)).trans ((BS.n hB1 hS)).symm)
      try rw [← ee9]
      exact qx_i hS6 hx6 h
theorem w_X10_isFigure_0 {E : EE} {d : Nat} {V : VH} {K : Int32 → VH → Prop} {x0 : Int32}  (h : (x0 < 48 → K 0 V) ∧ (¬ (x0 < 48) → (57 < x0 → K 0 V) ∧ (¬ (57 < x0) → K 1 V))) : vMI E d M_X10_isFigure [wi x0] V K := by
  intro G A hR
  obtain ⟨L, P, rfl, hS⟩ := hR
  have hx := Xt.refl (V := pl G A L P) (A := A)
  show wpM E d M_X10_isFigure [vi x0] G _
  refine wpM_of mk_X10_isFigure (Nat.le_of_ble_eq_true rfl) ?_
  refine v_X10_isFigure_0 ?_
  refine ⟨fun hc => ?_, fun hc => ?_⟩
  · have h := h.1 hc
    exact qx_i hS hx h
  · have h := h.2 hc
    refine ⟨fun hc => ?_, fun hc => ?_⟩
    · have h := h.1 hc
      exact qx_i hS hx h
    · have h := h.2 hc
      exact qx_i hS hx h
theorem w_X10_readNumber_0 {E : EE} {d : Nat} {V : VH} {K : Int32 → VH → Prop} {b1 c1 : Nat} {x2 : Int32} (hB1 : BS (vL V) b1 c1) (h : vwp E d M_X10_readNumber 5 [some (sl 0 2), some (sl b1 c1), some (wi x2), some (wj 0), none, some (wi x2)] [] V (zi K)) : vMI E d M_X10_readNumber [sl 0 2, sl b1 c1, wi x2] V K := by
  intro G A hR
  obtain ⟨L, P, rfl, hS⟩ := hR
  have hx := Xt.refl (V := pl G A L P) (A := A)
  show wpM E d M_X10_readNumber [vr (A 0 2), vr (A b1 c1), vi x2] G _
  refine wpM_of mk_X10_readNumber (Nat.le_of_ble_eq_true rfl) ?_
  refine v_X10_readNumber_0 ?_
  exact wp.mono (h G A ⟨L, P, rfl, hS⟩) (fun r G' q => qx_trans hx q)
theorem w_X10_readNumber_5 {E : EE} {d : Nat} {V : VH} {K : Int32 → VH → Prop} {b1 c1 : Nat} {x2 : Int32} {x3 : Int64} {x5 : Int32} (hB1 : BS (vL V) b1 c1) (h0 : 0 < d) (h : ((vI V b1 c1 1) ≤ x5 → vwp E d M_X10_readNumber 50 [some (sl 0 2), some (sl b1 c1), some (wi x2), some (wj x3), none, some (wi x5)] [] V (zi K)) ∧ (¬ ((vI V b1 c1 1) ≤ x5) → vMI E (d - 1) M_X0_at [sl b1 c1, wi x5] V (fun r1 V1 => vMI E (d - 1) M_X10_isFigure [wi r1] V1 (fun r5 V5 => (r5 = 0 → vwp E d M_X10_readNumber 50 [some (sl 0 2), some (sl b1 c1), some (wi x2), some (wj x3), none, some (wi x5)] [] V5 (zi K)) ∧ (¬ (r5 = 0) → vMI E (d - 1) M_X0_at [sl b1 c1, wi x5] V5 (fun r9 V9 => vwp E d M_X10_readNumber 5 [some (sl 0 2), some (sl b1 c1), some (wi x2), some (wj (((10 * x3) + (Int32.toInt64 r9)) - 48)), none, some (wi (x5 + 1))] [] V9 (zi K))))))) : vwp E d M_X10_readNumber 5 [some (sl 0 2), some (sl b1 c1), some (wi x2), some (wj x3), none, some (wi x5)] [] V (zi K) := by
  intro G A hR
  obtain ⟨L, P, rfl, hS⟩ := hR
  have hx := Xt.refl (V := pl G A L P) (A := A)
  show wp E d M_X10_readNumber 5 [some (vr (A 0 2)), some (vr (A b1 c1)), some (vi x2), some (vj x3), none, some (vi x5)] [] G _
  refine v_X10_readNumber_5 h0 ?_
  refine ⟨hS.o (BS.o hB1), ?_⟩
  refine ⟨fun hc => ?_, fun hc => ?_⟩
  · have h := h.1 hc
    exact wp.mono (h G A ⟨L, P, rfl, hS⟩) (fun r G' q => qx_trans hx q)
  · have h := h.2 hc
    refine wpM.mono (h G A ⟨L, P, rfl, hS⟩) (fun rr1 G1 hr => ?_)
    obtain ⟨A1, W1, w1, ⟨L1, P1, rfl, hS1⟩, hy1, rfl, r1, rfl, h⟩ := hr
    refine ⟨r1, rfl, ?_⟩
    have hx1 := Xt.trans hx hy1
    have hg2 : BS L1 b1 c1 := BS.up hy1 hB1
    have ee3 : A1 0 2 = A 0 2 := hy1.2 _ _ hS.1.1 (((n0_2 hS1)).trans ((n0_2 hS)).symm)
    try rw [← ee3]
    have ee4 : A1 b1 c1 = A b1 c1 := hy1.2 _ _ hB1.1 (((BS.n hg2 hS1)).trans ((BS.n hB1 hS)).symm)
    try rw [← ee4]
    refine wpM.mono (h G1 A1 ⟨L1, P1, rfl, hS1⟩) (fun rr5 G5 hr => ?_)
    obtain ⟨A5, W5, w5, ⟨L5, P5, rfl, hS5⟩, hy5, rfl, r5, rfl, h⟩ := hr
    refine ⟨r5, rfl, ?_⟩
    have hx5 := Xt.trans hx1 hy5
    have hg6 : BS L5 b1 c1 := BS.up hy5 hg2
    have ee7 : A5 0 2 = A1 0 2 := hy5.2 _ _ hS1.1.1 (((n0_2 hS5)).trans ((n0_2 hS1)).symm)
    try rw [← ee7]
    have ee8 : A5 b1 c1 = A1 b1 c1 := hy5.2 _ _ hg2.1 (((BS.n hg6 hS5)).trans ((BS.n hg2 hS1)).symm)
    try rw [← ee8]
    refine ⟨fun hc => ?_, fun hc => ?_⟩
    · have h := h.1 hc
      exact wp.mono (h G5 A5 ⟨L5, P5, rfl, hS5⟩) (fun r G' q => qx_trans hx5 q)
    · have h := h.2 hc
      refine ⟨hS5.o (BS.o hg6), ?_⟩
      refine wpM.mono (h G5 A5 ⟨L5, P5, rfl, hS5⟩) (fun rr9 G9 hr => ?_)
      obtain ⟨A9, W9, w9, ⟨L9, P9, rfl, hS9⟩, hy9, rfl, r9, rfl, h⟩ := hr
      refine ⟨r9, rfl, ?_⟩
      have hx9 := Xt.trans hx5 hy9
      have hg10 : BS L9 b1 c1 := BS.up hy9 hg6
      have ee11 : A9 0 2 = A5 0 2 := hy9.2 _ _ hS5.1.1 (((n0_2 hS9)).trans ((n0_2 hS5)).symm)
      try rw [← ee11]
      have ee12 : A9 b1 c1 = A5 b1 c1 := hy9.2 _ _ hg6.1 (((BS.n hg10 hS9)).trans ((BS.n hg6 hS5)).symm)
      try rw [← ee12]
      exact wp.mono (h G9 A9 ⟨L9, P9, rfl, hS9⟩) (fun r G' q => qx_trans hx9 q)
theorem w_X10_readNumber_50 {E : EE} {d : Nat} {V : VH} {K : Int32 → VH → Prop} {b1 c1 : Nat} {x2 : Int32} {x3 : Int64} {x5 : Int32} (hB1 : BS (vL V) b1 c1) (h : ((x5 - x2) ≤ 4 → vwp E d M_X10_readNumber 64 [some (sl 0 2), some (sl b1 c1), some (wi x2), some (wj x3), none, some (wi x5)] [wi 3, sl 0 2] V (zi K)) ∧ (¬ ((x5 - x2) ≤ 4) → vwp E d M_X10_readNumber 64 [some (sl 0 2), some (sl b1 c1), some (wi x2), some (wj x3), none, some (wi x5)] [wi 1, sl 0 2] V (zi K))) : vwp E d M_X10_readNumber 50 [some (sl 0 2), some (sl b1 c1), some (wi x2), some (wj x3), none, some (wi x5)] [] V (zi K) := by
  intro G A hR
  obtain ⟨L, P, rfl, hS⟩ := hR
  have hx := Xt.refl (V := pl G A L P) (A := A)
  show wp E d M_X10_readNumber 50 [some (vr (A 0 2)), some (vr (A b1 c1)), some (vi x2), some (vj x3), none, some (vi x5)] [] G _
  refine v_X10_readNumber_50 ?_
  refine ⟨fun hc => ?_, fun hc => ?_⟩
  · have h := h.1 hc
    exact wp.mono (h G A ⟨L, P, rfl, hS⟩) (fun r G' q => qx_trans hx q)
  · have h := h.2 hc
    exact wp.mono (h G A ⟨L, P, rfl, hS⟩) (fun r G' q => qx_trans hx q)
theorem w_X10_readNumber_64 {E : EE} {d : Nat} {V : VH} {K : Int32 → VH → Prop} {b1 c1 : Nat} {x2 : Int32} {x3 : Int64} {x5 : Int32} {t1 : Int32} (hB1 : BS (vL V) b1 c1) (h0 : 0 < d) (h : vMI E (d - 1) M_X10_write [sl 0 2, wi t1, wj x3, wi x2, wi x5] V (fun r1 V1 => K r1 V1)) : vwp E d M_X10_readNumber 64 [some (sl 0 2), some (sl b1 c1), some (wi x2), some (wj x3), none, some (wi x5)] [wi t1, sl 0 2] V (zi K) := by
  intro G A hR
  obtain ⟨L, P, rfl, hS⟩ := hR
  have hx := Xt.refl (V := pl G A L P) (A := A)
  show wp E d M_X10_readNumber 64 [some (vr (A 0 2)), some (vr (A b1 c1)), some (vi x2), some (vj x3), none, some (vi x5)] [vi t1, vr (A 0 2)] G _
  refine v_X10_readNumber_64 h0 ?_
  refine ⟨hS.o (s0_2 hS), ?_⟩
  refine wpM.mono (h G A ⟨L, P, rfl, hS⟩) (fun rr1 G1 hr => ?_)
  obtain ⟨A1, W1, w1, ⟨L1, P1, rfl, hS1⟩, hy1, rfl, r1, rfl, h⟩ := hr
  refine ⟨r1, rfl, ?_⟩
  have hx1 := Xt.trans hx hy1
  have hg2 : BS L1 b1 c1 := BS.up hy1 hB1
  have ee3 : A1 0 2 = A 0 2 := hy1.2 _ _ hS.1.1 (((n0_2 hS1)).trans ((n0_2 hS)).symm)
  try rw [← ee3]
  have ee4 : A1 b1 c1 = A b1 c1 := hy1.2 _ _ hB1.1 (((BS.n hg2 hS1)).trans ((BS.n hB1 hS)).symm)
  try rw [← ee4]
  exact qx_i hS1 hx1 h
theorem w_X10_readSign_0 {E : EE} {d : Nat} {V : VH} {K : Int32 → VH → Prop} {b1 c1 : Nat} {x2 : Int32} (hB1 : BS (vL V) b1 c1) (h0 : 0 < d) (h : vMI E (d - 1) M_X0_at [sl b1 c1, wi x2] V (fun r1 V1 => vMI E (d - 1) M_X0_at [sl b1 c1, wi (x2 + 1)] V1 (fun r5 V5 => (((r1 <<< (8 &&& 31)) ||| (r5 &&& 255)) = 15421 → vwp E d M_X10_readSign 56 [some (sl 0 2), some (sl b1 c1), some (wi x2), some (wi r1), some (wi ((r1 <<< (8 &&& 31)) ||| (r5 &&& 255)))] [] V5 (zi K)) ∧ (¬ (((r1 <<< (8 &&& 31)) ||| (r5 &&& 255)) = 15421) → (((r1 <<< (8 &&& 31)) ||| (r5 &&& 255)) = 15933 → vwp E d M_X10_readSign 56 [some (sl 0 2), some (sl b1 c1), some (wi x2), some (wi r1), some (wi ((r1 <<< (8 &&& 31)) ||| (r5 &&& 255)))] [] V5 (zi K)) ∧ (¬ (((r1 <<< (8 &&& 31)) ||| (r5 &&& 255)) = 15933) → (((r1 <<< (8 &&& 31)) ||| (r5 &&& 255)) = 11822 → vwp E d M_X10_readSign 56 [some (sl 0 2), some (sl b1 c1), some (wi x2), some (wi r1), some (wi ((r1 <<< (8 &&& 31)) ||| (r5 &&& 255)))] [] V5 (zi K)) ∧ (¬ (((r1 <<< (8 &&& 31)) ||| (r5 &&& 255)) = 11822) → (¬ ((r1 <<< (8 &&& 31)) ||| (r5 &&& 255)) = 11582 → vMI E (d - 1) M_J0_indexOf_0f7a4 [wt 4, wi (i2c r1)] V5 (fun r9 V9 => (0 ≤ r9 → vwp E d M_X10_readSign 85 [some (sl 0 2), some (sl b1 c1), some (wi x2), some (wi r1), some (wi ((r1 <<< (8 &&& 31)) ||| (r5 &&& 255)))] [wi 4, sl 0 2] V9 (zi K)) ∧ (¬ (0 ≤ r9) → vwp E d M_X10_readSign 85 [some (sl 0 2), some (sl b1 c1), some (wi x2), some (wi r1), some (wi ((r1 <<< (8 &&& 31)) ||| (r5 &&& 255)))] [wi 1, sl 0 2] V9 (zi K)))) ∧ (((r1 <<< (8 &&& 31)) ||| (r5 &&& 255)) = 11582 → vwp E d M_X10_readSign 56 [some (sl 0 2), some (sl b1 c1), some (wi x2), some (wi r1), some (wi ((r1 <<< (8 &&& 31)) ||| (r5 &&& 255)))] [] V5 (zi K)))))))) : vMI E d M_X10_readSign [sl 0 2, sl b1 c1, wi x2] V K := by
  intro G A hR
  obtain ⟨L, P, rfl, hS⟩ := hR
  have hx := Xt.refl (V := pl G A L P) (A := A)
  show wpM E d M_X10_readSign [vr (A 0 2), vr (A b1 c1), vi x2] G _
  refine wpM_of mk_X10_readSign (Nat.le_of_ble_eq_true rfl) ?_
  refine v_X10_readSign_0 h0 ?_
  refine ⟨hS.o (BS.o hB1), ?_⟩
  refine wpM.mono (h G A ⟨L, P, rfl, hS⟩) (fun rr1 G1 hr => ?_)
  obtain ⟨A1, W1, w1, ⟨L1, P1, rfl, hS1⟩, hy1, rfl, r1, rfl, h⟩ := hr
  refine ⟨r1, rfl, ?_⟩
  have hx1 := Xt.trans hx hy1
  have hg2 : BS L1 b1 c1 := BS.up hy1 hB1
  have ee3 : A1 0 2 = A 0 2 := hy1.2 _ _ hS.1.1 (((n0_2 hS1)).trans ((n0_2 hS)).symm)
  try rw [← ee3]
  have ee4 : A1 b1 c1 = A b1 c1 := hy1.2 _ _ hB1.1 (((BS.n hg2 hS1)).trans ((BS.n hB1 hS)).symm)
  try rw [← ee4]
  refine ⟨hS1.o (BS.o hg2), ?_⟩
  refine wpM.mono (h G1 A1 ⟨L1, P1, rfl, hS1⟩) (fun rr5 G5 hr => ?_)
  obtain ⟨A5, W5, w5, ⟨L5, P5, rfl, hS5⟩, hy5, rfl, r5, rfl, h⟩ := hr
  refine ⟨r5, rfl, ?_⟩
  have hx5 := Xt.trans hx1 hy5
  have hg6 : BS L5 b1 c1 := BS.up hy5 hg2
  have ee7 : A5 0 2 = A1 0 2 := hy5.2 _ _ hS1.1.1 (((n0_2 hS5)).trans ((n0_2 hS1)).symm)
  try rw [← ee7]
  have ee8 : A5 b1 c1 = A1 b1 c1 := hy5.2 _ _ hg2.1 (((BS.n hg6 hS5)).trans ((BS.n hg2 hS1)).symm)
  try rw [← ee8]
  refine ⟨fun hc => ?_, fun hc => ?_⟩
  · have h := h.1 hc
    exact wp.mono (h G5 A5 ⟨L5, P5, rfl, hS5⟩) (fun r G' q => qx_trans hx5 q)
  · have h := h.2 hc
    refine ⟨fun hc => ?_, fun hc => ?_⟩
    · have h := h.1 hc
      exact wp.mono (h G5 A5 ⟨L5, P5, rfl, hS5⟩) (fun r G' q => qx_trans hx5 q)
    · have h := h.2 hc
      refine ⟨fun hc => ?_, fun hc => ?_⟩
      · have h := h.1 hc
        exact wp.mono (h G5 A5 ⟨L5, P5, rfl, hS5⟩) (fun r G' q => qx_trans hx5 q)
      · have h := h.2 hc
        refine ⟨fun hc => ?_, fun hc => ?_⟩
        · have h := h.1 hc
          refine wpM.mono (h G5 A5 ⟨L5, P5, rfl, hS5⟩) (fun rr9 G9 hr => ?_)
          obtain ⟨A9, W9, w9, ⟨L9, P9, rfl, hS9⟩, hy9, rfl, r9, rfl, h⟩ := hr
          refine ⟨r9, rfl, ?_⟩
          have hx9 := Xt.trans hx5 hy9
          have hg10 : BS L9 b1 c1 := BS.up hy9 hg6
          have ee11 : A9 0 2 = A5 0 2 := hy9.2 _ _ hS5.1.1 (((n0_2 hS9)).trans ((n0_2 hS5)).symm)
          try rw [← ee11]
          have ee12 : A9 b1 c1 = A5 b1 c1 := hy9.2 _ _ hg6.1 (((BS.n hg10 hS9)).trans ((BS.n hg6 hS5)).symm)
          try rw [← ee12]
          refine ⟨fun hc => ?_, fun hc => ?_⟩
          · have h := h.1 hc
            exact wp.mono (h G9 A9 ⟨L9, P9, rfl, hS9⟩) (fun r G' q => qx_trans hx9 q)
          · have h := h.2 hc
            exact wp.mono (h G9 A9 ⟨L9, P9, rfl, hS9⟩) (fun r G' q => qx_trans hx9 q)
        · have h := h.2 hc
          exact wp.mono (h G5 A5 ⟨L5, P5, rfl, hS5⟩) (fun r G' q => qx_trans hx5 q)
theorem w_X10_readSign_56 {E : EE} {d : Nat} {V : VH} {K : Int32 → VH → Prop} {b1 c1 : Nat} {x2 : Int32} {x3 : Int32} {x4 : Int32} (hB1 : BS (vL V) b1 c1) (h0 : 0 < d) (h : vMI E (d - 1) M_X10_write [sl 0 2, wi 4, wj (Int32.toInt64 x4), wi x2, wi (x2 + 2)] V (fun r1 V1 => K r1 V1)) : vwp E d M_X10_readSign 56 [some (sl 0 2), some (sl b1 c1), some (wi x2), some (wi x3), some (wi x4)] [] V (zi K) := by
  intro G A hR
  obtain ⟨L, P, rfl, hS⟩ := hR
  have hx := Xt.refl (V := pl G A L P) (A := A)
  show wp E d M_X10_readSign 56 [some (vr (A 0 2)), some (vr (A b1 c1)), some (vi x2), some (vi x3), some (vi x4)] [] G _
  refine v_X10_readSign_56 h0 ?_
  refine ⟨hS.o (s0_2 hS), ?_⟩
  refine wpM.mono (h G A ⟨L, P, rfl, hS⟩) (fun rr1 G1 hr => ?_)
  obtain ⟨A1, W1, w1, ⟨L1, P1, rfl, hS1⟩, hy1, rfl, r1, rfl, h⟩ := hr
  refine ⟨r1, rfl, ?_⟩
  have hx1 := Xt.trans hx hy1
  have hg2 : BS L1 b1 c1 := BS.up hy1 hB1
  have ee3 : A1 0 2 = A 0 2 := hy1.2 _ _ hS.1.1 (((n0_2 hS1)).trans ((n0_2 hS)).symm)
  try rw [← ee3]
  have ee4 : A1 b1 c1 = A b1 c1 := hy1.2 _ _ hB1.1 (((BS.n hg2 hS1)).trans ((BS.n hB1 hS)).symm)
  try rw [← ee4]
  exact qx_i hS1 hx1 h
theorem w_X10_readSign_85 {E : EE} {d : Nat} {V : VH} {K : Int32 → VH → Prop} {b1 c1 : Nat} {x2 : Int32} {x3 : Int32} {x4 : Int32} {t1 : Int32} (hB1 : BS (vL V) b1 c1) (h0 : 0 < d) (h : vMI E (d - 1) M_X10_write [sl 0 2, wi t1, wj (Int32.toInt64 x3), wi x2, wi (x2 + 1)] V (fun r1 V1 => K r1 V1)) : vwp E d M_X10_readSign 85 [some (sl 0 2), some (sl b1 c1), some (wi x2), some (wi x3), some (wi x4)] [wi t1, sl 0 2] V (zi K) := by
  intro G A hR
  obtain ⟨L, P, rfl, hS⟩ := hR
  have hx := Xt.refl (V := pl G A L P) (A := A)
  show wp E d M_X10_readSign 85 [some (vr (A 0 2)), some (vr (A b1 c1)), some (vi x2), some (vi x3), some (vi x4)] [vi t1, vr (A 0 2)] G _
  refine v_X10_readSign_85 h0 ?_
  refine ⟨hS.o (s0_2 hS), ?_⟩
  refine wpM.mono (h G A ⟨L, P, rfl, hS⟩) (fun rr1 G1 hr => ?_)
  obtain ⟨A1, W1, w1, ⟨L1, P1, rfl, hS1⟩, hy1, rfl, r1, rfl, h⟩ := hr
  refine ⟨r1, rfl, ?_⟩
  have hx1 := Xt.trans hx hy1
  have hg2 : BS L1 b1 c1 := BS.up hy1 hB1
  have ee3 : A1 0 2 = A 0 2 := hy1.2 _ _ hS.1.1 (((n0_2 hS1)).trans ((n0_2 hS)).symm)
  try rw [← ee3]
  have ee4 : A1 b1 c1 = A b1 c1 := hy1.2 _ _ hB1.1 (((BS.n hg2 hS1)).trans ((BS.n hB1 hS)).symm)
  try rw [← ee4]
  exact qx_i hS1 hx1 h
theorem w_X10_fail_0 {E : EE} {d : Nat} {V : VH} {K : Int32 → VH → Prop} {x1 : Int32} {x2 : Int32}  (h : ∀ V1 : VH, V1 = wrI V 0 2 10 x1 → ∀ V2 : VH, V2 = wrI V1 0 2 11 x2 → K 0 V2) : vMI E d M_X10_fail [sl 0 2, wi x1, wi x2] V K := by
  intro G A hR
  obtain ⟨L, P, rfl, hS⟩ := hR
  have hx := Xt.refl (V := pl G A L P) (A := A)
  show wpM E d M_X10_fail [vr (A 0 2), vi x1, vi x2] G _
  refine wpM_of mk_X10_fail (Nat.le_of_ble_eq_true rfl) ?_
  refine v_X10_fail_0 ?_
  refine ⟨hS.o (s0_2 hS), ?_⟩
  intro G1 eG1
  have hS1 : Sh E G1 A L P := Sh_sI eG1 hS (s0_2 hS) (okT_0 rfl)
  have h := h (pl G1 A L P) (pl_sI eG1 hS (s0_2 hS))
  have hx1 : Xt (pl G A L P) A (pl G1 A L P) A := Xt_sI eG1 hx
  intro G2 eG2
  have hS2 : Sh E G2 A L P := Sh_sI eG2 hS1 (s0_2 hS1) (okT_0 rfl)
  have h := h (pl G2 A L P) (pl_sI eG2 hS1 (s0_2 hS1))
  have hx2 : Xt (pl G A L P) A (pl G2 A L P) A := Xt_sI eG2 hx1
  exact qx_i hS2 hx2 h
theorem w_X10_is_0 {E : EE} {d : Nat} {V : VH} {K : Int32 → VH → Prop} {x1 : Int32}  (h : (¬ (vI V 0 2 6) = 4 → K 0 V) ∧ ((vI V 0 2 6) = 4 → (¬ (vJ V 0 2 7) = (Int32.toInt64 x1) → K 0 V) ∧ ((vJ V 0 2 7) = (Int32.toInt64 x1) → K 1 V))) : vMI E d M_X10_is [sl 0 2, wi x1] V K := by
  intro G A hR
  obtain ⟨L, P, rfl, hS⟩ := hR
  have hx := Xt.refl (V := pl G A L P) (A := A)
  show wpM E d M_X10_is [vr (A 0 2), vi x1] G _
  refine wpM_of mk_X10_is (Nat.le_of_ble_eq_true rfl) ?_
  refine v_X10_is_0 ?_
  refine ⟨hS.o (s0_2 hS), ?_⟩
  refine ⟨fun hc => ?_, fun hc => ?_⟩
  · have h := h.1 hc
    exact qx_i hS hx h
  · have h := h.2 hc
    refine ⟨fun hc => ?_, fun hc => ?_⟩
    · have h := h.1 hc
      exact qx_i hS hx h
    · have h := h.2 hc
      exact qx_i hS hx h
theorem w_X10_refuse_0 {E : EE} {d : Nat} {V : VH} {K : Int32 → VH → Prop}   (h : (¬ (vI V 0 2 6) = 1 → vwp E d M_X10_refuse 14 [some (sl 0 2)] [wi 2, sl 0 2] V (zi K)) ∧ ((vI V 0 2 6) = 1 → vwp E d M_X10_refuse 14 [some (sl 0 2)] [wi 1, sl 0 2] V (zi K))) : vMI E d M_X10_refuse [sl 0 2] V K := by
  intro G A hR
  obtain ⟨L, P, rfl, hS⟩ := hR
  have hx := Xt.refl (V := pl G A L P) (A := A)
  show wpM E d M_X10_refuse [vr (A 0 2)] G _
  refine wpM_of mk_X10_refuse (Nat.le_of_ble_eq_true rfl) ?_
  refine v_X10_refuse_0 ?_
  refine ⟨hS.o (s0_2 hS), ?_⟩
  refine ⟨fun hc => ?_, fun hc => ?_⟩
  · have h := h.1 hc
    exact wp.mono (h G A ⟨L, P, rfl, hS⟩) (fun r G' q => qx_trans hx q)
  · have h := h.2 hc
    exact wp.mono (h G A ⟨L, P, rfl, hS⟩) (fun r G' q => qx_trans hx q)
theorem w_X10_refuse_14 {E : EE} {d : Nat} {V : VH} {K : Int32 → VH → Prop} {t1 : Int32}  (h : ∀ V1 : VH, V1 = wrI V 0 2 10 t1 → ∀ V2 : VH, V2 = wrI V1 0 2 11 (vI V1 0 2 8) → K 0 V2) : vwp E d M_X10_refuse 14 [some (sl 0 2)] [wi t1, sl 0 2] V (zi K) := by
  intro G A hR
  obtain ⟨L, P, rfl, hS⟩ := hR
  have hx := Xt.refl (V := pl G A L P) (A := A)
  show wp E d M_X10_refuse 14 [some (vr (A 0 2))] [vi t1, vr (A 0 2)] G _
  refine v_X10_refuse_14 ?_
  refine ⟨hS.o (s0_2 hS), ?_⟩
  intro G1 eG1
  have hS1 : Sh E G1 A L P := Sh_sI eG1 hS (s0_2 hS) (okT_0 rfl)
  have h := h (pl G1 A L P) (pl_sI eG1 hS (s0_2 hS))
  have hx1 : Xt (pl G A L P) A (pl G1 A L P) A := Xt_sI eG1 hx
  refine ⟨hS1.o (s0_2 hS1), ?_⟩
  intro G2 eG2
  have hS2 : Sh E G2 A L P := Sh_sI eG2 hS1 (s0_2 hS1) (okT_0 rfl)
  have h := h (pl G2 A L P) (pl_sI eG2 hS1 (s0_2 hS1))
  have hx2 : Xt (pl G A L P) A (pl G2 A L P) A := Xt_sI eG2 hx1
  exact qx_i hS2 hx2 h
theorem w_X10_accept_0 {E : EE} {d : Nat} {V : VH} {K : Int32 → VH → Prop} {x1 : Int32}  (h0 : 0 < d) (h : (¬ (vI V 0 2 6) = 4 → vwp E d M_X10_accept 18 [some (sl 0 2), some (wi x1)] [] V (zi K)) ∧ ((vI V 0 2 6) = 4 → ((vJ V 0 2 7) = (Int32.toInt64 x1) → vMV E (d - 1) M_X10_step [sl 0 2] V (fun V1 => K 1 V1)) ∧ (¬ ((vJ V 0 2 7) = (Int32.toInt64 x1)) → vwp E d M_X10_accept 18 [some (sl 0 2), some (wi x1)] [] V (zi K)))) : vMI E d M_X10_accept [sl 0 2, wi x1] V K := by
  intro G A hR
  obtain ⟨L, P, rfl, hS⟩ := hR
  have hx := Xt.refl (V := pl G A L P) (A := A)
  show wpM E d M_X10_accept [vr (A 0 2), vi x1] G _
  refine wpM_of mk_X10_accept (Nat.le_of_ble_eq_true rfl) ?_
  refine v_X10_accept_0 h0 ?_
  refine ⟨hS.o (s0_2 hS), ?_⟩
  refine ⟨fun hc => ?_, fun hc => ?_⟩
  · have h := h.1 hc
    exact wp.mono (h G A ⟨L, P, rfl, hS⟩) (fun r G' q => qx_trans hx q)
  · have h := h.2 hc
    refine ⟨fun hc => ?_, fun hc => ?_⟩
    · have h := h.1 hc
      refine wpM.mono (h G A ⟨L, P, rfl, hS⟩) (fun rr1 G1 hr => ?_)
      obtain ⟨A1, W1, w1, ⟨L1, P1, rfl, hS1⟩, hy1, rfl, rfl, h⟩ := hr
      refine ⟨rfl, ?_⟩
      have hx1 := Xt.trans hx hy1
      have ee2 : A1 0 2 = A 0 2 := hy1.2 _ _ hS.1.1 (((n0_2 hS1)).trans ((n0_2 hS)).symm)
      try rw [← ee2]
      exact qx_i hS1 hx1 h
    · have h := h.2 hc
      exact wp.mono (h G A ⟨L, P, rfl, hS⟩) (fun r G' q => qx_trans hx q)
theorem w_X10_accept_18 {E : EE} {d : Nat} {V : VH} {K : Int32 → VH → Prop} {x1 : Int32}  (h0 : 0 < d) (h : vMI E (d - 1) M_X10_refuse [sl 0 2] V (fun r1 V1 => bz r1 ∧ K r1 V1)) : vwp E d M_X10_accept 18 [some (sl 0 2), some (wi x1)] [] V (zi K) := by
  intro G A hR
  obtain ⟨L, P, rfl, hS⟩ := hR
  have hx := Xt.refl (V := pl G A L P) (A := A)
  show wp E d M_X10_accept 18 [some (vr (A 0 2)), some (vi x1)] [] G _
  refine v_X10_accept_18 h0 ?_
  refine ⟨hS.o (s0_2 hS), ?_⟩
  refine wpM.mono (h G A ⟨L, P, rfl, hS⟩) (fun rr1 G1 hr => ?_)
  obtain ⟨A1, W1, w1, ⟨L1, P1, rfl, hS1⟩, hy1, rfl, r1, rfl, h⟩ := hr
  refine ⟨r1, rfl, ?_⟩
  have hx1 := Xt.trans hx hy1
  have ee2 : A1 0 2 = A 0 2 := hy1.2 _ _ hS.1.1 (((n0_2 hS1)).trans ((n0_2 hS)).symm)
  try rw [← ee2]
  exact ⟨bz_ok h.1, qx_i hS1 hx1 h.2⟩
theorem w_X7_clear_0 {E : EE} {d : Nat} {V : VH} {K : VH → Prop} {g : Nat} (hg : PG (vL V) g) (h : ∀ V1 : VH, V1 = wrI V g 5 0 0 → ∀ V2 : VH, V2 = wrI V1 g 5 1 1 → K V2) : vMV E d M_X7_clear [sl g 5] V K := by
  intro G A hR
  obtain ⟨L, P, rfl, hS⟩ := hR
  have hx := Xt.refl (V := pl G A L P) (A := A)
  show wpM E d M_X7_clear [vr (A g 5)] G _
  refine wpM_of mk_X7_clear (Nat.le_of_ble_eq_true rfl) ?_
  refine v_X7_clear_0 ?_
  refine ⟨hS.o (sP_5 hg), ?_⟩
  intro G1 eG1
  have hS1 : Sh E G1 A L P := Sh_sI eG1 hS (sP_5 hg) (okT_0 rfl)
  have h := h (pl G1 A L P) (pl_sI eG1 hS (sP_5 hg))
  have hx1 : Xt (pl G A L P) A (pl G1 A L P) A := Xt_sI eG1 hx
  intro G2 eG2
  have hS2 : Sh E G2 A L P := Sh_sI eG2 hS1 (sP_5 hg) (okT_0 rfl)
  have h := h (pl G2 A L P) (pl_sI eG2 hS1 (sP_5 hg))
  have hx2 : Xt (pl G A L P) A (pl G2 A L P) A := Xt_sI eG2 hx1
  exact qx_v hS2 hx2 h
theorem w_X7_add_0 {E : EE} {d : Nat} {V : VH} {K : Int32 → VH → Prop} {g : Nat} {a1 f1 : Nat} {x2 : Int32} (hg : PG (vL V) g) (hA1 : SL (vL V) a1 f1 14) (h : (12 ≤ (vI V g 5 0) → K 0 V) ∧ (¬ (12 ≤ (vI V g 5 0)) → (x2 < 1 → K 0 V) ∧ (¬ (x2 < 1) → (20 < x2 → K 0 V) ∧ (¬ (20 < x2) → ((nI (vN V a1 f1)) < x2 → K 0 V) ∧ (¬ ((nI (vN V a1 f1)) < x2) → (((vI V g 5 1) * x2) ≤ 20000 → vwp E d M_X7_add 42 [some (sl g 5), some (sl a1 f1), some (wi x2), some (wi 0)] [] V (zi K)) ∧ (¬ (((vI V g 5 1) * x2) ≤ 20000) → K 0 V)))))) : vMI E d M_X7_add [sl g 5, sl a1 f1, wi x2] V K := by
  intro G A hR
  obtain ⟨L, P, rfl, hS⟩ := hR
  have hx := Xt.refl (V := pl G A L P) (A := A)
  show wpM E d M_X7_add [vr (A g 5), vr (A a1 f1), vi x2] G _
  refine wpM_of mk_X7_add (Nat.le_of_ble_eq_true rfl) ?_
  refine v_X7_add_0 ?_
  refine ⟨hS.o (sP_5 hg), ?_⟩
  refine ⟨fun hc => ?_, fun hc => ?_⟩
  · have h := h.1 hc
    exact qx_i hS hx h
  · have h := h.2 hc
    refine ⟨fun hc => ?_, fun hc => ?_⟩
    · have h := h.1 hc
      exact qx_i hS hx h
    · have h := h.2 hc
      refine ⟨fun hc => ?_, fun hc => ?_⟩
      · have h := h.1 hc
        exact qx_i hS hx h
      · have h := h.2 hc
        refine ⟨hS.o hA1, ?_⟩
        refine ⟨fun hc => ?_, fun hc => ?_⟩
        · have h := h.1 hc
          exact qx_i hS hx h
        · have h := h.2 hc
          refine ⟨fun hc => ?_, fun hc => ?_⟩
          · have h := h.1 hc
            exact wp.mono (h G A ⟨L, P, rfl, hS⟩) (fun r G' q => qx_trans hx q)
          · have h := h.2 hc
            exact qx_i hS hx h
theorem w_X7_add_42 {E : EE} {d : Nat} {V : VH} {K : Int32 → VH → Prop} {g : Nat} {a1 f1 : Nat} {x2 : Int32} {x3 : Int32} (hg : PG (vL V) g) (hA1 : SL (vL V) a1 f1 14) (h : ((vI V g 5 0) ≤ x3 → vwp E d M_X7_add 68 [some (sl g 5), some (sl a1 f1), some (wi x2), some (wi 0)] [] V (zi K)) ∧ (¬ ((vI V g 5 0) ≤ x3) → vp_in x3 12 ∧ (vp_in x3 12 ∧ (∀ V3 : VH, V3 = wrI V g 8 (Int32.toNatClampNeg x3) ((vI V g 8 (Int32.toNatClampNeg x3)) * x2) → vwp E d M_X7_add 42 [some (sl g 5), some (sl a1 f1), some (wi x2), some (wi (x3 + 1))] [] V3 (zi K))))) : vwp E d M_X7_add 42 [some (sl g 5), some (sl a1 f1), some (wi x2), some (wi x3)] [] V (zi K) := by
  intro G A hR
  obtain ⟨L, P, rfl, hS⟩ := hR
  have hx := Xt.refl (V := pl G A L P) (A := A)
  show wp E d M_X7_add 42 [some (vr (A g 5)), some (vr (A a1 f1)), some (vi x2), some (vi x3)] [] G _
  refine v_X7_add_42 ?_
  refine ⟨hS.o (sP_5 hg), ?_⟩
  refine ⟨fun hc => ?_, fun hc => ?_⟩
  · have h := h.1 hc
    exact wp.mono (h G A ⟨L, P, rfl, hS⟩) (fun r G' q => qx_trans hx q)
  · have h := h.2 hc
    rw [lP_5_4 hS hg]
    refine ⟨hS.o (sP_8 hg), ?_⟩
    obtain ⟨hi1, h⟩ := h
    refine ⟨by first | (rw [(nP_8 hS hg)]; exact hi1) | exact (congrArg (vp_in _) (nP_8 hS hg)).mpr hi1 | exact hi1, ?_⟩
    obtain ⟨hi2, h⟩ := h
    refine ⟨by first | (rw [(nP_8 hS hg)]; exact hi2) | exact (congrArg (vp_in _) (nP_8 hS hg)).mpr hi2 | exact hi2, ?_⟩
    have hS3 : Sh E (sI G (A g 8) (Int32.toNatClampNeg x3) ((gI G (A g 8) (Int32.toNatClampNeg x3)) * x2)) A L P := Sh_sI (rfl : sI G (A g 8) (Int32.toNatClampNeg x3) ((gI G (A g 8) (Int32.toNatClampNeg x3)) * x2) = sI G (A g 8) (Int32.toNatClampNeg x3) ((gI G (A g 8) (Int32.toNatClampNeg x3)) * x2)) hS (sP_8 hg) (okT_0 rfl)
    have h := h (pl (sI G (A g 8) (Int32.toNatClampNeg x3) ((gI G (A g 8) (Int32.toNatClampNeg x3)) * x2)) A L P) (pl_sI (rfl : sI G (A g 8) (Int32.toNatClampNeg x3) ((gI G (A g 8) (Int32.toNatClampNeg x3)) * x2) = sI G (A g 8) (Int32.toNatClampNeg x3) ((gI G (A g 8) (Int32.toNatClampNeg x3)) * x2)) hS (sP_8 hg))
    have hx3 : Xt (pl G A L P) A (pl (sI G (A g 8) (Int32.toNatClampNeg x3) ((gI G (A g 8) (Int32.toNatClampNeg x3)) * x2)) A L P) A := Xt_sI (rfl : sI G (A g 8) (Int32.toNatClampNeg x3) ((gI G (A g 8) (Int32.toNatClampNeg x3)) * x2) = sI G (A g 8) (Int32.toNatClampNeg x3) ((gI G (A g 8) (Int32.toNatClampNeg x3)) * x2)) hx
    exact wp.mono (h (sI G (A g 8) (Int32.toNatClampNeg x3) ((gI G (A g 8) (Int32.toNatClampNeg x3)) * x2)) A ⟨L, P, rfl, hS3⟩) (fun r G' q => qx_trans hx3 q)
theorem w_X7_add_68 {E : EE} {d : Nat} {V : VH} {K : Int32 → VH → Prop} {g : Nat} {a1 f1 : Nat} {x2 : Int32} {x3 : Int32} (hg : PG (vL V) g) (hA1 : SL (vL V) a1 f1 14) (h : (x2 ≤ x3 → vp_in (vI V g 5 0) 12 ∧ (∀ V2 : VH, V2 = wrI V g 6 (Int32.toNatClampNeg (vI V g 5 0)) x2 → vp_in (vI V2 g 5 0) 12 ∧ (∀ V4 : VH, V4 = wrI V2 g 8 (Int32.toNatClampNeg (vI V2 g 5 0)) 1 → ∀ V5 : VH, V5 = wrI V4 g 5 1 ((vI V4 g 5 1) * x2) → ∀ V6 : VH, V6 = wrI V5 g 5 0 ((vI V5 g 5 0) + 1) → K 1 V6))) ∧ (¬ (x2 ≤ x3) → vp_in x3 (vN V a1 f1) ∧ (vp_in (((vI V g 5 0) * 20) + x3) 240 ∧ (∀ V9 : VH, V9 = wrI V g 7 (Int32.toNatClampNeg (((vI V g 5 0) * 20) + x3)) (vI V a1 f1 (Int32.toNatClampNeg x3)) → vwp E d M_X7_add 68 [some (sl g 5), some (sl a1 f1), some (wi x2), some (wi (x3 + 1))] [] V9 (zi K))))) : vwp E d M_X7_add 68 [some (sl g 5), some (sl a1 f1), some (wi x2), some (wi x3)] [] V (zi K) := by
  intro G A hR
  obtain ⟨L, P, rfl, hS⟩ := hR
  have hx := Xt.refl (V := pl G A L P) (A := A)
  show wp E d M_X7_add 68 [some (vr (A g 5)), some (vr (A a1 f1)), some (vi x2), some (vi x3)] [] G _
  refine v_X7_add_68 ?_
  refine ⟨fun hc => ?_, fun hc => ?_⟩
  · have h := h.1 hc
    refine ⟨hS.o (sP_5 hg), ?_⟩
    rw [lP_5_2 hS hg]
    refine ⟨hS.o (sP_6 hg), ?_⟩
    obtain ⟨hi1, h⟩ := h
    refine ⟨by first | (rw [(nP_6 hS hg)]; exact hi1) | exact (congrArg (vp_in _) (nP_6 hS hg)).mpr hi1 | exact hi1, ?_⟩
    intro G2 eG2
    have hS2 : Sh E G2 A L P := Sh_sI eG2 hS (sP_6 hg) (okT_0 rfl)
    have h := h (pl G2 A L P) (pl_sI eG2 hS (sP_6 hg))
    have hx2 : Xt (pl G A L P) A (pl G2 A L P) A := Xt_sI eG2 hx
    rw [lP_5_4 hS2 hg]
    refine ⟨hS2.o (sP_8 hg), ?_⟩
    obtain ⟨hi3, h⟩ := h
    refine ⟨by first | (rw [(nP_8 hS2 hg)]; exact hi3) | exact (congrArg (vp_in _) (nP_8 hS2 hg)).mpr hi3 | exact hi3, ?_⟩
    intro G4 eG4
    have hS4 : Sh E G4 A L P := Sh_sI eG4 hS2 (sP_8 hg) (okT_0 rfl)
    have h := h (pl G4 A L P) (pl_sI eG4 hS2 (sP_8 hg))
    have hx4 : Xt (pl G A L P) A (pl G4 A L P) A := Xt_sI eG4 hx2
    intro G5 eG5
    have hS5 : Sh E G5 A L P := Sh_sI eG5 hS4 (sP_5 hg) (okT_0 rfl)
    have h := h (pl G5 A L P) (pl_sI eG5 hS4 (sP_5 hg))
    have hx5 : Xt (pl G A L P) A (pl G5 A L P) A := Xt_sI eG5 hx4
    intro G6 eG6
    have hS6 : Sh E G6 A L P := Sh_sI eG6 hS5 (sP_5 hg) (okT_0 rfl)
    have h := h (pl G6 A L P) (pl_sI eG6 hS5 (sP_5 hg))
    have hx6 : Xt (pl G A L P) A (pl G6 A L P) A := Xt_sI eG6 hx5
    exact qx_i hS6 hx6 h
  · have h := h.2 hc
    refine ⟨hS.o (sP_5 hg), ?_⟩
    rw [lP_5_3 hS hg]
    refine ⟨hS.o hA1, ?_⟩
    obtain ⟨hi7, h⟩ := h
    refine ⟨hi7, ?_⟩
    refine ⟨hS.o (sP_7 hg), ?_⟩
    obtain ⟨hi8, h⟩ := h
    refine ⟨by first | (rw [(nP_7 hS hg)]; exact hi8) | exact (congrArg (vp_in _) (nP_7 hS hg)).mpr hi8 | exact hi8, ?_⟩
    intro G9 eG9
    have hS9 : Sh E G9 A L P := Sh_sI eG9 hS (sP_7 hg) (okT_0 rfl)
    have h := h (pl G9 A L P) (pl_sI eG9 hS (sP_7 hg))
    have hx9 : Xt (pl G A L P) A (pl G9 A L P) A := Xt_sI eG9 hx
    exact wp.mono (h G9 A ⟨L, P, rfl, hS9⟩) (fun r G' q => qx_trans hx9 q)
theorem w_X7_placeOfValue_0 {E : EE} {d : Nat} {V : VH} {K : Int32 → VH → Prop} {g : Nat} {x1 : Int32} {x2 : Int32} (hg : PG (vL V) g) (h : (x1 < 0 → K (-1) V) ∧ (¬ (x1 < 0) → (x1 < (vI V g 5 0) → vwp E d M_X7_placeOfValue 16 [some (sl g 5), some (wi x1), some (wi x2), some (wi 0)] [] V (zi K)) ∧ (¬ (x1 < (vI V g 5 0)) → K (-1) V))) : vMI E d M_X7_placeOfValue [sl g 5, wi x1, wi x2] V K := by
  intro G A hR
  obtain ⟨L, P, rfl, hS⟩ := hR
  have hx := Xt.refl (V := pl G A L P) (A := A)
  show wpM E d M_X7_placeOfValue [vr (A g 5), vi x1, vi x2] G _
  refine wpM_of mk_X7_placeOfValue (Nat.le_of_ble_eq_true rfl) ?_
  refine v_X7_placeOfValue_0 ?_
  refine ⟨fun hc => ?_, fun hc => ?_⟩
  · have h := h.1 hc
    exact qx_i hS hx h
  · have h := h.2 hc
    refine ⟨hS.o (sP_5 hg), ?_⟩
    refine ⟨fun hc => ?_, fun hc => ?_⟩
    · have h := h.1 hc
      exact wp.mono (h G A ⟨L, P, rfl, hS⟩) (fun r G' q => qx_trans hx q)
    · have h := h.2 hc
      exact qx_i hS hx h
theorem w_X7_placeOfValue_16 {E : EE} {d : Nat} {V : VH} {K : Int32 → VH → Prop} {g : Nat} {x1 : Int32} {x2 : Int32} {x3 : Int32} (hg : PG (vL V) g) (h : vp_in x1 12 ∧ (((vI V g 6 (Int32.toNatClampNeg x1)) ≤ x3 → K (-1) V) ∧ (¬ ((vI V g 6 (Int32.toNatClampNeg x1)) ≤ x3) → vp_in ((x1 * 20) + x3) 240 ∧ ((¬ (vI V g 7 (Int32.toNatClampNeg ((x1 * 20) + x3))) = x2 → vwp E d M_X7_placeOfValue 16 [some (sl g 5), some (wi x1), some (wi x2), some (wi (x3 + 1))] [] V (zi K)) ∧ ((vI V g 7 (Int32.toNatClampNeg ((x1 * 20) + x3))) = x2 → K x3 V))))) : vwp E d M_X7_placeOfValue 16 [some (sl g 5), some (wi x1), some (wi x2), some (wi x3)] [] V (zi K) := by
  intro G A hR
  obtain ⟨L, P, rfl, hS⟩ := hR
  have hx := Xt.refl (V := pl G A L P) (A := A)
  show wp E d M_X7_placeOfValue 16 [some (vr (A g 5)), some (vi x1), some (vi x2), some (vi x3)] [] G _
  refine v_X7_placeOfValue_16 ?_
  refine ⟨hS.o (sP_5 hg), ?_⟩
  rw [lP_5_2 hS hg]
  refine ⟨hS.o (sP_6 hg), ?_⟩
  obtain ⟨hi1, h⟩ := h
  refine ⟨by first | (rw [(nP_6 hS hg)]; exact hi1) | exact (congrArg (vp_in _) (nP_6 hS hg)).mpr hi1 | exact hi1, ?_⟩
  refine ⟨fun hc => ?_, fun hc => ?_⟩
  · have h := h.1 hc
    exact qx_i hS hx h
  · have h := h.2 hc
    rw [lP_5_3 hS hg]
    refine ⟨hS.o (sP_7 hg), ?_⟩
    obtain ⟨hi2, h⟩ := h
    refine ⟨by first | (rw [(nP_7 hS hg)]; exact hi2) | exact (congrArg (vp_in _) (nP_7 hS hg)).mpr hi2 | exact hi2, ?_⟩
    refine ⟨fun hc => ?_, fun hc => ?_⟩
    · have h := h.1 hc
      exact wp.mono (h G A ⟨L, P, rfl, hS⟩) (fun r G' q => qx_trans hx q)
    · have h := h.2 hc
      exact qx_i hS hx h
theorem w_X7_moved_0 {E : EE} {d : Nat} {V : VH} {K : Int32 → VH → Prop} {g : Nat} {x1 : Int32} {x2 : Int32} {x3 : Int32} (hg : PG (vL V) g) (h0 : 0 < d) (h : (x2 < 0 → K x1 V) ∧ (¬ (x2 < 0) → (x2 < (vI V g 5 0) → vMI E (d - 1) M_X7_placeOf [sl g 5, wi x1, wi x2] V (fun r1 V1 => vp_in x2 12 ∧ (K (x1 + ((x3 - r1) * (vI V1 g 8 (Int32.toNatClampNeg x2)))) V1))) ∧ (¬ (x2 < (vI V g 5 0)) → K x1 V))) : vMI E d M_X7_moved [sl g 5, wi x1, wi x2, wi x3] V K := by
  intro G A hR
  obtain ⟨L, P, rfl, hS⟩ := hR
  have hx := Xt.refl (V := pl G A L P) (A := A)
  show wpM E d M_X7_moved [vr (A g 5), vi x1, vi x2, vi x3] G _
  refine wpM_of mk_X7_moved (Nat.le_of_ble_eq_true rfl) ?_
  refine v_X7_moved_0 h0 ?_
  refine ⟨fun hc => ?_, fun hc => ?_⟩
  · have h := h.1 hc
    exact qx_i hS hx h
  · have h := h.2 hc
    refine ⟨hS.o (sP_5 hg), ?_⟩
    refine ⟨fun hc => ?_, fun hc => ?_⟩
    · have h := h.1 hc
      refine wpM.mono (h G A ⟨L, P, rfl, hS⟩) (fun rr1 G1 hr => ?_)
      obtain ⟨A1, W1, w1, ⟨L1, P1, rfl, hS1⟩, hy1, rfl, r1, rfl, h⟩ := hr
      refine ⟨r1, rfl, ?_⟩
      have hx1 := Xt.trans hx hy1
      have hg2 : PG L1 g := PG.up hy1 hg
      have ee3 : A1 g 5 = A g 5 := hy1.2 _ _ hg.1 (((nP_5 hS1 hg2)).trans ((nP_5 hS hg)).symm)
      try rw [← ee3]
      refine ⟨hS1.o (sP_5 hg2), ?_⟩
      rw [lP_5_4 hS1 hg2]
      refine ⟨hS1.o (sP_8 hg2), ?_⟩
      obtain ⟨hi4, h⟩ := h
      refine ⟨by first | (rw [(nP_8 hS1 hg2)]; exact hi4) | exact (congrArg (vp_in _) (nP_8 hS1 hg2)).mpr hi4 | exact hi4, ?_⟩
      exact qx_i hS1 hx1 h
    · have h := h.2 hc
      exact qx_i hS hx h
theorem w_X7_placeOf_0 {E : EE} {d : Nat} {V : VH} {K : Int32 → VH → Prop} {g : Nat} {x1 : Int32} {x2 : Int32} (hg : PG (vL V) g) (h : (x2 < 0 → K 0 V) ∧ (¬ (x2 < 0) → ((vI V g 5 0) ≤ x2 → K 0 V) ∧ (¬ ((vI V g 5 0) ≤ x2) → vp_in x2 12 ∧ (((vI V g 8 (Int32.toNatClampNeg x2)) < 1 → K 0 V) ∧ (¬ ((vI V g 8 (Int32.toNatClampNeg x2)) < 1) → vp_in x2 12 ∧ ((1 ≤ (vI V g 6 (Int32.toNatClampNeg x2)) → vp_in x2 12 ∧ (¬ (vI V g 8 (Int32.toNatClampNeg x2)) = 0 ∧ (vp_in x2 12 ∧ (¬ (vI V g 6 (Int32.toNatClampNeg x2)) = 0 ∧ (K ((x1 / (vI V g 8 (Int32.toNatClampNeg x2))) - (x1 / (vI V g 8 (Int32.toNatClampNeg x2))) / (vI V g 6 (Int32.toNatClampNeg x2)) * (vI V g 6 (Int32.toNatClampNeg x2))) V))))) ∧ (¬ (1 ≤ (vI V g 6 (Int32.toNatClampNeg x2))) → K 0 V))))))) : vMI E d M_X7_placeOf [sl g 5, wi x1, wi x2] V K := by
  intro G A hR
  obtain ⟨L, P, rfl, hS⟩ := hR
  have hx := Xt.refl (V := pl G A L P) (A := A)
  show wpM E d M_X7_placeOf [vr (A g 5), vi x1, vi x2] G _
  refine wpM_of mk_X7_placeOf (Nat.le_of_ble_eq_true rfl) ?_
  refine v_X7_placeOf_0 ?_
  refine ⟨fun hc => ?_, fun hc => ?_⟩
  · have h := h.1 hc
    exact qx_i hS hx h
  · have h := h.2 hc
    refine ⟨hS.o (sP_5 hg), ?_⟩
    refine ⟨fun hc => ?_, fun hc => ?_⟩
    · have h := h.1 hc
      exact qx_i hS hx h
    · have h := h.2 hc
      rw [lP_5_4 hS hg]
      refine ⟨hS.o (sP_8 hg), ?_⟩
      obtain ⟨hi1, h⟩ := h
      refine ⟨by first | (rw [(nP_8 hS hg)]; exact hi1) | exact (congrArg (vp_in _) (nP_8 hS hg)).mpr hi1 | exact hi1, ?_⟩
      refine ⟨fun hc => ?_, fun hc => ?_⟩
      · have h := h.1 hc
        exact qx_i hS hx h
      · have h := h.2 hc
        rw [lP_5_2 hS hg]
        refine ⟨hS.o (sP_6 hg), ?_⟩
        obtain ⟨hi2, h⟩ := h
        refine ⟨by first | (rw [(nP_6 hS hg)]; exact hi2) | exact (congrArg (vp_in _) (nP_6 hS hg)).mpr hi2 | exact hi2, ?_⟩
        refine ⟨fun hc => ?_, fun hc => ?_⟩
        · have h := h.1 hc
          obtain ⟨hi3, h⟩ := h
          refine ⟨by first | (rw [(nP_8 hS hg)]; exact hi3) | exact (congrArg (vp_in _) (nP_8 hS hg)).mpr hi3 | exact hi3, ?_⟩
          obtain ⟨hz4, h⟩ := h
          refine ⟨hz4, ?_⟩
          obtain ⟨hi5, h⟩ := h
          refine ⟨by first | (rw [(nP_6 hS hg)]; exact hi5) | exact (congrArg (vp_in _) (nP_6 hS hg)).mpr hi5 | exact hi5, ?_⟩
          obtain ⟨hz6, h⟩ := h
          refine ⟨hz6, ?_⟩
          exact qx_i hS hx h
        · have h := h.2 hc
          exact qx_i hS hx h
theorem w_X7_valueOf_0 {E : EE} {d : Nat} {V : VH} {K : Int32 → VH → Prop} {g : Nat} {x1 : Int32} {x2 : Int32} (hg : PG (vL V) g) (h : (x2 < 0 → K 0 V) ∧ (¬ (x2 < 0) → ((vI V g 5 0) ≤ x2 → K 0 V) ∧ (¬ ((vI V g 5 0) ≤ x2) → vp_in x2 12 ∧ (((vI V g 8 (Int32.toNatClampNeg x2)) < 1 → K 0 V) ∧ (¬ ((vI V g 8 (Int32.toNatClampNeg x2)) < 1) → vp_in x2 12 ∧ ((1 ≤ (vI V g 6 (Int32.toNatClampNeg x2)) → vp_in x2 12 ∧ (¬ (vI V g 8 (Int32.toNatClampNeg x2)) = 0 ∧ (vp_in x2 12 ∧ (¬ (vI V g 6 (Int32.toNatClampNeg x2)) = 0 ∧ (vp_in ((x2 * 20) + ((x1 / (vI V g 8 (Int32.toNatClampNeg x2))) - (x1 / (vI V g 8 (Int32.toNatClampNeg x2))) / (vI V g 6 (Int32.toNatClampNeg x2)) * (vI V g 6 (Int32.toNatClampNeg x2)))) 240 ∧ (K (vI V g 7 (Int32.toNatClampNeg ((x2 * 20) + ((x1 / (vI V g 8 (Int32.toNatClampNeg x2))) - (x1 / (vI V g 8 (Int32.toNatClampNeg x2))) / (vI V g 6 (Int32.toNatClampNeg x2)) * (vI V g 6 (Int32.toNatClampNeg x2)))))) V)))))) ∧ (¬ (1 ≤ (vI V g 6 (Int32.toNatClampNeg x2))) → K 0 V))))))) : vMI E d M_X7_valueOf [sl g 5, wi x1, wi x2] V K := by
  intro G A hR
  obtain ⟨L, P, rfl, hS⟩ := hR
  have hx := Xt.refl (V := pl G A L P) (A := A)
  show wpM E d M_X7_valueOf [vr (A g 5), vi x1, vi x2] G _
  refine wpM_of mk_X7_valueOf (Nat.le_of_ble_eq_true rfl) ?_
  refine v_X7_valueOf_0 ?_
  refine ⟨fun hc => ?_, fun hc => ?_⟩
  · have h := h.1 hc
    exact qx_i hS hx h
  · have h := h.2 hc
    refine ⟨hS.o (sP_5 hg), ?_⟩
    refine ⟨fun hc => ?_, fun hc => ?_⟩
    · have h := h.1 hc
      exact qx_i hS hx h
    · have h := h.2 hc
      rw [lP_5_4 hS hg]
      refine ⟨hS.o (sP_8 hg), ?_⟩
      obtain ⟨hi1, h⟩ := h
      refine ⟨by first | (rw [(nP_8 hS hg)]; exact hi1) | exact (congrArg (vp_in _) (nP_8 hS hg)).mpr hi1 | exact hi1, ?_⟩
      refine ⟨fun hc => ?_, fun hc => ?_⟩
      · have h := h.1 hc
        exact qx_i hS hx h
      · have h := h.2 hc
        rw [lP_5_2 hS hg]
        refine ⟨hS.o (sP_6 hg), ?_⟩
        obtain ⟨hi2, h⟩ := h
        refine ⟨by first | (rw [(nP_6 hS hg)]; exact hi2) | exact (congrArg (vp_in _) (nP_6 hS hg)).mpr hi2 | exact hi2, ?_⟩
        refine ⟨fun hc => ?_, fun hc => ?_⟩
        · have h := h.1 hc
          rw [lP_5_3 hS hg]
          obtain ⟨hi3, h⟩ := h
          refine ⟨by first | (rw [(nP_8 hS hg)]; exact hi3) | exact (congrArg (vp_in _) (nP_8 hS hg)).mpr hi3 | exact hi3, ?_⟩
          obtain ⟨hz4, h⟩ := h
          refine ⟨hz4, ?_⟩
          obtain ⟨hi5, h⟩ := h
          refine ⟨by first | (rw [(nP_6 hS hg)]; exact hi5) | exact (congrArg (vp_in _) (nP_6 hS hg)).mpr hi5 | exact hi5, ?_⟩
          obtain ⟨hz6, h⟩ := h
          refine ⟨hz6, ?_⟩
          refine ⟨hS.o (sP_7 hg), ?_⟩
          obtain ⟨hi7, h⟩ := h
          refine ⟨by first | (rw [(nP_7 hS hg)]; exact hi7) | exact (congrArg (vp_in _) (nP_7 hS hg)).mpr hi7 | exact hi7, ?_⟩
          exact qx_i hS hx h
        · have h := h.2 hc
          exact qx_i hS hx h
theorem w_X7_lowest_0 {E : EE} {d : Nat} {V : VH} {K : Int32 → VH → Prop} {g : Nat} {x1 : Int32} {x2 : Int32} (hg : PG (vL V) g) (h : vwp E d M_X7_lowest 5 [some (sl g 5), some (wi x1), some (wi x2), some (wi x1), some (wi 0)] [] V (zi K)) : vMI E d M_X7_lowest [sl g 5, wi x1, wi x2] V K := by
  intro G A hR
  obtain ⟨L, P, rfl, hS⟩ := hR
  have hx := Xt.refl (V := pl G A L P) (A := A)
  show wpM E d M_X7_lowest [vr (A g 5), vi x1, vi x2] G _
  refine wpM_of mk_X7_lowest (Nat.le_of_ble_eq_true rfl) ?_
  refine v_X7_lowest_0 ?_
  exact wp.mono (h G A ⟨L, P, rfl, hS⟩) (fun r G' q => qx_trans hx q)
theorem w_X7_lowest_5 {E : EE} {d : Nat} {V : VH} {K : Int32 → VH → Prop} {g : Nat} {x1 : Int32} {x2 : Int32} {x3 : Int32} {x4 : Int32} (hg : PG (vL V) g) (h0 : 0 < d) (h : ((vI V g 5 0) ≤ x4 → K x3 V) ∧ (¬ ((vI V g 5 0) ≤ x4) → (¬ ((x2 >>> (x4 &&& 31)) &&& 1) = 0 → vwp E d M_X7_lowest 41 [some (sl g 5), some (wi x1), some (wi x2), some (wi x3), some (wi x4)] [] V (zi K)) ∧ (((x2 >>> (x4 &&& 31)) &&& 1) = 0 → vMI E (d - 1) M_X7_placeOf [sl g 5, wi x3, wi x4] V (fun r1 V1 => vp_in x4 12 ∧ (vwp E d M_X7_lowest 41 [some (sl g 5), some (wi x1), some (wi x2), some (wi (x3 - (r1 * (vI V1 g 8 (Int32.toNatClampNeg x4))))), some (wi x4)] [] V1 (zi K)))))) : vwp E d M_X7_lowest 5 [some (sl g 5), some (wi x1), some (wi x2), some (wi x3), some (wi x4)] [] V (zi K) := by
  intro G A hR
  obtain ⟨L, P, rfl, hS⟩ := hR
  have hx := Xt.refl (V := pl G A L P) (A := A)
  show wp E d M_X7_lowest 5 [some (vr (A g 5)), some (vi x1), some (vi x2), some (vi x3), some (vi x4)] [] G _
  refine v_X7_lowest_5 h0 ?_
  refine ⟨hS.o (sP_5 hg), ?_⟩
  refine ⟨fun hc => ?_, fun hc => ?_⟩
  · have h := h.1 hc
    exact qx_i hS hx h
  · have h := h.2 hc
    refine ⟨fun hc => ?_, fun hc => ?_⟩
    · have h := h.1 hc
      exact wp.mono (h G A ⟨L, P, rfl, hS⟩) (fun r G' q => qx_trans hx q)
    · have h := h.2 hc
      refine wpM.mono (h G A ⟨L, P, rfl, hS⟩) (fun rr1 G1 hr => ?_)
      obtain ⟨A1, W1, w1, ⟨L1, P1, rfl, hS1⟩, hy1, rfl, r1, rfl, h⟩ := hr
      refine ⟨r1, rfl, ?_⟩
      have hx1 := Xt.trans hx hy1
      have hg2 : PG L1 g := PG.up hy1 hg
      have ee3 : A1 g 5 = A g 5 := hy1.2 _ _ hg.1 (((nP_5 hS1 hg2)).trans ((nP_5 hS hg)).symm)
      try rw [← ee3]
      refine ⟨hS1.o (sP_5 hg2), ?_⟩
      rw [lP_5_4 hS1 hg2]
      refine ⟨hS1.o (sP_8 hg2), ?_⟩
      obtain ⟨hi4, h⟩ := h
      refine ⟨by first | (rw [(nP_8 hS1 hg2)]; exact hi4) | exact (congrArg (vp_in _) (nP_8 hS1 hg2)).mpr hi4 | exact hi4, ?_⟩
      exact wp.mono (h G1 A1 ⟨L1, P1, rfl, hS1⟩) (fun r G' q => qx_trans hx1 q)
theorem w_X7_lowest_41 {E : EE} {d : Nat} {V : VH} {K : Int32 → VH → Prop} {g : Nat} {x1 : Int32} {x2 : Int32} {x3 : Int32} {x4 : Int32} (hg : PG (vL V) g) (h : vwp E d M_X7_lowest 5 [some (sl g 5), some (wi x1), some (wi x2), some (wi x3), some (wi (x4 + 1))] [] V (zi K)) : vwp E d M_X7_lowest 41 [some (sl g 5), some (wi x1), some (wi x2), some (wi x3), some (wi x4)] [] V (zi K) := by
  intro G A hR
  obtain ⟨L, P, rfl, hS⟩ := hR
  have hx := Xt.refl (V := pl G A L P) (A := A)
  show wp E d M_X7_lowest 41 [some (vr (A g 5)), some (vi x1), some (vi x2), some (vi x3), some (vi x4)] [] G _
  refine v_X7_lowest_41 ?_
  exact wp.mono (h G A ⟨L, P, rfl, hS⟩) (fun r G' q => qx_trans hx q)
theorem w_X7_following_0 {E : EE} {d : Nat} {V : VH} {K : Int32 → VH → Prop} {g : Nat} {x1 : Int32} {x2 : Int32} (hg : PG (vL V) g) (h : vwp E d M_X7_following 10 [some (sl g 5), some (wi x1), some (wi x2), some (wi x1), some (wi ((vI V g 5 0) - 1)), none] [] V (zi K)) : vMI E d M_X7_following [sl g 5, wi x1, wi x2] V K := by
  intro G A hR
  obtain ⟨L, P, rfl, hS⟩ := hR
  have hx := Xt.refl (V := pl G A L P) (A := A)
  show wpM E d M_X7_following [vr (A g 5), vi x1, vi x2] G _
  refine wpM_of mk_X7_following (Nat.le_of_ble_eq_true rfl) ?_
  refine v_X7_following_0 ?_
  refine ⟨hS.o (sP_5 hg), ?_⟩
  exact wp.mono (h G A ⟨L, P, rfl, hS⟩) (fun r G' q => qx_trans hx q)
theorem w_X7_following_10 {E : EE} {d : Nat} {V : VH} {K : Int32 → VH → Prop} {g : Nat} {x1 : Int32} {x2 : Int32} {x3 : Int32} {x4 : Int32} (hg : PG (vL V) g) (h0 : 0 < d) (h : (x4 < 0 → K (-1) V) ∧ (¬ (x4 < 0) → (((x2 >>> (x4 &&& 31)) &&& 1) = 0 → vMI E (d - 1) M_X7_placeOf [sl g 5, wi x3, wi x4] V (fun r1 V1 => vp_in x4 12 ∧ (((vI V1 g 6 (Int32.toNatClampNeg x4)) ≤ (r1 + 1) → vp_in x4 12 ∧ (vwp E d M_X7_following 73 [some (sl g 5), some (wi x1), some (wi x2), some (wi (x3 - (r1 * (vI V1 g 8 (Int32.toNatClampNeg x4))))), some (wi x4), none] [] V1 (zi K))) ∧ (¬ ((vI V1 g 6 (Int32.toNatClampNeg x4)) ≤ (r1 + 1)) → vp_in x4 12 ∧ (K (x3 + (vI V1 g 8 (Int32.toNatClampNeg x4))) V1))))) ∧ (¬ (((x2 >>> (x4 &&& 31)) &&& 1) = 0) → vwp E d M_X7_following 73 [some (sl g 5), some (wi x1), some (wi x2), some (wi x3), some (wi x4), none] [] V (zi K)))) : vwp E d M_X7_following 10 [some (sl g 5), some (wi x1), some (wi x2), some (wi x3), some (wi x4), none] [] V (zi K) := by
  intro G A hR
  obtain ⟨L, P, rfl, hS⟩ := hR
  have hx := Xt.refl (V := pl G A L P) (A := A)
  show wp E d M_X7_following 10 [some (vr (A g 5)), some (vi x1), some (vi x2), some (vi x3), some (vi x4), none] [] G _
  refine v_X7_following_10 h0 ?_
  refine ⟨fun hc => ?_, fun hc => ?_⟩
  · have h := h.1 hc
    exact qx_i hS hx h
  · have h := h.2 hc
    refine ⟨fun hc => ?_, fun hc => ?_⟩
    · have h := h.1 hc
      refine ⟨hS.o (sP_5 hg), ?_⟩
      refine wpM.mono (h G A ⟨L, P, rfl, hS⟩) (fun rr1 G1 hr => ?_)
      obtain ⟨A1, W1, w1, ⟨L1, P1, rfl, hS1⟩, hy1, rfl, r1, rfl, h⟩ := hr
      refine ⟨r1, rfl, ?_⟩
      have hx1 := Xt.trans hx hy1
      have hg2 : PG L1 g := PG.up hy1 hg
      have ee3 : A1 g 5 = A g 5 := hy1.2 _ _ hg.1 (((nP_5 hS1 hg2)).trans ((nP_5 hS hg)).symm)
      try rw [← ee3]
      refine ⟨hS1.o (sP_5 hg2), ?_⟩
      rw [lP_5_2 hS1 hg2]
      refine ⟨hS1.o (sP_6 hg2), ?_⟩
      obtain ⟨hi4, h⟩ := h
      refine ⟨by first | (rw [(nP_6 hS1 hg2)]; exact hi4) | exact (congrArg (vp_in _) (nP_6 hS1 hg2)).mpr hi4 | exact hi4, ?_⟩
      refine ⟨fun hc => ?_, fun hc => ?_⟩
      · have h := h.1 hc
        rw [lP_5_4 hS1 hg2]
        refine ⟨hS1.o (sP_8 hg2), ?_⟩
        obtain ⟨hi5, h⟩ := h
        refine ⟨by first | (rw [(nP_8 hS1 hg2)]; exact hi5) | exact (congrArg (vp_in _) (nP_8 hS1 hg2)).mpr hi5 | exact hi5, ?_⟩
        exact wp.mono (h G1 A1 ⟨L1, P1, rfl, hS1⟩) (fun r G' q => qx_trans hx1 q)
      · have h := h.2 hc
        rw [lP_5_4 hS1 hg2]
        refine ⟨hS1.o (sP_8 hg2), ?_⟩
        obtain ⟨hi6, h⟩ := h
        refine ⟨by first | (rw [(nP_8 hS1 hg2)]; exact hi6) | exact (congrArg (vp_in _) (nP_8 hS1 hg2)).mpr hi6 | exact hi6, ?_⟩
        exact qx_i hS1 hx1 h
    · have h := h.2 hc
      exact wp.mono (h G A ⟨L, P, rfl, hS⟩) (fun r G' q => qx_trans hx q)
theorem w_X7_following_73 {E : EE} {d : Nat} {V : VH} {K : Int32 → VH → Prop} {g : Nat} {x1 : Int32} {x2 : Int32} {x3 : Int32} {x4 : Int32} (hg : PG (vL V) g) (h : vwp E d M_X7_following 10 [some (sl g 5), some (wi x1), some (wi x2), some (wi x3), some (wi (x4 + (-1))), none] [] V (zi K)) : vwp E d M_X7_following 73 [some (sl g 5), some (wi x1), some (wi x2), some (wi x3), some (wi x4), none] [] V (zi K) := by
  intro G A hR
  obtain ⟨L, P, rfl, hS⟩ := hR
  have hx := Xt.refl (V := pl G A L P) (A := A)
  show wp E d M_X7_following 73 [some (vr (A g 5)), some (vi x1), some (vi x2), some (vi x3), some (vi x4), none] [] G _
  refine v_X7_following_73 ?_
  exact wp.mono (h G A ⟨L, P, rfl, hS⟩) (fun r G' q => qx_trans hx q)
theorem w_X7_isVar_0 {E : EE} {d : Nat} {V : VH} {K : Int32 → VH → Prop} {g : Nat} {x1 : Int32} (hg : PG (vL V) g) (h : (x1 < 0 → K 0 V) ∧ (¬ (x1 < 0) → ((vI V g 5 0) ≤ x1 → K 0 V) ∧ (¬ ((vI V g 5 0) ≤ x1) → K 1 V))) : vMI E d M_X7_isVar [sl g 5, wi x1] V K := by
  intro G A hR
  obtain ⟨L, P, rfl, hS⟩ := hR
  have hx := Xt.refl (V := pl G A L P) (A := A)
  show wpM E d M_X7_isVar [vr (A g 5), vi x1] G _
  refine wpM_of mk_X7_isVar (Nat.le_of_ble_eq_true rfl) ?_
  refine v_X7_isVar_0 ?_
  refine ⟨fun hc => ?_, fun hc => ?_⟩
  · have h := h.1 hc
    exact qx_i hS hx h
  · have h := h.2 hc
    refine ⟨hS.o (sP_5 hg), ?_⟩
    refine ⟨fun hc => ?_, fun hc => ?_⟩
    · have h := h.1 hc
      exact qx_i hS hx h
    · have h := h.2 hc
      exact qx_i hS hx h
theorem w_X7_agreeing_0 {E : EE} {d : Nat} {V : VH} {K : Int32 → VH → Prop} {g : Nat} {x1 : Int32} (hg : PG (vL V) g) (h : vwp E d M_X7_agreeing 4 [some (sl g 5), some (wi x1), some (wi 1), some (wi 0)] [] V (zi K)) : vMI E d M_X7_agreeing [sl g 5, wi x1] V K := by
  intro G A hR
  obtain ⟨L, P, rfl, hS⟩ := hR
  have hx := Xt.refl (V := pl G A L P) (A := A)
  show wpM E d M_X7_agreeing [vr (A g 5), vi x1] G _
  refine wpM_of mk_X7_agreeing (Nat.le_of_ble_eq_true rfl) ?_
  refine v_X7_agreeing_0 ?_
  exact wp.mono (h G A ⟨L, P, rfl, hS⟩) (fun r G' q => qx_trans hx q)
theorem w_X7_agreeing_4 {E : EE} {d : Nat} {V : VH} {K : Int32 → VH → Prop} {g : Nat} {x1 : Int32} {x2 : Int32} {x3 : Int32} (hg : PG (vL V) g) (h : ((vI V g 5 0) ≤ x3 → K x2 V) ∧ (¬ ((vI V g 5 0) ≤ x3) → (¬ ((x1 >>> (x3 &&& 31)) &&& 1) = 0 → vwp E d M_X7_agreeing 29 [some (sl g 5), some (wi x1), some (wi x2), some (wi x3)] [] V (zi K)) ∧ (((x1 >>> (x3 &&& 31)) &&& 1) = 0 → vp_in x3 12 ∧ (vwp E d M_X7_agreeing 29 [some (sl g 5), some (wi x1), some (wi (x2 * (vI V g 6 (Int32.toNatClampNeg x3)))), some (wi x3)] [] V (zi K))))) : vwp E d M_X7_agreeing 4 [some (sl g 5), some (wi x1), some (wi x2), some (wi x3)] [] V (zi K) := by
  intro G A hR
  obtain ⟨L, P, rfl, hS⟩ := hR
  have hx := Xt.refl (V := pl G A L P) (A := A)
  show wp E d M_X7_agreeing 4 [some (vr (A g 5)), some (vi x1), some (vi x2), some (vi x3)] [] G _
  refine v_X7_agreeing_4 ?_
  refine ⟨hS.o (sP_5 hg), ?_⟩
  refine ⟨fun hc => ?_, fun hc => ?_⟩
  · have h := h.1 hc
    exact qx_i hS hx h
  · have h := h.2 hc
    refine ⟨fun hc => ?_, fun hc => ?_⟩
    · have h := h.1 hc
      exact wp.mono (h G A ⟨L, P, rfl, hS⟩) (fun r G' q => qx_trans hx q)
    · have h := h.2 hc
      rw [lP_5_2 hS hg]
      refine ⟨hS.o (sP_6 hg), ?_⟩
      obtain ⟨hi1, h⟩ := h
      refine ⟨by first | (rw [(nP_6 hS hg)]; exact hi1) | exact (congrArg (vp_in _) (nP_6 hS hg)).mpr hi1 | exact hi1, ?_⟩
      exact wp.mono (h G A ⟨L, P, rfl, hS⟩) (fun r G' q => qx_trans hx q)
theorem w_X7_agreeing_29 {E : EE} {d : Nat} {V : VH} {K : Int32 → VH → Prop} {g : Nat} {x1 : Int32} {x2 : Int32} {x3 : Int32} (hg : PG (vL V) g) (h : vwp E d M_X7_agreeing 4 [some (sl g 5), some (wi x1), some (wi x2), some (wi (x3 + 1))] [] V (zi K)) : vwp E d M_X7_agreeing 29 [some (sl g 5), some (wi x1), some (wi x2), some (wi x3)] [] V (zi K) := by
  intro G A hR
  obtain ⟨L, P, rfl, hS⟩ := hR
  have hx := Xt.refl (V := pl G A L P) (A := A)
  show wp E d M_X7_agreeing 29 [some (vr (A g 5)), some (vi x1), some (vi x2), some (vi x3)] [] G _
  refine v_X7_agreeing_29 ?_
  exact wp.mono (h G A ⟨L, P, rfl, hS⟩) (fun r G' q => qx_trans hx q)
theorem w_X9_renew_66 {E : EE} {d : Nat} {V : VH} {K : VH → Prop} {g : Nat} {x2 : Int32} (hg : PG (vL V) g) (h : ∀ V1 : VH, V1 = wrI V g 19 1 0 → vwp E d M_X9_renew 73 [some (sl g 19), some (sl g 0), some (wi x2), some (wi 0)] [] V1 (zv K)) : vwp E d M_X9_renew 66 [some (sl g 19), some (sl g 0), some (wi x2), none] [] V (zv K) := by
  intro G A hR
  obtain ⟨L, P, rfl, hS⟩ := hR
  have hx := Xt.refl (V := pl G A L P) (A := A)
  show wp E d M_X9_renew 66 [some (vr (A g 19)), some (vr (A g 0)), some (vi x2), none] [] G _
  refine v_X9_renew_66 ?_
  refine ⟨hS.o (sP_19 hg), ?_⟩
  have hS1 : Sh E (sI G (A g 19) 1 0) A L P := Sh_sI (rfl : sI G (A g 19) 1 0 = sI G (A g 19) 1 0) hS (sP_19 hg) (okT_0 rfl)
  have h := h (pl (sI G (A g 19) 1 0) A L P) (pl_sI (rfl : sI G (A g 19) 1 0 = sI G (A g 19) 1 0) hS (sP_19 hg))
  have hx1 : Xt (pl G A L P) A (pl (sI G (A g 19) 1 0) A L P) A := Xt_sI (rfl : sI G (A g 19) 1 0 = sI G (A g 19) 1 0) hx
  exact wp.mono (h (sI G (A g 19) 1 0) A ⟨L, P, rfl, hS1⟩) (fun r G' q => qx_trans hx1 q)
theorem w_X9_renew_73 {E : EE} {d : Nat} {V : VH} {K : VH → Prop} {g : Nat} {x2 : Int32} {x3 : Int32} (hg : PG (vL V) g) (h0 : 0 < d) (h : (x2 ≤ x3 → ∀ V1 : VH, V1 = wrI V g 19 0 1 → K V1) ∧ (¬ (x2 ≤ x3) → vMI E (d - 1) M_X2_weighAll [sl g 9, sl g 5, wi x3, sl g 23, sl g 21, wi (3 * x3)] V (fun r2 V2 => vN V2 g 22 = vN V g 22 ∧ (vp_in x3 (vN V2 g 22) ∧ (∀ V9 : VH, V9 = wrI V2 g 22 (Int32.toNatClampNeg x3) r2 → vp_in x3 (vN V9 g 22) ∧ (∀ V11 : VH, V11 = wrI V9 g 19 1 ((vI V9 g 19 1) ||| (vI V9 g 22 (Int32.toNatClampNeg x3))) → vwp E d M_X9_renew 73 [some (sl g 19), some (sl g 0), some (wi x2), some (wi (x3 + 1))] [] V11 (zv K))))))) : vwp E d M_X9_renew 73 [some (sl g 19), some (sl g 0), some (wi x2), some (wi x3)] [] V (zv K) := by
  intro G A hR
  obtain ⟨L, P, rfl, hS⟩ := hR
  have hx := Xt.refl (V := pl G A L P) (A := A)
  show wp E d M_X9_renew 73 [some (vr (A g 19)), some (vr (A g 0)), some (vi x2), some (vi x3)] [] G _
  refine v_X9_renew_73 h0 ?_
  refine ⟨fun hc => ?_, fun hc => ?_⟩
  · have h := h.1 hc
    refine ⟨hS.o (sP_19 hg), ?_⟩
    intro G1 eG1
    have hS1 : Sh E G1 A L P := Sh_sI eG1 hS (sP_19 hg) (okT_2 rfl (Or.inr rfl))
    have h := h (pl G1 A L P) (pl_sI eG1 hS (sP_19 hg))
    have hx1 : Xt (pl G A L P) A (pl G1 A L P) A := Xt_sI eG1 hx
    exact qx_v hS1 hx1 h
  · have h := h.2 hc
    refine ⟨hS.o (sP_19 hg), ?_⟩
    rw [lP_19_7 hS hg]
    refine ⟨hS.o (sP_0 hg), ?_⟩
    rw [lP_0_5 hS hg]
    rw [lP_0_4 hS hg]
    rw [lP_0_7 hS hg]
    rw [lP_19_6 hS hg]
    refine ⟨hS.o (sP_9 hg), ?_⟩
    refine wpM.mono (h G A ⟨L, P, rfl, hS⟩) (fun rr2 G2 hr => ?_)
    obtain ⟨A2, W2, w2, ⟨L2, P2, rfl, hS2⟩, hy2, rfl, r2, rfl, h⟩ := hr
    refine ⟨r2, rfl, ?_⟩
    have hx2 := Xt.trans hx hy2
    have hg3 : PG L2 g := PG.up hy2 hg
    have ee4 : A2 g 0 = A g 0 := hy2.2 _ _ hg.1 (((nP_0 hS2 hg3)).trans ((nP_0 hS hg)).symm)
    try rw [← ee4]
    have ee5 : A2 g 19 = A g 19 := hy2.2 _ _ hg.1 (((nP_19 hS2 hg3)).trans ((nP_19 hS hg)).symm)
    try rw [← ee5]
    obtain ⟨hv7, h⟩ := h
    have ee6 : A2 g 22 = A g 22 := hy2.2 _ _ hg.1 hv7
    try rw [← ee6]
    refine ⟨hS2.o (sP_22 hg3), ?_⟩
    obtain ⟨hi8, h⟩ := h
    refine ⟨hi8, ?_⟩
    intro G9 eG9
    have hS9 : Sh E G9 A2 L2 P2 := Sh_sI eG9 hS2 (sP_22 hg3) (okT_0 rfl)
    have h := h (pl G9 A2 L2 P2) (pl_sI eG9 hS2 (sP_22 hg3))
    have hx9 : Xt (pl G A L P) A (pl G9 A2 L2 P2) A2 := Xt_sI eG9 hx2
    refine ⟨hS9.o (sP_19 hg3), ?_⟩
    rw [lP_19_7 hS9 hg3]
    refine ⟨hS9.o (sP_22 hg3), ?_⟩
    obtain ⟨hi10, h⟩ := h
    refine ⟨hi10, ?_⟩
    intro G11 eG11
    have hS11 : Sh E G11 A2 L2 P2 := Sh_sI eG11 hS9 (sP_19 hg3) (okT_0 rfl)
    have h := h (pl G11 A2 L2 P2) (pl_sI eG11 hS9 (sP_19 hg3))
    have hx11 : Xt (pl G A L P) A (pl G11 A2 L2 P2) A2 := Xt_sI eG11 hx9
    exact wp.mono (h G11 A2 ⟨L2, P2, rfl, hS11⟩) (fun r G' q => qx_trans hx11 q)
theorem w_X9_beatsHand_0 {E : EE} {d : Nat} {V : VH} {K : Int32 → VH → Prop} {g : Nat} (hg : PG (vL V) g) (h0 : 0 < d) (h : vMI E (d - 1) M_X9_gather [sl g 19, sl g 0, wi (vI V g 0 9)] V (fun r1 V1 => vwp E d M_X9_beatsHand 12 [some (sl g 19), some (sl g 0), some (wi 0)] [] V1 (zi K))) : vMI E d M_X9_beatsHand [sl g 19, sl g 0] V K := by
  intro G A hR
  obtain ⟨L, P, rfl, hS⟩ := hR
  have hx := Xt.refl (V := pl G A L P) (A := A)
  show wpM E d M_X9_beatsHand [vr (A g 19), vr (A g 0)] G _
  refine wpM_of mk_X9_beatsHand (Nat.le_of_ble_eq_true rfl) ?_
  refine v_X9_beatsHand_0 h0 ?_
  refine ⟨hS.o (sP_0 hg), ?_⟩
  refine ⟨hS.o (sP_19 hg), ?_⟩
  refine wpM.mono (h G A ⟨L, P, rfl, hS⟩) (fun rr1 G1 hr => ?_)
  obtain ⟨A1, W1, w1, ⟨L1, P1, rfl, hS1⟩, hy1, rfl, r1, rfl, h⟩ := hr
  refine ⟨r1, rfl, ?_⟩
  have hx1 := Xt.trans hx hy1
  have hg2 : PG L1 g := PG.up hy1 hg
  have ee3 : A1 g 0 = A g 0 := hy1.2 _ _ hg.1 (((nP_0 hS1 hg2)).trans ((nP_0 hS hg)).symm)
  try rw [← ee3]
  have ee4 : A1 g 19 = A g 19 := hy1.2 _ _ hg.1 (((nP_19 hS1 hg2)).trans ((nP_19 hS hg)).symm)
  try rw [← ee4]
  exact wp.mono (h G1 A1 ⟨L1, P1, rfl, hS1⟩) (fun r G' q => qx_trans hx1 q)
theorem w_X9_beatsHand_12 {E : EE} {d : Nat} {V : VH} {K : Int32 → VH → Prop} {g : Nat} {x2 : Int32} (hg : PG (vL V) g) (h0 : 0 < d) (h : ((vI V g 19 3) ≤ x2 → K 0 V) ∧ (¬ ((vI V g 19 3) ≤ x2) → vp_in x2 (vN V g 20) ∧ (vMI E (d - 1) M_X9_isBetter [sl g 19, wi (vI V g 20 (Int32.toNatClampNeg x2)), wi (vI V g 0 8)] V (fun r2 V2 => (r2 = 0 → vwp E d M_X9_beatsHand 12 [some (sl g 19), some (sl g 0), some (wi (x2 + 1))] [] V2 (zi K)) ∧ (¬ (r2 = 0) → K 1 V2))))) : vwp E d M_X9_beatsHand 12 [some (sl g 19), some (sl g 0), some (wi x2)] [] V (zi K) := by
  intro G A hR
  obtain ⟨L, P, rfl, hS⟩ := hR
  have hx := Xt.refl (V := pl G A L P) (A := A)
  show wp E d M_X9_beatsHand 12 [some (vr (A g 19)), some (vr (A g 0)), some (vi x2)] [] G _
  refine v_X9_beatsHand_12 h0 ?_
  refine ⟨hS.o (sP_19 hg), ?_⟩
  refine ⟨fun hc => ?_, fun hc => ?_⟩
  · have h := h.1 hc
    exact qx_i hS hx h
  · have h := h.2 hc
    rw [lP_19_2 hS hg]
    refine ⟨hS.o (sP_20 hg), ?_⟩
    obtain ⟨hi1, h⟩ := h
    refine ⟨hi1, ?_⟩
    refine ⟨hS.o (sP_0 hg), ?_⟩
    refine wpM.mono (h G A ⟨L, P, rfl, hS⟩) (fun rr2 G2 hr => ?_)
    obtain ⟨A2, W2, w2, ⟨L2, P2, rfl, hS2⟩, hy2, rfl, r2, rfl, h⟩ := hr
    refine ⟨r2, rfl, ?_⟩
    have hx2 := Xt.trans hx hy2
    have hg3 : PG L2 g := PG.up hy2 hg
    have ee4 : A2 g 0 = A g 0 := hy2.2 _ _ hg.1 (((nP_0 hS2 hg3)).trans ((nP_0 hS hg)).symm)
    try rw [← ee4]
    have ee5 : A2 g 19 = A g 19 := hy2.2 _ _ hg.1 (((nP_19 hS2 hg3)).trans ((nP_19 hS hg)).symm)
    try rw [← ee5]
    refine ⟨fun hc => ?_, fun hc => ?_⟩
    · have h := h.1 hc
      exact wp.mono (h G2 A2 ⟨L2, P2, rfl, hS2⟩) (fun r G' q => qx_trans hx2 q)
    · have h := h.2 hc
      exact qx_i hS2 hx2 h
theorem w_X9_gather_0 {E : EE} {d : Nat} {V : VH} {K : Int32 → VH → Prop} {g : Nat} {x2 : Int32} (hg : PG (vL V) g) (h0 : 0 < d) (h : ∀ V1 : VH, V1 = wrI V g 19 3 0 → vMI E (d - 1) M_X7_lowest [sl g 5, wi (vI V1 g 0 8), wi x2] V1 (fun r2 V2 => vwp E d M_X9_gather 21 [some (sl g 19), some (sl g 0), some (wi x2), some (wi r2), some (wi 0)] [] V2 (zi K))) : vMI E d M_X9_gather [sl g 19, sl g 0, wi x2] V K := by
  intro G A hR
  obtain ⟨L, P, rfl, hS⟩ := hR
  have hx := Xt.refl (V := pl G A L P) (A := A)
  show wpM E d M_X9_gather [vr (A g 19), vr (A g 0), vi x2] G _
  refine wpM_of mk_X9_gather (Nat.le_of_ble_eq_true rfl) ?_
  refine v_X9_gather_0 h0 ?_
  refine ⟨hS.o (sP_19 hg), ?_⟩
  have hS1 : Sh E (sI G (A g 19) 3 0) A L P := Sh_sI (rfl : sI G (A g 19) 3 0 = sI G (A g 19) 3 0) hS (sP_19 hg) (okT_0 rfl)
  have h := h (pl (sI G (A g 19) 3 0) A L P) (pl_sI (rfl : sI G (A g 19) 3 0 = sI G (A g 19) 3 0) hS (sP_19 hg))
  have hx1 : Xt (pl G A L P) A (pl (sI G (A g 19) 3 0) A L P) A := Xt_sI (rfl : sI G (A g 19) 3 0 = sI G (A g 19) 3 0) hx
  refine ⟨hS1.o (sP_0 hg), ?_⟩
  rw [lP_0_4 hS hg]
  refine ⟨hS1.o (sP_5 hg), ?_⟩
  refine wpM.mono (h (sI G (A g 19) 3 0) A ⟨L, P, rfl, hS1⟩) (fun rr2 G2 hr => ?_)
  obtain ⟨A2, W2, w2, ⟨L2, P2, rfl, hS2⟩, hy2, rfl, r2, rfl, h⟩ := hr
  refine ⟨r2, rfl, ?_⟩
  have hx2 := Xt.trans hx1 hy2
  have hg3 : PG L2 g := PG.up hy2 hg
  have ee4 : A2 g 0 = A g 0 := hy2.2 _ _ hg.1 (((nP_0 hS2 hg3)).trans ((nP_0 hS1 hg)).symm)
  try rw [← ee4]
  have ee5 : A2 g 19 = A g 19 := hy2.2 _ _ hg.1 (((nP_19 hS2 hg3)).trans ((nP_19 hS1 hg)).symm)
  try rw [← ee5]
  exact wp.mono (h G2 A2 ⟨L2, P2, rfl, hS2⟩) (fun r G' q => qx_trans hx2 q)
theorem w_X9_gather_21 {E : EE} {d : Nat} {V : VH} {K : Int32 → VH → Prop} {g : Nat} {x2 : Int32} {x3 : Int32} {x4 : Int32} (hg : PG (vL V) g) (h0 : 0 < d) (h : ((vI V g 5 1) ≤ x4 → vwp E d M_X9_gather 98 [some (sl g 19), some (sl g 0), some (wi x2), some (wi x3), some (wi x4)] [] V (zi K)) ∧ (¬ ((vI V g 5 1) ≤ x4) → (x3 < 0 → vwp E d M_X9_gather 98 [some (sl g 19), some (sl g 0), some (wi x2), some (wi x3), some (wi x4)] [] V (zi K)) ∧ (¬ (x3 < 0) → vMI E (d - 1) M_X9_setOf [sl g 19, wi x3] V (fun r1 V1 => (¬ (r1 &&& (vI V1 g 9 0)) = 0 → vwp E d M_X9_gather 82 [some (sl g 19), some (sl g 0), some (wi x2), some (wi x3), some (wi x4)] [] V1 (zi K)) ∧ ((r1 &&& (vI V1 g 9 0)) = 0 → ((nI (vN V1 g 20)) ≤ (vI V1 g 19 3) → vwp E d M_X9_gather 82 [some (sl g 19), some (sl g 0), some (wi x2), some (wi x3), some (wi x4)] [] V1 (zi K)) ∧ (¬ ((nI (vN V1 g 20)) ≤ (vI V1 g 19 3)) → ∀ V5 : VH, V5 = wrI V1 g 19 3 ((vI V1 g 19 3) + 1) → vp_in (vI V1 g 19 3) (vN V5 g 20) ∧ (∀ V7 : VH, V7 = wrI V5 g 20 (Int32.toNatClampNeg (vI V1 g 19 3)) x3 → vwp E d M_X9_gather 82 [some (sl g 19), some (sl g 0), some (wi x2), some (wi x3), some (wi x4)] [] V7 (zi K)))))))) : vwp E d M_X9_gather 21 [some (sl g 19), some (sl g 0), some (wi x2), some (wi x3), some (wi x4)] [] V (zi K) := by
  intro G A hR
  obtain ⟨L, P, rfl, hS⟩ := hR
  have hx := Xt.refl (V := pl G A L P) (A := A)
  show wp E d M_X9_gather 21 [some (vr (A g 19)), some (vr (A g 0)), some (vi x2), some (vi x3), some (vi x4)] [] G _
  refine v_X9_gather_21 h0 ?_
  refine ⟨hS.o (sP_0 hg), ?_⟩
  rw [lP_0_4 hS hg]
  refine ⟨hS.o (sP_5 hg), ?_⟩
  refine ⟨fun hc => ?_, fun hc => ?_⟩
  · have h := h.1 hc
    exact wp.mono (h G A ⟨L, P, rfl, hS⟩) (fun r G' q => qx_trans hx q)
  · have h := h.2 hc
    refine ⟨fun hc => ?_, fun hc => ?_⟩
    · have h := h.1 hc
      exact wp.mono (h G A ⟨L, P, rfl, hS⟩) (fun r G' q => qx_trans hx q)
    · have h := h.2 hc
      refine ⟨hS.o (sP_19 hg), ?_⟩
      refine wpM.mono (h G A ⟨L, P, rfl, hS⟩) (fun rr1 G1 hr => ?_)
      obtain ⟨A1, W1, w1, ⟨L1, P1, rfl, hS1⟩, hy1, rfl, r1, rfl, h⟩ := hr
      refine ⟨r1, rfl, ?_⟩
      have hx1 := Xt.trans hx hy1
      have hg2 : PG L1 g := PG.up hy1 hg
      have ee3 : A1 g 0 = A g 0 := hy1.2 _ _ hg.1 (((nP_0 hS1 hg2)).trans ((nP_0 hS hg)).symm)
      try rw [← ee3]
      have ee4 : A1 g 19 = A g 19 := hy1.2 _ _ hg.1 (((nP_19 hS1 hg2)).trans ((nP_19 hS hg)).symm)
      try rw [← ee4]
      refine ⟨hS1.o (sP_0 hg2), ?_⟩
      rw [lP_0_5 hS1 hg2]
      refine ⟨hS1.o (sP_9 hg2), ?_⟩
      refine ⟨fun hc => ?_, fun hc => ?_⟩
      · have h := h.1 hc
        exact wp.mono (h G1 A1 ⟨L1, P1, rfl, hS1⟩) (fun r G' q => qx_trans hx1 q)
      · have h := h.2 hc
        refine ⟨hS1.o (sP_19 hg2), ?_⟩
        rw [lP_19_2 hS1 hg2]
        refine ⟨hS1.o (sP_20 hg2), ?_⟩
        refine ⟨fun hc => ?_, fun hc => ?_⟩
        · have h := h.1 hc
          exact wp.mono (h G1 A1 ⟨L1, P1, rfl, hS1⟩) (fun r G' q => qx_trans hx1 q)
        · have h := h.2 hc
          intro G5 eG5
          have hS5 : Sh E G5 A1 L1 P1 := Sh_sI eG5 hS1 (sP_19 hg2) (okT_0 rfl)
          have h := h (pl G5 A1 L1 P1) (pl_sI eG5 hS1 (sP_19 hg2))
          have hx5 : Xt (pl G A L P) A (pl G5 A1 L1 P1) A1 := Xt_sI eG5 hx1
          obtain ⟨hi6, h⟩ := h
          refine ⟨hi6, ?_⟩
          intro G7 eG7
          have hS7 : Sh E G7 A1 L1 P1 := Sh_sI eG7 hS5 (sP_20 hg2) (okT_0 rfl)
          have h := h (pl G7 A1 L1 P1) (pl_sI eG7 hS5 (sP_20 hg2))
          have hx7 : Xt (pl G A L P) A (pl G7 A1 L1 P1) A1 := Xt_sI eG7 hx5
          exact wp.mono (h G7 A1 ⟨L1, P1, rfl, hS7⟩) (fun r G' q => qx_trans hx7 q)
theorem w_X9_gather_82 {E : EE} {d : Nat} {V : VH} {K : Int32 → VH → Prop} {g : Nat} {x2 : Int32} {x3 : Int32} {x4 : Int32} (hg : PG (vL V) g) (h0 : 0 < d) (h : vMI E (d - 1) M_X7_following [sl g 5, wi x3, wi x2] V (fun r1 V1 => vwp E d M_X9_gather 21 [some (sl g 19), some (sl g 0), some (wi x2), some (wi r1), some (wi (x4 + 1))] [] V1 (zi K))) : vwp E d M_X9_gather 82 [some (sl g 19), some (sl g 0), some (wi x2), some (wi x3), some (wi x4)] [] V (zi K) := by
  intro G A hR
  obtain ⟨L, P, rfl, hS⟩ := hR
  have hx := Xt.refl (V := pl G A L P) (A := A)
  show wp E d M_X9_gather 82 [some (vr (A g 19)), some (vr (A g 0)), some (vi x2), some (vi x3), some (vi x4)] [] G _
  refine v_X9_gather_82 h0 ?_
  refine ⟨hS.o (sP_0 hg), ?_⟩
  rw [lP_0_4 hS hg]
  refine ⟨hS.o (sP_5 hg), ?_⟩
  refine wpM.mono (h G A ⟨L, P, rfl, hS⟩) (fun rr1 G1 hr => ?_)
  obtain ⟨A1, W1, w1, ⟨L1, P1, rfl, hS1⟩, hy1, rfl, r1, rfl, h⟩ := hr
  refine ⟨r1, rfl, ?_⟩
  have hx1 := Xt.trans hx hy1
  have hg2 : PG L1 g := PG.up hy1 hg
  have ee3 : A1 g 0 = A g 0 := hy1.2 _ _ hg.1 (((nP_0 hS1 hg2)).trans ((nP_0 hS hg)).symm)
  try rw [← ee3]
  have ee4 : A1 g 19 = A g 19 := hy1.2 _ _ hg.1 (((nP_19 hS1 hg2)).trans ((nP_19 hS hg)).symm)
  try rw [← ee4]
  exact wp.mono (h G1 A1 ⟨L1, P1, rfl, hS1⟩) (fun r G' q => qx_trans hx1 q)
theorem w_X9_gather_98 {E : EE} {d : Nat} {V : VH} {K : Int32 → VH → Prop} {g : Nat} {x2 : Int32} {x3 : Int32} {x4 : Int32} (hg : PG (vL V) g) (h : K (vI V g 19 3) V) : vwp E d M_X9_gather 98 [some (sl g 19), some (sl g 0), some (wi x2), some (wi x3), some (wi x4)] [] V (zi K) := by
  intro G A hR
  obtain ⟨L, P, rfl, hS⟩ := hR
  have hx := Xt.refl (V := pl G A L P) (A := A)
  show wp E d M_X9_gather 98 [some (vr (A g 19)), some (vr (A g 0)), some (vi x2), some (vi x3), some (vi x4)] [] G _
  refine v_X9_gather_98 ?_
  refine ⟨hS.o (sP_19 hg), ?_⟩
  exact qx_i hS hx h
theorem w_X9_setOf_0 {E : EE} {d : Nat} {V : VH} {K : Int32 → VH → Prop} {g : Nat} {x1 : Int32} (hg : PG (vL V) g) (h : (x1 < 0 → K 0 V) ∧ (¬ (x1 < 0) → ((nI (vN V g 22)) ≤ x1 → K 0 V) ∧ (¬ ((nI (vN V g 22)) ≤ x1) → vp_in x1 (vN V g 22) ∧ (K (vI V g 22 (Int32.toNatClampNeg x1)) V)))) : vMI E d M_X9_setOf [sl g 19, wi x1] V K := by
  intro G A hR
  obtain ⟨L, P, rfl, hS⟩ := hR
  have hx := Xt.refl (V := pl G A L P) (A := A)
  show wpM E d M_X9_setOf [vr (A g 19), vi x1] G _
  refine wpM_of mk_X9_setOf (Nat.le_of_ble_eq_true rfl) ?_
  refine v_X9_setOf_0 ?_
  refine ⟨fun hc => ?_, fun hc => ?_⟩
  · have h := h.1 hc
    exact qx_i hS hx h
  · have h := h.2 hc
    refine ⟨hS.o (sP_19 hg), ?_⟩
    rw [lP_19_7 hS hg]
    refine ⟨hS.o (sP_22 hg), ?_⟩
    refine ⟨fun hc => ?_, fun hc => ?_⟩
    · have h := h.1 hc
      exact qx_i hS hx h
    · have h := h.2 hc
      obtain ⟨hi1, h⟩ := h
      refine ⟨hi1, ?_⟩
      exact qx_i hS hx h
theorem w_X9_isBetter_0 {E : EE} {d : Nat} {V : VH} {K : Int32 → VH → Prop} {g : Nat} {x1 : Int32} {x2 : Int32} (hg : PG (vL V) g) (h : vwp E d M_X9_isBetter 2 [some (sl g 19), some (wi x1), some (wi x2), some (wi 0), none, none, none, none] [] V (zi K)) : vMI E d M_X9_isBetter [sl g 19, wi x1, wi x2] V K := by
  intro G A hR
  obtain ⟨L, P, rfl, hS⟩ := hR
  have hx := Xt.refl (V := pl G A L P) (A := A)
  show wpM E d M_X9_isBetter [vr (A g 19), vi x1, vi x2] G _
  refine wpM_of mk_X9_isBetter (Nat.le_of_ble_eq_true rfl) ?_
  refine v_X9_isBetter_0 ?_
  exact wp.mono (h G A ⟨L, P, rfl, hS⟩) (fun r G' q => qx_trans hx q)
theorem w_X9_isBetter_2 {E : EE} {d : Nat} {V : VH} {K : Int32 → VH → Prop} {g : Nat} {x1 : Int32} {x2 : Int32} {x3 : Int32} (hg : PG (vL V) g) (h0 : 0 < d) (h : (3 ≤ x3 → K 0 V) ∧ (¬ (3 ≤ x3) → vMJ E (d - 1) M_X9_scoreOf [sl g 19, wi x1, wi x3] V (fun r1 V1 => vMJ E (d - 1) M_X9_scoreOf [sl g 19, wi x2, wi x3] V1 (fun r4 V4 => (r1 = r4 → vwp E d M_X9_isBetter 2 [some (sl g 19), some (wi x1), some (wi x2), some (wi (x3 + 1)), none, none, none, none] [] V4 (zi K)) ∧ (¬ (r1 = r4) → (r4 ≤ r1 → K 0 V4) ∧ (¬ (r4 ≤ r1) → K 1 V4)))))) : vwp E d M_X9_isBetter 2 [some (sl g 19), some (wi x1), some (wi x2), some (wi x3), none, none, none, none] [] V (zi K) := by
  intro G A hR
  obtain ⟨L, P, rfl, hS⟩ := hR
  have hx := Xt.refl (V := pl G A L P) (A := A)
  show wp E d M_X9_isBetter 2 [some (vr (A g 19)), some (vi x1), some (vi x2), some (vi x3), none, none, none, none] [] G _
  refine v_X9_isBetter_2 h0 ?_
  refine ⟨fun hc => ?_, fun hc => ?_⟩
  · have h := h.1 hc
    exact qx_i hS hx h
  · have h := h.2 hc
    refine ⟨hS.o (sP_19 hg), ?_⟩
    refine wpM.mono (h G A ⟨L, P, rfl, hS⟩) (fun rr1 G1 hr => ?_)
    obtain ⟨A1, W1, w1, ⟨L1, P1, rfl, hS1⟩, hy1, rfl, r1, rfl, h⟩ := hr
    refine ⟨r1, rfl, ?_⟩
    have hx1 := Xt.trans hx hy1
    have hg2 : PG L1 g := PG.up hy1 hg
    have ee3 : A1 g 19 = A g 19 := hy1.2 _ _ hg.1 (((nP_19 hS1 hg2)).trans ((nP_19 hS hg)).symm)
    try rw [← ee3]
    refine ⟨hS1.o (sP_19 hg2), ?_⟩
    refine wpM.mono (h G1 A1 ⟨L1, P1, rfl, hS1⟩) (fun rr4 G4 hr => ?_)
    obtain ⟨A4, W4, w4, ⟨L4, P4, rfl, hS4⟩, hy4, rfl, r4, rfl, h⟩ := hr
    refine ⟨r4, rfl, ?_⟩
    have hx4 := Xt.trans hx1 hy4
    have hg5 : PG L4 g := PG.up hy4 hg2
    have ee6 : A4 g 19 = A1 g 19 := hy4.2 _ _ hg2.1 (((nP_19 hS4 hg5)).trans ((nP_19 hS1 hg2)).symm)
    try rw [← ee6]
    refine ⟨fun hc => ?_, fun hc => ?_⟩
    · have h := h.1 hc
      exact wp.mono (h G4 A4 ⟨L4, P4, rfl, hS4⟩) (fun r G' q => qx_trans hx4 q)
    · have h := h.2 hc
      refine ⟨fun hc => ?_, fun hc => ?_⟩
      · have h := h.1 hc
        exact qx_i hS4 hx4 h
      · have h := h.2 hc
        exact qx_i hS4 hx4 h
theorem w_X9_scoreOf_0 {E : EE} {d : Nat} {V : VH} {K : Int64 → VH → Prop} {g : Nat} {x1 : Int32} {x2 : Int32} (hg : PG (vL V) g) (h : (((3 * x1) + x2) < 0 → K 0 V) ∧ (¬ (((3 * x1) + x2) < 0) → ((nI (vN V g 21)) ≤ ((3 * x1) + x2) → K 0 V) ∧ (¬ ((nI (vN V g 21)) ≤ ((3 * x1) + x2)) → vp_in ((3 * x1) + x2) (vN V g 21) ∧ (K (vJ V g 21 (Int32.toNatClampNeg ((3 * x1) + x2))) V)))) : vMJ E d M_X9_scoreOf [sl g 19, wi x1, wi x2] V K := by
  intro G A hR
  obtain ⟨L, P, rfl, hS⟩ := hR
  have hx := Xt.refl (V := pl G A L P) (A := A)
  show wpM E d M_X9_scoreOf [vr (A g 19), vi x1, vi x2] G _
  refine wpM_of mk_X9_scoreOf (Nat.le_of_ble_eq_true rfl) ?_
  refine v_X9_scoreOf_0 ?_
  refine ⟨fun hc => ?_, fun hc => ?_⟩
  · have h := h.1 hc
    exact qx_j hS hx h
  · have h := h.2 hc
    refine ⟨hS.o (sP_19 hg), ?_⟩
    rw [lP_19_6 hS hg]
    refine ⟨hS.o (sP_21 hg), ?_⟩
    refine ⟨fun hc => ?_, fun hc => ?_⟩
    · have h := h.1 hc
      exact qx_j hS hx h
    · have h := h.2 hc
      obtain ⟨hi1, h⟩ := h
      refine ⟨hi1, ?_⟩
      exact qx_j hS hx h
theorem w_X9_keepValue_0 {E : EE} {d : Nat} {V : VH} {K : Int32 → VH → Prop} {g : Nat} {x2 : Int32} {x3 : Int32} (hg : PG (vL V) g) (h : vwp E d M_X9_keepValue 6 [some (sl g 19), some (sl g 5), some (wi x2), some (wi x3), some (wi 0), some (wi 0)] [] V (zi K)) : vMI E d M_X9_keepValue [sl g 19, sl g 5, wi x2, wi x3] V K := by
  intro G A hR
  obtain ⟨L, P, rfl, hS⟩ := hR
  have hx := Xt.refl (V := pl G A L P) (A := A)
  show wpM E d M_X9_keepValue [vr (A g 19), vr (A g 5), vi x2, vi x3] G _
  refine wpM_of mk_X9_keepValue (Nat.le_of_ble_eq_true rfl) ?_
  refine v_X9_keepValue_0 ?_
  exact wp.mono (h G A ⟨L, P, rfl, hS⟩) (fun r G' q => qx_trans hx q)
theorem w_X9_keepValue_6 {E : EE} {d : Nat} {V : VH} {K : Int32 → VH → Prop} {g : Nat} {x2 : Int32} {x3 : Int32} {x4 : Int32} {x5 : Int32} (hg : PG (vL V) g) (h0 : 0 < d) (h : ((vI V g 19 3) ≤ x5 → ∀ V1 : VH, V1 = wrI V g 19 3 x4 → K x4 V1) ∧ (¬ ((vI V g 19 3) ≤ x5) → vp_in x5 (vN V g 20) ∧ (vMI E (d - 1) M_X7_placeOf [sl g 5, wi (vI V g 20 (Int32.toNatClampNeg x5)), wi x2] V (fun r3 V3 => (¬ r3 = x3 → vwp E d M_X9_keepValue 48 [some (sl g 19), some (sl g 5), some (wi x2), some (wi x3), some (wi x4), some (wi x5)] [] V3 (zi K)) ∧ (r3 = x3 → vp_in x5 (vN V3 g 20) ∧ (vp_in x4 (vN V3 g 20) ∧ (∀ V9 : VH, V9 = wrI V3 g 20 (Int32.toNatClampNeg x4) (vI V3 g 20 (Int32.toNatClampNeg x5)) → vwp E d M_X9_keepValue 48 [some (sl g 19), some (sl g 5), some (wi x2), some (wi x3), some (wi (x4 + 1)), some (wi x5)] [] V9 (zi K)))))))) : vwp E d M_X9_keepValue 6 [some (sl g 19), some (sl g 5), some (wi x2), some (wi x3), some (wi x4), some (wi x5)] [] V (zi K) := by
  intro G A hR
  obtain ⟨L, P, rfl, hS⟩ := hR
  have hx := Xt.refl (V := pl G A L P) (A := A)
  show wp E d M_X9_keepValue 6 [some (vr (A g 19)), some (vr (A g 5)), some (vi x2), some (vi x3), some (vi x4), some (vi x5)] [] G _
  refine v_X9_keepValue_6 h0 ?_
  refine ⟨hS.o (sP_19 hg), ?_⟩
  refine ⟨fun hc => ?_, fun hc => ?_⟩
  · have h := h.1 hc
    have hS1 : Sh E (sI G (A g 19) 3 x4) A L P := Sh_sI (rfl : sI G (A g 19) 3 x4 = sI G (A g 19) 3 x4) hS (sP_19 hg) (okT_0 rfl)
    have h := h (pl (sI G (A g 19) 3 x4) A L P) (pl_sI (rfl : sI G (A g 19) 3 x4 = sI G (A g 19) 3 x4) hS (sP_19 hg))
    have hx1 : Xt (pl G A L P) A (pl (sI G (A g 19) 3 x4) A L P) A := Xt_sI (rfl : sI G (A g 19) 3 x4 = sI G (A g 19) 3 x4) hx
    exact qx_i hS1 hx1 h
  · have h := h.2 hc
    rw [lP_19_2 hS hg]
    refine ⟨hS.o (sP_20 hg), ?_⟩
    obtain ⟨hi2, h⟩ := h
    refine ⟨hi2, ?_⟩
    refine ⟨hS.o (sP_5 hg), ?_⟩
    refine wpM.mono (h G A ⟨L, P, rfl, hS⟩) (fun rr3 G3 hr => ?_)
    obtain ⟨A3, W3, w3, ⟨L3, P3, rfl, hS3⟩, hy3, rfl, r3, rfl, h⟩ := hr
    refine ⟨r3, rfl, ?_⟩
    have hx3 := Xt.trans hx hy3
    have hg4 : PG L3 g := PG.up hy3 hg
    have ee5 : A3 g 19 = A g 19 := hy3.2 _ _ hg.1 (((nP_19 hS3 hg4)).trans ((nP_19 hS hg)).symm)
    try rw [← ee5]
    have ee6 : A3 g 5 = A g 5 := hy3.2 _ _ hg.1 (((nP_5 hS3 hg4)).trans ((nP_5 hS hg)).symm)
    try rw [← ee6]
    refine ⟨fun hc => ?_, fun hc => ?_⟩
    · have h := h.1 hc
      exact wp.mono (h G3 A3 ⟨L3, P3, rfl, hS3⟩) (fun r G' q => qx_trans hx3 q)
    · have h := h.2 hc
      refine ⟨hS3.o (sP_19 hg4), ?_⟩
      rw [lP_19_2 hS3 hg4]
      refine ⟨hS3.o (sP_20 hg4), ?_⟩
      obtain ⟨hi7, h⟩ := h
      refine ⟨hi7, ?_⟩
      obtain ⟨hi8, h⟩ := h
      refine ⟨hi8, ?_⟩
      have hS9 : Sh E (sI G3 (A3 g 20) (Int32.toNatClampNeg x4) (gI G3 (A3 g 20) (Int32.toNatClampNeg x5))) A3 L3 P3 := Sh_sI (rfl : sI G3 (A3 g 20) (Int32.toNatClampNeg x4) (gI G3 (A3 g 20) (Int32.toNatClampNeg x5)) = sI G3 (A3 g 20) (Int32.toNatClampNeg x4) (gI G3 (A3 g 20) (Int32.toNatClampNeg x5))) hS3 (sP_20 hg4) (okT_0 rfl)
      have h := h (pl (sI G3 (A3 g 20) (Int32.toNatClampNeg x4) (gI G3 (A3 g 20) (Int32.toNatClampNeg x5))) A3 L3 P3) (pl_sI (rfl : sI G3 (A3 g 20) (Int32.toNatClampNeg x4) (gI G3 (A3 g 20) (Int32.toNatClampNeg x5)) = sI G3 (A3 g 20) (Int32.toNatClampNeg x4) (gI G3 (A3 g 20) (Int32.toNatClampNeg x5))) hS3 (sP_20 hg4))
      have hx9 : Xt (pl G A L P) A (pl (sI G3 (A3 g 20) (Int32.toNatClampNeg x4) (gI G3 (A3 g 20) (Int32.toNatClampNeg x5))) A3 L3 P3) A3 := Xt_sI (rfl : sI G3 (A3 g 20) (Int32.toNatClampNeg x4) (gI G3 (A3 g 20) (Int32.toNatClampNeg x5)) = sI G3 (A3 g 20) (Int32.toNatClampNeg x4) (gI G3 (A3 g 20) (Int32.toNatClampNeg x5))) hx3
      exact wp.mono (h (sI G3 (A3 g 20) (Int32.toNatClampNeg x4) (gI G3 (A3 g 20) (Int32.toNatClampNeg x5))) A3 ⟨L3, P3, rfl, hS9⟩) (fun r G' q => qx_trans hx9 q)
theorem w_X9_keepValue_48 {E : EE} {d : Nat} {V : VH} {K : Int32 → VH → Prop} {g : Nat} {x2 : Int32} {x3 : Int32} {x4 : Int32} {x5 : Int32} (hg : PG (vL V) g) (h : vwp E d M_X9_keepValue 6 [some (sl g 19), some (sl g 5), some (wi x2), some (wi x3), some (wi x4), some (wi (x5 + 1))] [] V (zi K)) : vwp E d M_X9_keepValue 48 [some (sl g 19), some (sl g 5), some (wi x2), some (wi x3), some (wi x4), some (wi x5)] [] V (zi K) := by
  intro G A hR
  obtain ⟨L, P, rfl, hS⟩ := hR
  have hx := Xt.refl (V := pl G A L P) (A := A)
  show wp E d M_X9_keepValue 48 [some (vr (A g 19)), some (vr (A g 5)), some (vi x2), some (vi x3), some (vi x4), some (vi x5)] [] G _
  refine v_X9_keepValue_48 ?_
  exact wp.mono (h G A ⟨L, P, rfl, hS⟩) (fun r G' q => qx_trans hx q)
theorem w_X9_keepBest_0 {E : EE} {d : Nat} {V : VH} {K : Int32 → VH → Prop} {g : Nat} (hg : PG (vL V) g) (h : (¬ (vI V g 19 3) = 0 → vp_in 0 (vN V g 20) ∧ (vwp E d M_X9_keepBest 18 [some (sl g 19), some (wi (vI V g 20 (Int32.toNatClampNeg 0))), some (wi 1), none] [] V (zi K))) ∧ ((vI V g 19 3) = 0 → K 0 V)) : vMI E d M_X9_keepBest [sl g 19] V K := by
  intro G A hR
  obtain ⟨L, P, rfl, hS⟩ := hR
  have hx := Xt.refl (V := pl G A L P) (A := A)
  show wpM E d M_X9_keepBest [vr (A g 19)] G _
  refine wpM_of mk_X9_keepBest (Nat.le_of_ble_eq_true rfl) ?_
  refine v_X9_keepBest_0 ?_
  refine ⟨hS.o (sP_19 hg), ?_⟩
  refine ⟨fun hc => ?_, fun hc => ?_⟩
  · have h := h.1 hc
    rw [lP_19_2 hS hg]
    refine ⟨hS.o (sP_20 hg), ?_⟩
    obtain ⟨hi1, h⟩ := h
    refine ⟨hi1, ?_⟩
    exact wp.mono (h G A ⟨L, P, rfl, hS⟩) (fun r G' q => qx_trans hx q)
  · have h := h.2 hc
    exact qx_i hS hx h
theorem w_X9_keepBest_18 {E : EE} {d : Nat} {V : VH} {K : Int32 → VH → Prop} {g : Nat} {x1 : Int32} {x2 : Int32} (hg : PG (vL V) g) (h0 : 0 < d) (h : ((vI V g 19 3) ≤ x2 → vwp E d M_X9_keepBest 57 [some (sl g 19), some (wi x1), some (wi 0), some (wi 0)] [] V (zi K)) ∧ (¬ ((vI V g 19 3) ≤ x2) → vp_in x2 (vN V g 20) ∧ (vMI E (d - 1) M_X9_isBetter [sl g 19, wi (vI V g 20 (Int32.toNatClampNeg x2)), wi x1] V (fun r2 V2 => (r2 = 0 → vwp E d M_X9_keepBest 47 [some (sl g 19), some (wi x1), some (wi x2), none] [] V2 (zi K)) ∧ (¬ (r2 = 0) → vp_in x2 (vN V2 g 20) ∧ (vwp E d M_X9_keepBest 47 [some (sl g 19), some (wi (vI V2 g 20 (Int32.toNatClampNeg x2))), some (wi x2), none] [] V2 (zi K))))))) : vwp E d M_X9_keepBest 18 [some (sl g 19), some (wi x1), some (wi x2), none] [] V (zi K) := by
  intro G A hR
  obtain ⟨L, P, rfl, hS⟩ := hR
  have hx := Xt.refl (V := pl G A L P) (A := A)
  show wp E d M_X9_keepBest 18 [some (vr (A g 19)), some (vi x1), some (vi x2), none] [] G _
  refine v_X9_keepBest_18 h0 ?_
  refine ⟨hS.o (sP_19 hg), ?_⟩
  refine ⟨fun hc => ?_, fun hc => ?_⟩
  · have h := h.1 hc
    exact wp.mono (h G A ⟨L, P, rfl, hS⟩) (fun r G' q => qx_trans hx q)
  · have h := h.2 hc
    rw [lP_19_2 hS hg]
    refine ⟨hS.o (sP_20 hg), ?_⟩
    obtain ⟨hi1, h⟩ := h
    refine ⟨hi1, ?_⟩
    refine wpM.mono (h G A ⟨L, P, rfl, hS⟩) (fun rr2 G2 hr => ?_)
    obtain ⟨A2, W2, w2, ⟨L2, P2, rfl, hS2⟩, hy2, rfl, r2, rfl, h⟩ := hr
    refine ⟨r2, rfl, ?_⟩
    have hx2 := Xt.trans hx hy2
    have hg3 : PG L2 g := PG.up hy2 hg
    have ee4 : A2 g 19 = A g 19 := hy2.2 _ _ hg.1 (((nP_19 hS2 hg3)).trans ((nP_19 hS hg)).symm)
    try rw [← ee4]
    refine ⟨fun hc => ?_, fun hc => ?_⟩
    · have h := h.1 hc
      exact wp.mono (h G2 A2 ⟨L2, P2, rfl, hS2⟩) (fun r G' q => qx_trans hx2 q)
    · have h := h.2 hc
      refine ⟨hS2.o (sP_19 hg3), ?_⟩
      rw [lP_19_2 hS2 hg3]
      refine ⟨hS2.o (sP_20 hg3), ?_⟩
      obtain ⟨hi5, h⟩ := h
      refine ⟨hi5, ?_⟩
      exact wp.mono (h G2 A2 ⟨L2, P2, rfl, hS2⟩) (fun r G' q => qx_trans hx2 q)
theorem w_X9_keepBest_47 {E : EE} {d : Nat} {V : VH} {K : Int32 → VH → Prop} {g : Nat} {x1 : Int32} {x2 : Int32} (hg : PG (vL V) g) (h : vwp E d M_X9_keepBest 18 [some (sl g 19), some (wi x1), some (wi (x2 + 1)), none] [] V (zi K)) : vwp E d M_X9_keepBest 47 [some (sl g 19), some (wi x1), some (wi x2), none] [] V (zi K) := by
  intro G A hR
  obtain ⟨L, P, rfl, hS⟩ := hR
  have hx := Xt.refl (V := pl G A L P) (A := A)
  show wp E d M_X9_keepBest 47 [some (vr (A g 19)), some (vi x1), some (vi x2), none] [] G _
  refine v_X9_keepBest_47 ?_
  exact wp.mono (h G A ⟨L, P, rfl, hS⟩) (fun r G' q => qx_trans hx q)
theorem w_X9_keepBest_57 {E : EE} {d : Nat} {V : VH} {K : Int32 → VH → Prop} {g : Nat} {x1 : Int32} {x2 : Int32} {x3 : Int32} (hg : PG (vL V) g) (h0 : 0 < d) (h : ((vI V g 19 3) ≤ x3 → ∀ V1 : VH, V1 = wrI V g 19 3 x2 → K x2 V1) ∧ (¬ ((vI V g 19 3) ≤ x3) → vp_in x3 (vN V g 20) ∧ (vMI E (d - 1) M_X9_isBetter [sl g 19, wi x1, wi (vI V g 20 (Int32.toNatClampNeg x3))] V (fun r3 V3 => (¬ r3 = 0 → vwp E d M_X9_keepBest 94 [some (sl g 19), some (wi x1), some (wi x2), some (wi x3)] [] V3 (zi K)) ∧ (r3 = 0 → vp_in x3 (vN V3 g 20) ∧ (vp_in x2 (vN V3 g 20) ∧ (∀ V8 : VH, V8 = wrI V3 g 20 (Int32.toNatClampNeg x2) (vI V3 g 20 (Int32.toNatClampNeg x3)) → vwp E d M_X9_keepBest 94 [some (sl g 19), some (wi x1), some (wi (x2 + 1)), some (wi x3)] [] V8 (zi K)))))))) : vwp E d M_X9_keepBest 57 [some (sl g 19), some (wi x1), some (wi x2), some (wi x3)] [] V (zi K) := by
  intro G A hR
  obtain ⟨L, P, rfl, hS⟩ := hR
  have hx := Xt.refl (V := pl G A L P) (A := A)
  show wp E d M_X9_keepBest 57 [some (vr (A g 19)), some (vi x1), some (vi x2), some (vi x3)] [] G _
  refine v_X9_keepBest_57 h0 ?_
  refine ⟨hS.o (sP_19 hg), ?_⟩
  refine ⟨fun hc => ?_, fun hc => ?_⟩
  · have h := h.1 hc
    have hS1 : Sh E (sI G (A g 19) 3 x2) A L P := Sh_sI (rfl : sI G (A g 19) 3 x2 = sI G (A g 19) 3 x2) hS (sP_19 hg) (okT_0 rfl)
    have h := h (pl (sI G (A g 19) 3 x2) A L P) (pl_sI (rfl : sI G (A g 19) 3 x2 = sI G (A g 19) 3 x2) hS (sP_19 hg))
    have hx1 : Xt (pl G A L P) A (pl (sI G (A g 19) 3 x2) A L P) A := Xt_sI (rfl : sI G (A g 19) 3 x2 = sI G (A g 19) 3 x2) hx
    exact qx_i hS1 hx1 h
  · have h := h.2 hc
    rw [lP_19_2 hS hg]
    refine ⟨hS.o (sP_20 hg), ?_⟩
    obtain ⟨hi2, h⟩ := h
    refine ⟨hi2, ?_⟩
    refine wpM.mono (h G A ⟨L, P, rfl, hS⟩) (fun rr3 G3 hr => ?_)
    obtain ⟨A3, W3, w3, ⟨L3, P3, rfl, hS3⟩, hy3, rfl, r3, rfl, h⟩ := hr
    refine ⟨r3, rfl, ?_⟩
    have hx3 := Xt.trans hx hy3
    have hg4 : PG L3 g := PG.up hy3 hg
    have ee5 : A3 g 19 = A g 19 := hy3.2 _ _ hg.1 (((nP_19 hS3 hg4)).trans ((nP_19 hS hg)).symm)
    try rw [← ee5]
    refine ⟨fun hc => ?_, fun hc => ?_⟩
    · have h := h.1 hc
      exact wp.mono (h G3 A3 ⟨L3, P3, rfl, hS3⟩) (fun r G' q => qx_trans hx3 q)
    · have h := h.2 hc
      refine ⟨hS3.o (sP_19 hg4), ?_⟩
      rw [lP_19_2 hS3 hg4]
      refine ⟨hS3.o (sP_20 hg4), ?_⟩
      obtain ⟨hi6, h⟩ := h
      refine ⟨hi6, ?_⟩
      obtain ⟨hi7, h⟩ := h
      refine ⟨hi7, ?_⟩
      have hS8 : Sh E (sI G3 (A3 g 20) (Int32.toNatClampNeg x2) (gI G3 (A3 g 20) (Int32.toNatClampNeg x3))) A3 L3 P3 := Sh_sI (rfl : sI G3 (A3 g 20) (Int32.toNatClampNeg x2) (gI G3 (A3 g 20) (Int32.toNatClampNeg x3)) = sI G3 (A3 g 20) (Int32.toNatClampNeg x2) (gI G3 (A3 g 20) (Int32.toNatClampNeg x3))) hS3 (sP_20 hg4) (okT_0 rfl)
      have h := h (pl (sI G3 (A3 g 20) (Int32.toNatClampNeg x2) (gI G3 (A3 g 20) (Int32.toNatClampNeg x3))) A3 L3 P3) (pl_sI (rfl : sI G3 (A3 g 20) (Int32.toNatClampNeg x2) (gI G3 (A3 g 20) (Int32.toNatClampNeg x3)) = sI G3 (A3 g 20) (Int32.toNatClampNeg x2) (gI G3 (A3 g 20) (Int32.toNatClampNeg x3))) hS3 (sP_20 hg4))
      have hx8 : Xt (pl G A L P) A (pl (sI G3 (A3 g 20) (Int32.toNatClampNeg x2) (gI G3 (A3 g 20) (Int32.toNatClampNeg x3))) A3 L3 P3) A3 := Xt_sI (rfl : sI G3 (A3 g 20) (Int32.toNatClampNeg x2) (gI G3 (A3 g 20) (Int32.toNatClampNeg x3)) = sI G3 (A3 g 20) (Int32.toNatClampNeg x2) (gI G3 (A3 g 20) (Int32.toNatClampNeg x3))) hx3
      exact wp.mono (h (sI G3 (A3 g 20) (Int32.toNatClampNeg x2) (gI G3 (A3 g 20) (Int32.toNatClampNeg x3))) A3 ⟨L3, P3, rfl, hS8⟩) (fun r G' q => qx_trans hx8 q)
theorem w_X9_keepBest_94 {E : EE} {d : Nat} {V : VH} {K : Int32 → VH → Prop} {g : Nat} {x1 : Int32} {x2 : Int32} {x3 : Int32} (hg : PG (vL V) g) (h : vwp E d M_X9_keepBest 57 [some (sl g 19), some (wi x1), some (wi x2), some (wi (x3 + 1))] [] V (zi K)) : vwp E d M_X9_keepBest 94 [some (sl g 19), some (wi x1), some (wi x2), some (wi x3)] [] V (zi K) := by
  intro G A hR
  obtain ⟨L, P, rfl, hS⟩ := hR
  have hx := Xt.refl (V := pl G A L P) (A := A)
  show wp E d M_X9_keepBest 94 [some (vr (A g 19)), some (vi x1), some (vi x2), some (vi x3)] [] G _
  refine v_X9_keepBest_94 ?_
  exact wp.mono (h G A ⟨L, P, rfl, hS⟩) (fun r G' q => qx_trans hx q)
theorem w_X9_gatherFor_0 {E : EE} {d : Nat} {V : VH} {K : Int32 → VH → Prop} {g : Nat} {x2 : Int32} (hg : PG (vL V) g) (h0 : 0 < d) (h : vMI E (d - 1) M_X9_gather [sl g 19, sl g 0, wi (vI V g 0 9)] V (fun r1 V1 => (x2 = 0 → K (vI V1 g 19 3) V1) ∧ (¬ (x2 = 0) → vMI E (d - 1) M_X9_keepBest [sl g 19] V1 (fun r5 V5 => K r5 V5)))) : vMI E d M_X9_gatherFor [sl g 19, sl g 0, wi x2] V K := by
  intro G A hR
  obtain ⟨L, P, rfl, hS⟩ := hR
  have hx := Xt.refl (V := pl G A L P) (A := A)
  show wpM E d M_X9_gatherFor [vr (A g 19), vr (A g 0), vi x2] G _
  refine wpM_of mk_X9_gatherFor (Nat.le_of_ble_eq_true rfl) ?_
  refine v_X9_gatherFor_0 h0 ?_
  refine ⟨hS.o (sP_0 hg), ?_⟩
  refine ⟨hS.o (sP_19 hg), ?_⟩
  refine wpM.mono (h G A ⟨L, P, rfl, hS⟩) (fun rr1 G1 hr => ?_)
  obtain ⟨A1, W1, w1, ⟨L1, P1, rfl, hS1⟩, hy1, rfl, r1, rfl, h⟩ := hr
  refine ⟨r1, rfl, ?_⟩
  have hx1 := Xt.trans hx hy1
  have hg2 : PG L1 g := PG.up hy1 hg
  have ee3 : A1 g 0 = A g 0 := hy1.2 _ _ hg.1 (((nP_0 hS1 hg2)).trans ((nP_0 hS hg)).symm)
  try rw [← ee3]
  have ee4 : A1 g 19 = A g 19 := hy1.2 _ _ hg.1 (((nP_19 hS1 hg2)).trans ((nP_19 hS hg)).symm)
  try rw [← ee4]
  refine ⟨fun hc => ?_, fun hc => ?_⟩
  · have h := h.1 hc
    refine ⟨hS1.o (sP_19 hg2), ?_⟩
    exact qx_i hS1 hx1 h
  · have h := h.2 hc
    refine ⟨hS1.o (sP_19 hg2), ?_⟩
    refine wpM.mono (h G1 A1 ⟨L1, P1, rfl, hS1⟩) (fun rr5 G5 hr => ?_)
    obtain ⟨A5, W5, w5, ⟨L5, P5, rfl, hS5⟩, hy5, rfl, r5, rfl, h⟩ := hr
    refine ⟨r5, rfl, ?_⟩
    have hx5 := Xt.trans hx1 hy5
    have hg6 : PG L5 g := PG.up hy5 hg2
    have ee7 : A5 g 0 = A1 g 0 := hy5.2 _ _ hg2.1 (((nP_0 hS5 hg6)).trans ((nP_0 hS1 hg2)).symm)
    try rw [← ee7]
    have ee8 : A5 g 19 = A1 g 19 := hy5.2 _ _ hg2.1 (((nP_19 hS5 hg6)).trans ((nP_19 hS1 hg2)).symm)
    try rw [← ee8]
    exact qx_i hS5 hx5 h
theorem w_X9_walkFront_0 {E : EE} {d : Nat} {V : VH} {K : Int32 → VH → Prop} {g : Nat} {x2 : Int32} (hg : PG (vL V) g) (h0 : 0 < d) (h : vMI E (d - 1) M_X9_gather [sl g 19, sl g 0, wi (vI V g 0 9)] V (fun r1 V1 => vMV E (d - 1) M_X9_sortByPair [sl g 19] V1 (fun V5 => vwp E d M_X9_walkFront 27 [some (sl g 19), some (sl g 0), some (wi x2), some (wi 0), some (wj 9223372036854775807), none, some (wi 0), some (wi 0), none, none] [] V5 (zi K)))) : vMI E d M_X9_walkFront [sl g 19, sl g 0, wi x2] V K := by
  intro G A hR
  obtain ⟨L, P, rfl, hS⟩ := hR
  have hx := Xt.refl (V := pl G A L P) (A := A)
  show wpM E d M_X9_walkFront [vr (A g 19), vr (A g 0), vi x2] G _
  refine wpM_of mk_X9_walkFront (Nat.le_of_ble_eq_true rfl) ?_
  refine v_X9_walkFront_0 h0 ?_
  refine ⟨hS.o (sP_0 hg), ?_⟩
  refine ⟨hS.o (sP_19 hg), ?_⟩
  refine wpM.mono (h G A ⟨L, P, rfl, hS⟩) (fun rr1 G1 hr => ?_)
  obtain ⟨A1, W1, w1, ⟨L1, P1, rfl, hS1⟩, hy1, rfl, r1, rfl, h⟩ := hr
  refine ⟨r1, rfl, ?_⟩
  have hx1 := Xt.trans hx hy1
  have hg2 : PG L1 g := PG.up hy1 hg
  have ee3 : A1 g 0 = A g 0 := hy1.2 _ _ hg.1 (((nP_0 hS1 hg2)).trans ((nP_0 hS hg)).symm)
  try rw [← ee3]
  have ee4 : A1 g 19 = A g 19 := hy1.2 _ _ hg.1 (((nP_19 hS1 hg2)).trans ((nP_19 hS hg)).symm)
  try rw [← ee4]
  refine ⟨hS1.o (sP_19 hg2), ?_⟩
  refine wpM.mono (h G1 A1 ⟨L1, P1, rfl, hS1⟩) (fun rr5 G5 hr => ?_)
  obtain ⟨A5, W5, w5, ⟨L5, P5, rfl, hS5⟩, hy5, rfl, rfl, h⟩ := hr
  refine ⟨rfl, ?_⟩
  have hx5 := Xt.trans hx1 hy5
  have hg6 : PG L5 g := PG.up hy5 hg2
  have ee7 : A5 g 0 = A1 g 0 := hy5.2 _ _ hg2.1 (((nP_0 hS5 hg6)).trans ((nP_0 hS1 hg2)).symm)
  try rw [← ee7]
  have ee8 : A5 g 19 = A1 g 19 := hy5.2 _ _ hg2.1 (((nP_19 hS5 hg6)).trans ((nP_19 hS1 hg2)).symm)
  try rw [← ee8]
  exact wp.mono (h G5 A5 ⟨L5, P5, rfl, hS5⟩) (fun r G' q => qx_trans hx5 q)
theorem w_X9_walkFront_27 {E : EE} {d : Nat} {V : VH} {K : Int32 → VH → Prop} {g : Nat} {x2 : Int32} {x3 : Int32} {x4 : Int64} {x6 : Int32} {x7 : Int32} (hg : PG (vL V) g) (h : (20000 ≤ x7 → K x3 V) ∧ (¬ (20000 ≤ x7) → ((vI V g 19 3) ≤ x6 → K x3 V) ∧ (¬ ((vI V g 19 3) ≤ x6) → vp_in x6 (vN V g 20) ∧ (vwp E d M_X9_walkFront 60 [some (sl g 19), some (sl g 0), some (wi x2), some (wi x3), some (wj x4), none, some (wi (x6 + 1)), some (wi x7), some (wi (vI V g 20 (Int32.toNatClampNeg x6))), some (wi x6)] [] V (zi K))))) : vwp E d M_X9_walkFront 27 [some (sl g 19), some (sl g 0), some (wi x2), some (wi x3), some (wj x4), none, some (wi x6), some (wi x7), none, none] [] V (zi K) := by
  intro G A hR
  obtain ⟨L, P, rfl, hS⟩ := hR
  have hx := Xt.refl (V := pl G A L P) (A := A)
  show wp E d M_X9_walkFront 27 [some (vr (A g 19)), some (vr (A g 0)), some (vi x2), some (vi x3), some (vj x4), none, some (vi x6), some (vi x7), none, none] [] G _
  refine v_X9_walkFront_27 ?_
  refine ⟨fun hc => ?_, fun hc => ?_⟩
  · have h := h.1 hc
    exact qx_i hS hx h
  · have h := h.2 hc
    refine ⟨hS.o (sP_19 hg), ?_⟩
    refine ⟨fun hc => ?_, fun hc => ?_⟩
    · have h := h.1 hc
      exact qx_i hS hx h
    · have h := h.2 hc
      rw [lP_19_2 hS hg]
      refine ⟨hS.o (sP_20 hg), ?_⟩
      obtain ⟨hi1, h⟩ := h
      refine ⟨hi1, ?_⟩
      exact wp.mono (h G A ⟨L, P, rfl, hS⟩) (fun r G' q => qx_trans hx q)
theorem w_X9_walkFront_60 {E : EE} {d : Nat} {V : VH} {K : Int32 → VH → Prop} {g : Nat} {x2 : Int32} {x3 : Int32} {x4 : Int64} {x6 : Int32} {x7 : Int32} {x8 : Int32} {x9 : Int32} (hg : PG (vL V) g) (h0 : 0 < d) (h : ((vI V g 19 3) ≤ x6 → vwp E d M_X9_walkFront 91 [some (sl g 19), some (sl g 0), some (wi x2), some (wi x3), some (wj x4), none, some (wi x6), some (wi x7), some (wi x8), some (wi x9)] [] V (zi K)) ∧ (¬ ((vI V g 19 3) ≤ x6) → vp_in x6 (vN V g 20) ∧ (vMI E (d - 1) M_X9_isSamePair [sl g 19, wi (vI V g 20 (Int32.toNatClampNeg x6)), wi x8] V (fun r2 V2 => (r2 = 0 → vwp E d M_X9_walkFront 91 [some (sl g 19), some (sl g 0), some (wi x2), some (wi x3), some (wj x4), none, some (wi x6), some (wi x7), some (wi x8), some (wi x9)] [] V2 (zi K)) ∧ (¬ (r2 = 0) → vwp E d M_X9_walkFront 60 [some (sl g 19), some (sl g 0), some (wi x2), some (wi x3), some (wj x4), none, some (wi (x6 + 1)), some (wi x7), some (wi x8), some (wi x9)] [] V2 (zi K)))))) : vwp E d M_X9_walkFront 60 [some (sl g 19), some (sl g 0), some (wi x2), some (wi x3), some (wj x4), none, some (wi x6), some (wi x7), some (wi x8), some (wi x9)] [] V (zi K) := by
  intro G A hR
  obtain ⟨L, P, rfl, hS⟩ := hR
  have hx := Xt.refl (V := pl G A L P) (A := A)
  show wp E d M_X9_walkFront 60 [some (vr (A g 19)), some (vr (A g 0)), some (vi x2), some (vi x3), some (vj x4), none, some (vi x6), some (vi x7), some (vi x8), some (vi x9)] [] G _
  refine v_X9_walkFront_60 h0 ?_
  refine ⟨hS.o (sP_19 hg), ?_⟩
  refine ⟨fun hc => ?_, fun hc => ?_⟩
  · have h := h.1 hc
    exact wp.mono (h G A ⟨L, P, rfl, hS⟩) (fun r G' q => qx_trans hx q)
  · have h := h.2 hc
    rw [lP_19_2 hS hg]
    refine ⟨hS.o (sP_20 hg), ?_⟩
    obtain ⟨hi1, h⟩ := h
    refine ⟨hi1, ?_⟩
    refine wpM.mono (h G A ⟨L, P, rfl, hS⟩) (fun rr2 G2 hr => ?_)
    obtain ⟨A2, W2, w2, ⟨L2, P2, rfl, hS2⟩, hy2, rfl, r2, rfl, h⟩ := hr
    refine ⟨r2, rfl, ?_⟩
    have hx2 := Xt.trans hx hy2
    have hg3 : PG L2 g := PG.up hy2 hg
    have ee4 : A2 g 0 = A g 0 := hy2.2 _ _ hg.1 (((nP_0 hS2 hg3)).trans ((nP_0 hS hg)).symm)
    try rw [← ee4]
    have ee5 : A2 g 19 = A g 19 := hy2.2 _ _ hg.1 (((nP_19 hS2 hg3)).trans ((nP_19 hS hg)).symm)
    try rw [← ee5]
    refine ⟨fun hc => ?_, fun hc => ?_⟩
    · have h := h.1 hc
      exact wp.mono (h G2 A2 ⟨L2, P2, rfl, hS2⟩) (fun r G' q => qx_trans hx2 q)
    · have h := h.2 hc
      exact wp.mono (h G2 A2 ⟨L2, P2, rfl, hS2⟩) (fun r G' q => qx_trans hx2 q)
theorem w_X9_walkFront_91 {E : EE} {d : Nat} {V : VH} {K : Int32 → VH → Prop} {g : Nat} {x2 : Int32} {x3 : Int32} {x4 : Int64} {x6 : Int32} {x7 : Int32} {x8 : Int32} {x9 : Int32} (hg : PG (vL V) g) (h0 : 0 < d) (h : vMJ E (d - 1) M_X9_scoreOf [sl g 19, wi x8, wi 2] V (fun r1 V1 => (r1 < x4 → vMJ E (d - 1) M_X9_scoreOf [sl g 19, wi x8, wi 2] V1 (fun r5 V5 => (¬ x3 = x2 → vwp E d M_X9_walkFront 136 [some (sl g 19), some (sl g 0), some (wi x2), some (wi x3), some (wj r5), none, some (wi x6), some (wi x7), some (wi x8), some (wi x9)] [] V5 (zi K)) ∧ (x3 = x2 → ∀ V9 : VH, V9 = wrI V5 g 19 4 x8 → ∀ V10 : VH, V10 = wrI V9 g 19 5 (x6 - x9) → vwp E d M_X9_walkFront 136 [some (sl g 19), some (sl g 0), some (wi x2), some (wi x3), some (wj r5), none, some (wi x6), some (wi x7), some (wi x8), some (wi x9)] [] V10 (zi K)))) ∧ (¬ (r1 < x4) → vwp E d M_X9_walkFront 139 [some (sl g 19), some (sl g 0), some (wi x2), some (wi x3), some (wj x4), none, some (wi x6), some (wi x7), some (wi x8), some (wi x9)] [] V1 (zi K)))) : vwp E d M_X9_walkFront 91 [some (sl g 19), some (sl g 0), some (wi x2), some (wi x3), some (wj x4), none, some (wi x6), some (wi x7), some (wi x8), some (wi x9)] [] V (zi K) := by
  intro G A hR
  obtain ⟨L, P, rfl, hS⟩ := hR
  have hx := Xt.refl (V := pl G A L P) (A := A)
  show wp E d M_X9_walkFront 91 [some (vr (A g 19)), some (vr (A g 0)), some (vi x2), some (vi x3), some (vj x4), none, some (vi x6), some (vi x7), some (vi x8), some (vi x9)] [] G _
  refine v_X9_walkFront_91 h0 ?_
  refine ⟨hS.o (sP_19 hg), ?_⟩
  refine wpM.mono (h G A ⟨L, P, rfl, hS⟩) (fun rr1 G1 hr => ?_)
  obtain ⟨A1, W1, w1, ⟨L1, P1, rfl, hS1⟩, hy1, rfl, r1, rfl, h⟩ := hr
  refine ⟨r1, rfl, ?_⟩
  have hx1 := Xt.trans hx hy1
  have hg2 : PG L1 g := PG.up hy1 hg
  have ee3 : A1 g 0 = A g 0 := hy1.2 _ _ hg.1 (((nP_0 hS1 hg2)).trans ((nP_0 hS hg)).symm)
  try rw [← ee3]
  have ee4 : A1 g 19 = A g 19 := hy1.2 _ _ hg.1 (((nP_19 hS1 hg2)).trans ((nP_19 hS hg)).symm)
  try rw [← ee4]
  refine ⟨fun hc => ?_, fun hc => ?_⟩
  · have h := h.1 hc
    refine ⟨hS1.o (sP_19 hg2), ?_⟩
    refine wpM.mono (h G1 A1 ⟨L1, P1, rfl, hS1⟩) (fun rr5 G5 hr => ?_)
    obtain ⟨A5, W5, w5, ⟨L5, P5, rfl, hS5⟩, hy5, rfl, r5, rfl, h⟩ := hr
    refine ⟨r5, rfl, ?_⟩
    have hx5 := Xt.trans hx1 hy5
    have hg6 : PG L5 g := PG.up hy5 hg2
    have ee7 : A5 g 0 = A1 g 0 := hy5.2 _ _ hg2.1 (((nP_0 hS5 hg6)).trans ((nP_0 hS1 hg2)).symm)
    try rw [← ee7]
    have ee8 : A5 g 19 = A1 g 19 := hy5.2 _ _ hg2.1 (((nP_19 hS5 hg6)).trans ((nP_19 hS1 hg2)).symm)
    try rw [← ee8]
    refine ⟨fun hc => ?_, fun hc => ?_⟩
    · have h := h.1 hc
      exact wp.mono (h G5 A5 ⟨L5, P5, rfl, hS5⟩) (fun r G' q => qx_trans hx5 q)
    · have h := h.2 hc
      refine ⟨hS5.o (sP_19 hg6), ?_⟩
      intro G9 eG9
      have hS9 : Sh E G9 A5 L5 P5 := Sh_sI eG9 hS5 (sP_19 hg6) (okT_0 rfl)
      have h := h (pl G9 A5 L5 P5) (pl_sI eG9 hS5 (sP_19 hg6))
      have hx9 : Xt (pl G A L P) A (pl G9 A5 L5 P5) A5 := Xt_sI eG9 hx5
      intro G10 eG10
      have hS10 : Sh E G10 A5 L5 P5 := Sh_sI eG10 hS9 (sP_19 hg6) (okT_0 rfl)
      have h := h (pl G10 A5 L5 P5) (pl_sI eG10 hS9 (sP_19 hg6))
      have hx10 : Xt (pl G A L P) A (pl G10 A5 L5 P5) A5 := Xt_sI eG10 hx9
      exact wp.mono (h G10 A5 ⟨L5, P5, rfl, hS10⟩) (fun r G' q => qx_trans hx10 q)
  · have h := h.2 hc
    exact wp.mono (h G1 A1 ⟨L1, P1, rfl, hS1⟩) (fun r G' q => qx_trans hx1 q)
theorem w_X9_walkFront_136 {E : EE} {d : Nat} {V : VH} {K : Int32 → VH → Prop} {g : Nat} {x2 : Int32} {x3 : Int32} {x4 : Int64} {x6 : Int32} {x7 : Int32} {x8 : Int32} {x9 : Int32} (hg : PG (vL V) g) (h : vwp E d M_X9_walkFront 139 [some (sl g 19), some (sl g 0), some (wi x2), some (wi (x3 + 1)), some (wj x4), none, some (wi x6), some (wi x7), some (wi x8), some (wi x9)] [] V (zi K)) : vwp E d M_X9_walkFront 136 [some (sl g 19), some (sl g 0), some (wi x2), some (wi x3), some (wj x4), none, some (wi x6), some (wi x7), some (wi x8), some (wi x9)] [] V (zi K) := by
  intro G A hR
  obtain ⟨L, P, rfl, hS⟩ := hR
  have hx := Xt.refl (V := pl G A L P) (A := A)
  show wp E d M_X9_walkFront 136 [some (vr (A g 19)), some (vr (A g 0)), some (vi x2), some (vi x3), some (vj x4), none, some (vi x6), some (vi x7), some (vi x8), some (vi x9)] [] G _
  refine v_X9_walkFront_136 ?_
  exact wp.mono (h G A ⟨L, P, rfl, hS⟩) (fun r G' q => qx_trans hx q)
theorem w_X9_walkFront_139 {E : EE} {d : Nat} {V : VH} {K : Int32 → VH → Prop} {g : Nat} {x2 : Int32} {x3 : Int32} {x4 : Int64} {x6 : Int32} {x7 : Int32} {x8 : Int32} {x9 : Int32} (hg : PG (vL V) g) (h : vwp E d M_X9_walkFront 27 [some (sl g 19), some (sl g 0), some (wi x2), some (wi x3), some (wj x4), none, some (wi x6), some (wi (x7 + 1)), none, none] [] V (zi K)) : vwp E d M_X9_walkFront 139 [some (sl g 19), some (sl g 0), some (wi x2), some (wi x3), some (wj x4), none, some (wi x6), some (wi x7), some (wi x8), some (wi x9)] [] V (zi K) := by
  intro G A hR
  obtain ⟨L, P, rfl, hS⟩ := hR
  have hx := Xt.refl (V := pl G A L P) (A := A)
  show wp E d M_X9_walkFront 139 [some (vr (A g 19)), some (vr (A g 0)), some (vi x2), some (vi x3), some (vj x4), none, some (vi x6), some (vi x7), some (vi x8), some (vi x9)] [] G _
  refine v_X9_walkFront_139 ?_
  exact wp.mono (h G A ⟨L, P, rfl, hS⟩) (fun r G' q => qx_trans hx q)
theorem w_X9_sortByPair_0 {E : EE} {d : Nat} {V : VH} {K : VH → Prop} {g : Nat} (hg : PG (vL V) g) (h : vwp E d M_X9_sortByPair 9 [some (sl g 19), some (wi (((vI V g 19 3) / 2) - 1)), none] [] V (zv K)) : vMV E d M_X9_sortByPair [sl g 19] V K := by
  intro G A hR
  obtain ⟨L, P, rfl, hS⟩ := hR
  have hx := Xt.refl (V := pl G A L P) (A := A)
  show wpM E d M_X9_sortByPair [vr (A g 19)] G _
  refine wpM_of mk_X9_sortByPair (Nat.le_of_ble_eq_true rfl) ?_
  refine v_X9_sortByPair_0 ?_
  refine ⟨hS.o (sP_19 hg), ?_⟩
  exact wp.mono (h G A ⟨L, P, rfl, hS⟩) (fun r G' q => qx_trans hx q)
theorem w_X9_sortByPair_9 {E : EE} {d : Nat} {V : VH} {K : VH → Prop} {g : Nat} {x1 : Int32} (hg : PG (vL V) g) (h0 : 0 < d) (h : (x1 < 0 → vwp E d M_X9_sortByPair 35 [some (sl g 19), some (wi ((vI V g 19 3) - 1)), none] [] V (zv K)) ∧ (¬ (x1 < 0) → vMV E (d - 1) M_X9_sink [sl g 19, wi x1, wi (vI V g 19 3)] V (fun V1 => vwp E d M_X9_sortByPair 9 [some (sl g 19), some (wi (x1 + (-1))), none] [] V1 (zv K)))) : vwp E d M_X9_sortByPair 9 [some (sl g 19), some (wi x1), none] [] V (zv K) := by
  intro G A hR
  obtain ⟨L, P, rfl, hS⟩ := hR
  have hx := Xt.refl (V := pl G A L P) (A := A)
  show wp E d M_X9_sortByPair 9 [some (vr (A g 19)), some (vi x1), none] [] G _
  refine v_X9_sortByPair_9 h0 ?_
  refine ⟨fun hc => ?_, fun hc => ?_⟩
  · have h := h.1 hc
    refine ⟨hS.o (sP_19 hg), ?_⟩
    exact wp.mono (h G A ⟨L, P, rfl, hS⟩) (fun r G' q => qx_trans hx q)
  · have h := h.2 hc
    refine ⟨hS.o (sP_19 hg), ?_⟩
    refine wpM.mono (h G A ⟨L, P, rfl, hS⟩) (fun rr1 G1 hr => ?_)
    obtain ⟨A1, W1, w1, ⟨L1, P1, rfl, hS1⟩, hy1, rfl, rfl, h⟩ := hr
    refine ⟨rfl, ?_⟩
    have hx1 := Xt.trans hx hy1
    have hg2 : PG L1 g := PG.up hy1 hg
    have ee3 : A1 g 19 = A g 19 := hy1.2 _ _ hg.1 (((nP_19 hS1 hg2)).trans ((nP_19 hS hg)).symm)
    try rw [← ee3]
    exact wp.mono (h G1 A1 ⟨L1, P1, rfl, hS1⟩) (fun r G' q => qx_trans hx1 q)
theorem w_X9_sortByPair_35 {E : EE} {d : Nat} {V : VH} {K : VH → Prop} {g : Nat} {x1 : Int32} (hg : PG (vL V) g) (h0 : 0 < d) (h : (x1 ≤ 0 → K V) ∧ (¬ (x1 ≤ 0) → vp_in 0 (vN V g 20) ∧ (vp_in x1 (vN V g 20) ∧ (vp_in 0 (vN V g 20) ∧ (∀ V4 : VH, V4 = wrI V g 20 (Int32.toNatClampNeg 0) (vI V g 20 (Int32.toNatClampNeg x1)) → vp_in x1 (vN V4 g 20) ∧ (∀ V6 : VH, V6 = wrI V4 g 20 (Int32.toNatClampNeg x1) (vI V g 20 (Int32.toNatClampNeg 0)) → vMV E (d - 1) M_X9_sink [sl g 19, wi 0, wi x1] V6 (fun V7 => vwp E d M_X9_sortByPair 35 [some (sl g 19), some (wi (x1 + (-1))), none] [] V7 (zv K)))))))) : vwp E d M_X9_sortByPair 35 [some (sl g 19), some (wi x1), none] [] V (zv K) := by
  intro G A hR
  obtain ⟨L, P, rfl, hS⟩ := hR
  have hx := Xt.refl (V := pl G A L P) (A := A)
  show wp E d M_X9_sortByPair 35 [some (vr (A g 19)), some (vi x1), none] [] G _
  refine v_X9_sortByPair_35 h0 ?_
  refine ⟨fun hc => ?_, fun hc => ?_⟩
  · have h := h.1 hc
    exact qx_v hS hx h
  · have h := h.2 hc
    refine ⟨hS.o (sP_19 hg), ?_⟩
    rw [lP_19_2 hS hg]
    refine ⟨hS.o (sP_20 hg), ?_⟩
    obtain ⟨hi1, h⟩ := h
    refine ⟨hi1, ?_⟩
    obtain ⟨hi2, h⟩ := h
    refine ⟨hi2, ?_⟩
    obtain ⟨hi3, h⟩ := h
    refine ⟨hi3, ?_⟩
    intro G4 eG4
    have hS4 : Sh E G4 A L P := Sh_sI eG4 hS (sP_20 hg) (okT_0 rfl)
    have h := h (pl G4 A L P) (pl_sI eG4 hS (sP_20 hg))
    have hx4 : Xt (pl G A L P) A (pl G4 A L P) A := Xt_sI eG4 hx
    rw [lP_19_2 hS4 hg]
    refine ⟨hS4.o (sP_20 hg), ?_⟩
    obtain ⟨hi5, h⟩ := h
    refine ⟨hi5, ?_⟩
    intro G6 eG6
    have hS6 : Sh E G6 A L P := Sh_sI eG6 hS4 (sP_20 hg) (okT_0 rfl)
    have h := h (pl G6 A L P) (pl_sI eG6 hS4 (sP_20 hg))
    have hx6 : Xt (pl G A L P) A (pl G6 A L P) A := Xt_sI eG6 hx4
    refine wpM.mono (h G6 A ⟨L, P, rfl, hS6⟩) (fun rr7 G7 hr => ?_)
    obtain ⟨A7, W7, w7, ⟨L7, P7, rfl, hS7⟩, hy7, rfl, rfl, h⟩ := hr
    refine ⟨rfl, ?_⟩
    have hx7 := Xt.trans hx6 hy7
    have hg8 : PG L7 g := PG.up hy7 hg
    have ee9 : A7 g 19 = A g 19 := hy7.2 _ _ hg.1 (((nP_19 hS7 hg8)).trans ((nP_19 hS6 hg)).symm)
    try rw [← ee9]
    exact wp.mono (h G7 A7 ⟨L7, P7, rfl, hS7⟩) (fun r G' q => qx_trans hx7 q)
theorem w_X9_sink_0 {E : EE} {d : Nat} {V : VH} {K : VH → Prop} {g : Nat} {x1 : Int32} {x2 : Int32} (hg : PG (vL V) g) (h : vwp E d M_X9_sink 5 [some (sl g 19), some (wi x1), some (wi x2), some (wi x1), some (wi 0), none, none] [] V (zv K)) : vMV E d M_X9_sink [sl g 19, wi x1, wi x2] V K := by
  intro G A hR
  obtain ⟨L, P, rfl, hS⟩ := hR
  have hx := Xt.refl (V := pl G A L P) (A := A)
  show wpM E d M_X9_sink [vr (A g 19), vi x1, vi x2] G _
  refine wpM_of mk_X9_sink (Nat.le_of_ble_eq_true rfl) ?_
  refine v_X9_sink_0 ?_
  exact wp.mono (h G A ⟨L, P, rfl, hS⟩) (fun r G' q => qx_trans hx q)
theorem w_X9_sink_5 {E : EE} {d : Nat} {V : VH} {K : VH → Prop} {g : Nat} {x1 : Int32} {x2 : Int32} {x3 : Int32} {x4 : Int32} (hg : PG (vL V) g) (h0 : 0 < d) (h : (x2 ≤ x4 → K V) ∧ (¬ (x2 ≤ x4) → (x2 ≤ ((2 * x3) + 1) → K V) ∧ (¬ (x2 ≤ ((2 * x3) + 1)) → (x2 ≤ (((2 * x3) + 1) + 1) → vwp E d M_X9_sink 61 [some (sl g 19), some (wi x1), some (wi x2), some (wi x3), some (wi x4), some (wi ((2 * x3) + 1)), none] [] V (zv K)) ∧ (¬ (x2 ≤ (((2 * x3) + 1) + 1)) → vp_in (((2 * x3) + 1) + 1) (vN V g 20) ∧ (vp_in ((2 * x3) + 1) (vN V g 20) ∧ (vMI E (d - 1) M_X9_isBehind [sl g 19, wi (vI V g 20 (Int32.toNatClampNeg (((2 * x3) + 1) + 1))), wi (vI V g 20 (Int32.toNatClampNeg ((2 * x3) + 1)))] V (fun r3 V3 => (r3 = 0 → vwp E d M_X9_sink 61 [some (sl g 19), some (wi x1), some (wi x2), some (wi x3), some (wi x4), some (wi ((2 * x3) + 1)), none] [] V3 (zv K)) ∧ (¬ (r3 = 0) → vwp E d M_X9_sink 61 [some (sl g 19), some (wi x1), some (wi x2), some (wi x3), some (wi x4), some (wi (((2 * x3) + 1) + 1)), none] [] V3 (zv K))))))))) : vwp E d M_X9_sink 5 [some (sl g 19), some (wi x1), some (wi x2), some (wi x3), some (wi x4), none, none] [] V (zv K) := by
  intro G A hR
  obtain ⟨L, P, rfl, hS⟩ := hR
  have hx := Xt.refl (V := pl G A L P) (A := A)
  show wp E d M_X9_sink 5 [some (vr (A g 19)), some (vi x1), some (vi x2), some (vi x3), some (vi x4), none, none] [] G _
  refine v_X9_sink_5 h0 ?_
  refine ⟨fun hc => ?_, fun hc => ?_⟩
  · have h := h.1 hc
    exact qx_v hS hx h
  · have h := h.2 hc
    refine ⟨fun hc => ?_, fun hc => ?_⟩
    · have h := h.1 hc
      exact qx_v hS hx h
    · have h := h.2 hc
      refine ⟨fun hc => ?_, fun hc => ?_⟩
      · have h := h.1 hc
        exact wp.mono (h G A ⟨L, P, rfl, hS⟩) (fun r G' q => qx_trans hx q)
      · have h := h.2 hc
        refine ⟨hS.o (sP_19 hg), ?_⟩
        rw [lP_19_2 hS hg]
        refine ⟨hS.o (sP_20 hg), ?_⟩
        obtain ⟨hi1, h⟩ := h
        refine ⟨hi1, ?_⟩
        obtain ⟨hi2, h⟩ := h
        refine ⟨hi2, ?_⟩
        refine wpM.mono (h G A ⟨L, P, rfl, hS⟩) (fun rr3 G3 hr => ?_)
        obtain ⟨A3, W3, w3, ⟨L3, P3, rfl, hS3⟩, hy3, rfl, r3, rfl, h⟩ := hr
        refine ⟨r3, rfl, ?_⟩
        have hx3 := Xt.trans hx hy3
        have hg4 : PG L3 g := PG.up hy3 hg
        have ee5 : A3 g 19 = A g 19 := hy3.2 _ _ hg.1 (((nP_19 hS3 hg4)).trans ((nP_19 hS hg)).symm)
        try rw [← ee5]
        refine ⟨fun hc => ?_, fun hc => ?_⟩
        · have h := h.1 hc
          exact wp.mono (h G3 A3 ⟨L3, P3, rfl, hS3⟩) (fun r G' q => qx_trans hx3 q)
        · have h := h.2 hc
          exact wp.mono (h G3 A3 ⟨L3, P3, rfl, hS3⟩) (fun r G' q => qx_trans hx3 q)
theorem w_X9_sink_61 {E : EE} {d : Nat} {V : VH} {K : VH → Prop} {g : Nat} {x1 : Int32} {x2 : Int32} {x3 : Int32} {x4 : Int32} {x5 : Int32} (hg : PG (vL V) g) (h0 : 0 < d) (h : vp_in x5 (vN V g 20) ∧ (vp_in x3 (vN V g 20) ∧ (vMI E (d - 1) M_X9_isBehind [sl g 19, wi (vI V g 20 (Int32.toNatClampNeg x5)), wi (vI V g 20 (Int32.toNatClampNeg x3))] V (fun r3 V3 => (¬ r3 = 0 → vp_in x5 (vN V3 g 20) ∧ (vp_in x3 (vN V3 g 20) ∧ (vp_in x5 (vN V3 g 20) ∧ (∀ V9 : VH, V9 = wrI V3 g 20 (Int32.toNatClampNeg x5) (vI V3 g 20 (Int32.toNatClampNeg x3)) → vp_in x3 (vN V9 g 20) ∧ (∀ V11 : VH, V11 = wrI V9 g 20 (Int32.toNatClampNeg x3) (vI V3 g 20 (Int32.toNatClampNeg x5)) → vwp E d M_X9_sink 5 [some (sl g 19), some (wi x1), some (wi x2), some (wi x5), some (wi (x4 + 1)), none, none] [] V11 (zv K)))))) ∧ (r3 = 0 → K V3))))) : vwp E d M_X9_sink 61 [some (sl g 19), some (wi x1), some (wi x2), some (wi x3), some (wi x4), some (wi x5), none] [] V (zv K) := by
  intro G A hR
  obtain ⟨L, P, rfl, hS⟩ := hR
  have hx := Xt.refl (V := pl G A L P) (A := A)
  show wp E d M_X9_sink 61 [some (vr (A g 19)), some (vi x1), some (vi x2), some (vi x3), some (vi x4), some (vi x5), none] [] G _
  refine v_X9_sink_61 h0 ?_
  refine ⟨hS.o (sP_19 hg), ?_⟩
  rw [lP_19_2 hS hg]
  refine ⟨hS.o (sP_20 hg), ?_⟩
  obtain ⟨hi1, h⟩ := h
  refine ⟨hi1, ?_⟩
  obtain ⟨hi2, h⟩ := h
  refine ⟨hi2, ?_⟩
  refine wpM.mono (h G A ⟨L, P, rfl, hS⟩) (fun rr3 G3 hr => ?_)
  obtain ⟨A3, W3, w3, ⟨L3, P3, rfl, hS3⟩, hy3, rfl, r3, rfl, h⟩ := hr
  refine ⟨r3, rfl, ?_⟩
  have hx3 := Xt.trans hx hy3
  have hg4 : PG L3 g := PG.up hy3 hg
  have ee5 : A3 g 19 = A g 19 := hy3.2 _ _ hg.1 (((nP_19 hS3 hg4)).trans ((nP_19 hS hg)).symm)
  try rw [← ee5]
  refine ⟨fun hc => ?_, fun hc => ?_⟩
  · have h := h.1 hc
    refine ⟨hS3.o (sP_19 hg4), ?_⟩
    rw [lP_19_2 hS3 hg4]
    refine ⟨hS3.o (sP_20 hg4), ?_⟩
    obtain ⟨hi6, h⟩ := h
    refine ⟨hi6, ?_⟩
    obtain ⟨hi7, h⟩ := h
    refine ⟨hi7, ?_⟩
    obtain ⟨hi8, h⟩ := h
    refine ⟨hi8, ?_⟩
    intro G9 eG9
    have hS9 : Sh E G9 A3 L3 P3 := Sh_sI eG9 hS3 (sP_20 hg4) (okT_0 rfl)
    have h := h (pl G9 A3 L3 P3) (pl_sI eG9 hS3 (sP_20 hg4))
    have hx9 : Xt (pl G A L P) A (pl G9 A3 L3 P3) A3 := Xt_sI eG9 hx3
    rw [lP_19_2 hS9 hg4]
    refine ⟨hS9.o (sP_20 hg4), ?_⟩
    obtain ⟨hi10, h⟩ := h
    refine ⟨hi10, ?_⟩
    intro G11 eG11
    have hS11 : Sh E G11 A3 L3 P3 := Sh_sI eG11 hS9 (sP_20 hg4) (okT_0 rfl)
    have h := h (pl G11 A3 L3 P3) (pl_sI eG11 hS9 (sP_20 hg4))
    have hx11 : Xt (pl G A L P) A (pl G11 A3 L3 P3) A3 := Xt_sI eG11 hx9
    exact wp.mono (h G11 A3 ⟨L3, P3, rfl, hS11⟩) (fun r G' q => qx_trans hx11 q)
  · have h := h.2 hc
    exact qx_v hS3 hx3 h
theorem w_X9_isBehind_0 {E : EE} {d : Nat} {V : VH} {K : Int32 → VH → Prop} {g : Nat} {x1 : Int32} {x2 : Int32} (hg : PG (vL V) g) (h : vwp E d M_X9_isBehind 2 [some (sl g 19), some (wi x1), some (wi x2), some (wi 1), none, none, none, none] [] V (zi K)) : vMI E d M_X9_isBehind [sl g 19, wi x1, wi x2] V K := by
  intro G A hR
  obtain ⟨L, P, rfl, hS⟩ := hR
  have hx := Xt.refl (V := pl G A L P) (A := A)
  show wpM E d M_X9_isBehind [vr (A g 19), vi x1, vi x2] G _
  refine wpM_of mk_X9_isBehind (Nat.le_of_ble_eq_true rfl) ?_
  refine v_X9_isBehind_0 ?_
  exact wp.mono (h G A ⟨L, P, rfl, hS⟩) (fun r G' q => qx_trans hx q)
theorem w_X9_isBehind_2 {E : EE} {d : Nat} {V : VH} {K : Int32 → VH → Prop} {g : Nat} {x1 : Int32} {x2 : Int32} {x3 : Int32} (hg : PG (vL V) g) (h0 : 0 < d) (h : (3 ≤ x3 → (x1 ≤ x2 → K 0 V) ∧ (¬ (x1 ≤ x2) → K 1 V)) ∧ (¬ (3 ≤ x3) → vMJ E (d - 1) M_X9_scoreOf [sl g 19, wi x1, wi x3] V (fun r1 V1 => vMJ E (d - 1) M_X9_scoreOf [sl g 19, wi x2, wi x3] V1 (fun r4 V4 => (r1 = r4 → vwp E d M_X9_isBehind 2 [some (sl g 19), some (wi x1), some (wi x2), some (wi (x3 + 1)), none, none, none, none] [] V4 (zi K)) ∧ (¬ (r1 = r4) → (r1 ≤ r4 → K 0 V4) ∧ (¬ (r1 ≤ r4) → K 1 V4)))))) : vwp E d M_X9_isBehind 2 [some (sl g 19), some (wi x1), some (wi x2), some (wi x3), none, none, none, none] [] V (zi K) := by
  intro G A hR
  obtain ⟨L, P, rfl, hS⟩ := hR
  have hx := Xt.refl (V := pl G A L P) (A := A)
  show wp E d M_X9_isBehind 2 [some (vr (A g 19)), some (vi x1), some (vi x2), some (vi x3), none, none, none, none] [] G _
  refine v_X9_isBehind_2 h0 ?_
  refine ⟨fun hc => ?_, fun hc => ?_⟩
  · have h := h.1 hc
    refine ⟨fun hc => ?_, fun hc => ?_⟩
    · have h := h.1 hc
      exact qx_i hS hx h
    · have h := h.2 hc
      exact qx_i hS hx h
  · have h := h.2 hc
    refine ⟨hS.o (sP_19 hg), ?_⟩
    refine wpM.mono (h G A ⟨L, P, rfl, hS⟩) (fun rr1 G1 hr => ?_)
    obtain ⟨A1, W1, w1, ⟨L1, P1, rfl, hS1⟩, hy1, rfl, r1, rfl, h⟩ := hr
    refine ⟨r1, rfl, ?_⟩
    have hx1 := Xt.trans hx hy1
    have hg2 : PG L1 g := PG.up hy1 hg
    have ee3 : A1 g 19 = A g 19 := hy1.2 _ _ hg.1 (((nP_19 hS1 hg2)).trans ((nP_19 hS hg)).symm)
    try rw [← ee3]
    refine ⟨hS1.o (sP_19 hg2), ?_⟩
    refine wpM.mono (h G1 A1 ⟨L1, P1, rfl, hS1⟩) (fun rr4 G4 hr => ?_)
    obtain ⟨A4, W4, w4, ⟨L4, P4, rfl, hS4⟩, hy4, rfl, r4, rfl, h⟩ := hr
    refine ⟨r4, rfl, ?_⟩
    have hx4 := Xt.trans hx1 hy4
    have hg5 : PG L4 g := PG.up hy4 hg2
    have ee6 : A4 g 19 = A1 g 19 := hy4.2 _ _ hg2.1 (((nP_19 hS4 hg5)).trans ((nP_19 hS1 hg2)).symm)
    try rw [← ee6]
    refine ⟨fun hc => ?_, fun hc => ?_⟩
    · have h := h.1 hc
      exact wp.mono (h G4 A4 ⟨L4, P4, rfl, hS4⟩) (fun r G' q => qx_trans hx4 q)
    · have h := h.2 hc
      refine ⟨fun hc => ?_, fun hc => ?_⟩
      · have h := h.1 hc
        exact qx_i hS4 hx4 h
      · have h := h.2 hc
        exact qx_i hS4 hx4 h
theorem w_X9_isSamePair_0 {E : EE} {d : Nat} {V : VH} {K : Int32 → VH → Prop} {g : Nat} {x1 : Int32} {x2 : Int32} (hg : PG (vL V) g) (h0 : 0 < d) (h : vMJ E (d - 1) M_X9_scoreOf [sl g 19, wi x1, wi 1] V (fun r1 V1 => vMJ E (d - 1) M_X9_scoreOf [sl g 19, wi x2, wi 1] V1 (fun r4 V4 => (¬ r1 = r4 → K 0 V4) ∧ (r1 = r4 → vMJ E (d - 1) M_X9_scoreOf [sl g 19, wi x1, wi 2] V4 (fun r7 V7 => vMJ E (d - 1) M_X9_scoreOf [sl g 19, wi x2, wi 2] V7 (fun r10 V10 => (¬ r7 = r10 → K 0 V10) ∧ (r7 = r10 → K 1 V10))))))) : vMI E d M_X9_isSamePair [sl g 19, wi x1, wi x2] V K := by
  intro G A hR
  obtain ⟨L, P, rfl, hS⟩ := hR
  have hx := Xt.refl (V := pl G A L P) (A := A)
  show wpM E d M_X9_isSamePair [vr (A g 19), vi x1, vi x2] G _
  refine wpM_of mk_X9_isSamePair (Nat.le_of_ble_eq_true rfl) ?_
  refine v_X9_isSamePair_0 h0 ?_
  refine ⟨hS.o (sP_19 hg), ?_⟩
  refine wpM.mono (h G A ⟨L, P, rfl, hS⟩) (fun rr1 G1 hr => ?_)
  obtain ⟨A1, W1, w1, ⟨L1, P1, rfl, hS1⟩, hy1, rfl, r1, rfl, h⟩ := hr
  refine ⟨r1, rfl, ?_⟩
  have hx1 := Xt.trans hx hy1
  have hg2 : PG L1 g := PG.up hy1 hg
  have ee3 : A1 g 19 = A g 19 := hy1.2 _ _ hg.1 (((nP_19 hS1 hg2)).trans ((nP_19 hS hg)).symm)
  try rw [← ee3]
  refine ⟨hS1.o (sP_19 hg2), ?_⟩
  refine wpM.mono (h G1 A1 ⟨L1, P1, rfl, hS1⟩) (fun rr4 G4 hr => ?_)
  obtain ⟨A4, W4, w4, ⟨L4, P4, rfl, hS4⟩, hy4, rfl, r4, rfl, h⟩ := hr
  refine ⟨r4, rfl, ?_⟩
  have hx4 := Xt.trans hx1 hy4
  have hg5 : PG L4 g := PG.up hy4 hg2
  have ee6 : A4 g 19 = A1 g 19 := hy4.2 _ _ hg2.1 (((nP_19 hS4 hg5)).trans ((nP_19 hS1 hg2)).symm)
  try rw [← ee6]
  refine ⟨fun hc => ?_, fun hc => ?_⟩
  · have h := h.1 hc
    exact qx_i hS4 hx4 h
  · have h := h.2 hc
    refine ⟨hS4.o (sP_19 hg5), ?_⟩
    refine wpM.mono (h G4 A4 ⟨L4, P4, rfl, hS4⟩) (fun rr7 G7 hr => ?_)
    obtain ⟨A7, W7, w7, ⟨L7, P7, rfl, hS7⟩, hy7, rfl, r7, rfl, h⟩ := hr
    refine ⟨r7, rfl, ?_⟩
    have hx7 := Xt.trans hx4 hy7
    have hg8 : PG L7 g := PG.up hy7 hg5
    have ee9 : A7 g 19 = A4 g 19 := hy7.2 _ _ hg5.1 (((nP_19 hS7 hg8)).trans ((nP_19 hS4 hg5)).symm)
    try rw [← ee9]
    refine ⟨hS7.o (sP_19 hg8), ?_⟩
    refine wpM.mono (h G7 A7 ⟨L7, P7, rfl, hS7⟩) (fun rr10 G10 hr => ?_)
    obtain ⟨A10, W10, w10, ⟨L10, P10, rfl, hS10⟩, hy10, rfl, r10, rfl, h⟩ := hr
    refine ⟨r10, rfl, ?_⟩
    have hx10 := Xt.trans hx7 hy10
    have hg11 : PG L10 g := PG.up hy10 hg8
    have ee12 : A10 g 19 = A7 g 19 := hy10.2 _ _ hg8.1 (((nP_19 hS10 hg11)).trans ((nP_19 hS7 hg8)).symm)
    try rw [← ee12]
    refine ⟨fun hc => ?_, fun hc => ?_⟩
    · have h := h.1 hc
      exact qx_i hS10 hx10 h
    · have h := h.2 hc
      exact qx_i hS10 hx10 h
theorem w_X9_differentValues_0 {E : EE} {d : Nat} {V : VH} {K : Int32 → VH → Prop} {g : Nat} {x2 : Int32} (hg : PG (vL V) g) (h : vwp E d M_X9_differentValues 5 [some (sl g 19), some (sl g 5), some (wi x2), some (wi 0), some (wi 0)] [] V (zi K)) : vMI E d M_X9_differentValues [sl g 19, sl g 5, wi x2] V K := by
  intro G A hR
  obtain ⟨L, P, rfl, hS⟩ := hR
  have hx := Xt.refl (V := pl G A L P) (A := A)
  show wpM E d M_X9_differentValues [vr (A g 19), vr (A g 5), vi x2] G _
  refine wpM_of mk_X9_differentValues (Nat.le_of_ble_eq_true rfl) ?_
  refine v_X9_differentValues_0 ?_
  exact wp.mono (h G A ⟨L, P, rfl, hS⟩) (fun r G' q => qx_trans hx q)
theorem w_X9_differentValues_5 {E : EE} {d : Nat} {V : VH} {K : Int32 → VH → Prop} {g : Nat} {x2 : Int32} {x3 : Int32} {x4 : Int32} (hg : PG (vL V) g) (h0 : 0 < d) (h : ((vI V g 19 3) ≤ x4 → vMI E (d - 1) M_J6_bitCount_0f7a4 [wi x3] V (fun r1 V1 => K r1 V1)) ∧ (¬ ((vI V g 19 3) ≤ x4) → vp_in x4 (vN V g 20) ∧ (vMI E (d - 1) M_X7_placeOf [sl g 5, wi (vI V g 20 (Int32.toNatClampNeg x4)), wi x2] V (fun r6 V6 => vwp E d M_X9_differentValues 5 [some (sl g 19), some (sl g 5), some (wi x2), some (wi (x3 ||| (1 <<< (r6 &&& 31)))), some (wi (x4 + 1))] [] V6 (zi K))))) : vwp E d M_X9_differentValues 5 [some (sl g 19), some (sl g 5), some (wi x2), some (wi x3), some (wi x4)] [] V (zi K) := by
  intro G A hR
  obtain ⟨L, P, rfl, hS⟩ := hR
  have hx := Xt.refl (V := pl G A L P) (A := A)
  show wp E d M_X9_differentValues 5 [some (vr (A g 19)), some (vr (A g 5)), some (vi x2), some (vi x3), some (vi x4)] [] G _
  refine v_X9_differentValues_5 h0 ?_
  refine ⟨hS.o (sP_19 hg), ?_⟩
  refine ⟨fun hc => ?_, fun hc => ?_⟩
  · have h := h.1 hc
    refine wpM.mono (h G A ⟨L, P, rfl, hS⟩) (fun rr1 G1 hr => ?_)
    obtain ⟨A1, W1, w1, ⟨L1, P1, rfl, hS1⟩, hy1, rfl, r1, rfl, h⟩ := hr
    refine ⟨r1, rfl, ?_⟩
    have hx1 := Xt.trans hx hy1
    have hg2 : PG L1 g := PG.up hy1 hg
    have ee3 : A1 g 19 = A g 19 := hy1.2 _ _ hg.1 (((nP_19 hS1 hg2)).trans ((nP_19 hS hg)).symm)
    try rw [← ee3]
    have ee4 : A1 g 5 = A g 5 := hy1.2 _ _ hg.1 (((nP_5 hS1 hg2)).trans ((nP_5 hS hg)).symm)
    try rw [← ee4]
    exact qx_i hS1 hx1 h
  · have h := h.2 hc
    rw [lP_19_2 hS hg]
    refine ⟨hS.o (sP_20 hg), ?_⟩
    obtain ⟨hi5, h⟩ := h
    refine ⟨hi5, ?_⟩
    refine ⟨hS.o (sP_5 hg), ?_⟩
    refine wpM.mono (h G A ⟨L, P, rfl, hS⟩) (fun rr6 G6 hr => ?_)
    obtain ⟨A6, W6, w6, ⟨L6, P6, rfl, hS6⟩, hy6, rfl, r6, rfl, h⟩ := hr
    refine ⟨r6, rfl, ?_⟩
    have hx6 := Xt.trans hx hy6
    have hg7 : PG L6 g := PG.up hy6 hg
    have ee8 : A6 g 19 = A g 19 := hy6.2 _ _ hg.1 (((nP_19 hS6 hg7)).trans ((nP_19 hS hg)).symm)
    try rw [← ee8]
    have ee9 : A6 g 5 = A g 5 := hy6.2 _ _ hg.1 (((nP_5 hS6 hg7)).trans ((nP_5 hS hg)).symm)
    try rw [← ee9]
    exact wp.mono (h G6 A6 ⟨L6, P6, rfl, hS6⟩) (fun r G' q => qx_trans hx6 q)
theorem w_X2_clear_0 {E : EE} {d : Nat} {V : VH} {K : VH → Prop} {g : Nat} (hg : PG (vL V) g) (h : ∀ V1 : VH, V1 = wrI V g 9 0 0 → ∀ V2 : VH, V2 = wrI V1 g 9 1 0 → ∀ V3 : VH, V3 = wrI V2 g 9 2 0 → ∀ V4 : VH, V4 = wrI V3 g 9 3 0 → ∀ V5 : VH, V5 = wrI V4 g 9 10 0 → K V5) : vMV E d M_X2_clear [sl g 9] V K := by
  intro G A hR
  obtain ⟨L, P, rfl, hS⟩ := hR
  have hx := Xt.refl (V := pl G A L P) (A := A)
  show wpM E d M_X2_clear [vr (A g 9)] G _
  refine wpM_of mk_X2_clear (Nat.le_of_ble_eq_true rfl) ?_
  refine v_X2_clear_0 ?_
  refine ⟨hS.o (sP_9 hg), ?_⟩
  intro G1 eG1
  have hS1 : Sh E G1 A L P := Sh_sI eG1 hS (sP_9 hg) (okT_0 rfl)
  have h := h (pl G1 A L P) (pl_sI eG1 hS (sP_9 hg))
  have hx1 : Xt (pl G A L P) A (pl G1 A L P) A := Xt_sI eG1 hx
  intro G2 eG2
  have hS2 : Sh E G2 A L P := Sh_sI eG2 hS1 (sP_9 hg) (okT_0 rfl)
  have h := h (pl G2 A L P) (pl_sI eG2 hS1 (sP_9 hg))
  have hx2 : Xt (pl G A L P) A (pl G2 A L P) A := Xt_sI eG2 hx1
  intro G3 eG3
  have hS3 : Sh E G3 A L P := Sh_sI eG3 hS2 (sP_9 hg) (okT_0 rfl)
  have h := h (pl G3 A L P) (pl_sI eG3 hS2 (sP_9 hg))
  have hx3 : Xt (pl G A L P) A (pl G3 A L P) A := Xt_sI eG3 hx2
  intro G4 eG4
  have hS4 : Sh E G4 A L P := Sh_sI eG4 hS3 (sP_9 hg) (okT_0 rfl)
  have h := h (pl G4 A L P) (pl_sI eG4 hS3 (sP_9 hg))
  have hx4 : Xt (pl G A L P) A (pl G4 A L P) A := Xt_sI eG4 hx3
  intro G5 eG5
  have hS5 : Sh E G5 A L P := Sh_sI eG5 hS4 (sP_9 hg) (okT_0 rfl)
  have h := h (pl G5 A L P) (pl_sI eG5 hS4 (sP_9 hg))
  have hx5 : Xt (pl G A L P) A (pl G5 A L P) A := Xt_sI eG5 hx4
  exact qx_v hS5 hx5 h
theorem w_X2_begin_0 {E : EE} {d : Nat} {V : VH} {K : VH → Prop} {g : Nat} {x1 : Int32} (hg : PG (vL V) g) (h : (x1 < 0 → K V) ∧ (¬ (x1 < 0) → (30 ≤ x1 → K V) ∧ (¬ (30 ≤ x1) → vp_in x1 30 ∧ (∀ V2 : VH, V2 = wrI V g 13 (Int32.toNatClampNeg x1) (vI V g 9 10) → K V2)))) : vMV E d M_X2_begin [sl g 9, wi x1] V K := by
  intro G A hR
  obtain ⟨L, P, rfl, hS⟩ := hR
  have hx := Xt.refl (V := pl G A L P) (A := A)
  show wpM E d M_X2_begin [vr (A g 9), vi x1] G _
  refine wpM_of mk_X2_begin (Nat.le_of_ble_eq_true rfl) ?_
  refine v_X2_begin_0 ?_
  refine ⟨fun hc => ?_, fun hc => ?_⟩
  · have h := h.1 hc
    exact qx_v hS hx h
  · have h := h.2 hc
    refine ⟨fun hc => ?_, fun hc => ?_⟩
    · have h := h.1 hc
      exact qx_v hS hx h
    · have h := h.2 hc
      refine ⟨hS.o (sP_9 hg), ?_⟩
      rw [lP_9_7 hS hg]
      refine ⟨hS.o (sP_13 hg), ?_⟩
      obtain ⟨hi1, h⟩ := h
      refine ⟨by first | (rw [(nP_13 hS hg)]; exact hi1) | exact (congrArg (vp_in _) (nP_13 hS hg)).mpr hi1 | exact hi1, ?_⟩
      have hS2 : Sh E (sI G (A g 13) (Int32.toNatClampNeg x1) (gI G (A g 9) 10)) A L P := Sh_sI (rfl : sI G (A g 13) (Int32.toNatClampNeg x1) (gI G (A g 9) 10) = sI G (A g 13) (Int32.toNatClampNeg x1) (gI G (A g 9) 10)) hS (sP_13 hg) (okT_0 rfl)
      have h := h (pl (sI G (A g 13) (Int32.toNatClampNeg x1) (gI G (A g 9) 10)) A L P) (pl_sI (rfl : sI G (A g 13) (Int32.toNatClampNeg x1) (gI G (A g 9) 10) = sI G (A g 13) (Int32.toNatClampNeg x1) (gI G (A g 9) 10)) hS (sP_13 hg))
      have hx2 : Xt (pl G A L P) A (pl (sI G (A g 13) (Int32.toNatClampNeg x1) (gI G (A g 9) 10)) A L P) A := Xt_sI (rfl : sI G (A g 13) (Int32.toNatClampNeg x1) (gI G (A g 9) 10) = sI G (A g 13) (Int32.toNatClampNeg x1) (gI G (A g 9) 10)) hx
      exact qx_v hS2 hx2 h
theorem w_X2_emit_32 {E : EE} {d : Nat} {V : VH} {K : Int32 → VH → Prop} {g : Nat} {x1 : Int32} {x2 : Int32} (hg : PG (vL V) g) (h : (((vI V g 9 10) + 2) ≤ (nI (vN V g 15)) → vp_in (vI V g 9 10) (vN V g 15) ∧ (∀ V2 : VH, V2 = wrI V g 15 (Int32.toNatClampNeg (vI V g 9 10)) x1 → vp_in ((vI V2 g 9 10) + 1) (vN V2 g 15) ∧ (∀ V4 : VH, V4 = wrI V2 g 15 (Int32.toNatClampNeg ((vI V2 g 9 10) + 1)) x2 → ∀ V5 : VH, V5 = wrI V4 g 9 10 ((vI V4 g 9 10) + 2) → K 1 V5))) ∧ (¬ (((vI V g 9 10) + 2) ≤ (nI (vN V g 15))) → K 1 V)) : vwp E d M_X2_emit 32 [some (sl g 9), some (wi x1), some (wi x2)] [] V (zi K) := by
  intro G A hR
  obtain ⟨L, P, rfl, hS⟩ := hR
  have hx := Xt.refl (V := pl G A L P) (A := A)
  show wp E d M_X2_emit 32 [some (vr (A g 9)), some (vi x1), some (vi x2)] [] G _
  refine v_X2_emit_32 ?_
  refine ⟨hS.o (sP_9 hg), ?_⟩
  rw [lP_9_9 hS hg]
  refine ⟨hS.o (sP_15 hg), ?_⟩
  refine ⟨fun hc => ?_, fun hc => ?_⟩
  · have h := h.1 hc
    obtain ⟨hi1, h⟩ := h
    refine ⟨hi1, ?_⟩
    intro G2 eG2
    have hS2 : Sh E G2 A L P := Sh_sI eG2 hS (sP_15 hg) (okT_0 rfl)
    have h := h (pl G2 A L P) (pl_sI eG2 hS (sP_15 hg))
    have hx2 : Xt (pl G A L P) A (pl G2 A L P) A := Xt_sI eG2 hx
    rw [lP_9_9 hS2 hg]
    refine ⟨hS2.o (sP_15 hg), ?_⟩
    obtain ⟨hi3, h⟩ := h
    refine ⟨hi3, ?_⟩
    intro G4 eG4
    have hS4 : Sh E G4 A L P := Sh_sI eG4 hS2 (sP_15 hg) (okT_0 rfl)
    have h := h (pl G4 A L P) (pl_sI eG4 hS2 (sP_15 hg))
    have hx4 : Xt (pl G A L P) A (pl G4 A L P) A := Xt_sI eG4 hx2
    intro G5 eG5
    have hS5 : Sh E G5 A L P := Sh_sI eG5 hS4 (sP_9 hg) (okT_0 rfl)
    have h := h (pl G5 A L P) (pl_sI eG5 hS4 (sP_9 hg))
    have hx5 : Xt (pl G A L P) A (pl G5 A L P) A := Xt_sI eG5 hx4
    exact qx_i hS5 hx5 h
  · have h := h.2 hc
    exact qx_i hS hx h
theorem w_X2_note_30 {E : EE} {d : Nat} {V : VH} {K : Int32 → VH → Prop} {g : Nat} {x1 : Int32} (hg : PG (vL V) g) (h : ((vI V g 9 3) < (nI (vN V g 16)) → vp_in (vI V g 9 3) (vN V g 16) ∧ (∀ V2 : VH, V2 = wrI V g 16 (Int32.toNatClampNeg (vI V g 9 3)) x1 → ∀ V3 : VH, V3 = wrI V2 g 9 3 ((vI V2 g 9 3) + 1) → K (vI V2 g 9 3) V3)) ∧ (¬ ((vI V g 9 3) < (nI (vN V g 16))) → K (-1) V)) : vwp E d M_X2_note 30 [some (sl g 9), some (wi x1)] [] V (zi K) := by
  intro G A hR
  obtain ⟨L, P, rfl, hS⟩ := hR
  have hx := Xt.refl (V := pl G A L P) (A := A)
  show wp E d M_X2_note 30 [some (vr (A g 9)), some (vi x1)] [] G _
  refine v_X2_note_30 ?_
  refine ⟨hS.o (sP_9 hg), ?_⟩
  rw [lP_9_11 hS hg]
  refine ⟨hS.o (sP_16 hg), ?_⟩
  refine ⟨fun hc => ?_, fun hc => ?_⟩
  · have h := h.1 hc
    obtain ⟨hi1, h⟩ := h
    refine ⟨hi1, ?_⟩
    intro G2 eG2
    have hS2 : Sh E G2 A L P := Sh_sI eG2 hS (sP_16 hg) (okT_0 rfl)
    have h := h (pl G2 A L P) (pl_sI eG2 hS (sP_16 hg))
    have hx2 : Xt (pl G A L P) A (pl G2 A L P) A := Xt_sI eG2 hx
    intro G3 eG3
    have hS3 : Sh E G3 A L P := Sh_sI eG3 hS2 (sP_9 hg) (okT_0 rfl)
    have h := h (pl G3 A L P) (pl_sI eG3 hS2 (sP_9 hg))
    have hx3 : Xt (pl G A L P) A (pl G3 A L P) A := Xt_sI eG3 hx2
    exact qx_i hS3 hx3 h
  · have h := h.2 hc
    exact qx_i hS hx h
theorem w_X2_amend_0 {E : EE} {d : Nat} {V : VH} {K : VH → Prop} {g : Nat} {x1 : Int32} {x2 : Int32} (hg : PG (vL V) g) (h : (x1 < 0 → K V) ∧ (¬ (x1 < 0) → ((vI V g 9 3) ≤ x1 → K V) ∧ (¬ ((vI V g 9 3) ≤ x1) → vp_in x1 (vN V g 16) ∧ (∀ V2 : VH, V2 = wrI V g 16 (Int32.toNatClampNeg x1) x2 → K V2)))) : vMV E d M_X2_amend [sl g 9, wi x1, wi x2] V K := by
  intro G A hR
  obtain ⟨L, P, rfl, hS⟩ := hR
  have hx := Xt.refl (V := pl G A L P) (A := A)
  show wpM E d M_X2_amend [vr (A g 9), vi x1, vi x2] G _
  refine wpM_of mk_X2_amend (Nat.le_of_ble_eq_true rfl) ?_
  refine v_X2_amend_0 ?_
  refine ⟨fun hc => ?_, fun hc => ?_⟩
  · have h := h.1 hc
    exact qx_v hS hx h
  · have h := h.2 hc
    refine ⟨hS.o (sP_9 hg), ?_⟩
    refine ⟨fun hc => ?_, fun hc => ?_⟩
    · have h := h.1 hc
      exact qx_v hS hx h
    · have h := h.2 hc
      rw [lP_9_11 hS hg]
      refine ⟨hS.o (sP_16 hg), ?_⟩
      obtain ⟨hi1, h⟩ := h
      refine ⟨hi1, ?_⟩
      have hS2 : Sh E (sI G (A g 16) (Int32.toNatClampNeg x1) x2) A L P := Sh_sI (rfl : sI G (A g 16) (Int32.toNatClampNeg x1) x2 = sI G (A g 16) (Int32.toNatClampNeg x1) x2) hS (sP_16 hg) (okT_0 rfl)
      have h := h (pl (sI G (A g 16) (Int32.toNatClampNeg x1) x2) A L P) (pl_sI (rfl : sI G (A g 16) (Int32.toNatClampNeg x1) x2 = sI G (A g 16) (Int32.toNatClampNeg x1) x2) hS (sP_16 hg))
      have hx2 : Xt (pl G A L P) A (pl (sI G (A g 16) (Int32.toNatClampNeg x1) x2) A L P) A := Xt_sI (rfl : sI G (A g 16) (Int32.toNatClampNeg x1) x2 = sI G (A g 16) (Int32.toNatClampNeg x1) x2) hx
      exact qx_v hS2 hx2 h
theorem w_X2_finish_0 {E : EE} {d : Nat} {V : VH} {K : VH → Prop} {g : Nat} {x1 : Int32} {x2 : Int32} (hg : PG (vL V) g) (h : (x1 < 0 → K V) ∧ (¬ (x1 < 0) → (x1 < 30 → vp_in x1 30 ∧ (∀ V2 : VH, V2 = wrI V g 14 (Int32.toNatClampNeg x1) (vI V g 9 10) → vp_in x1 30 ∧ (∀ V4 : VH, V4 = wrI V2 g 10 (Int32.toNatClampNeg x1) x2 → (x1 < 24 → K V4) ∧ (¬ (x1 < 24) → ∀ V5 : VH, V5 = wrI V4 g 9 2 ((x1 - 24) + 1) → K V5)))) ∧ (¬ (x1 < 30) → K V))) : vMV E d M_X2_finish [sl g 9, wi x1, wi x2] V K := by
  intro G A hR
  obtain ⟨L, P, rfl, hS⟩ := hR
  have hx := Xt.refl (V := pl G A L P) (A := A)
  show wpM E d M_X2_finish [vr (A g 9), vi x1, vi x2] G _
  refine wpM_of mk_X2_finish (Nat.le_of_ble_eq_true rfl) ?_
  refine v_X2_finish_0 ?_
  refine ⟨fun hc => ?_, fun hc => ?_⟩
  · have h := h.1 hc
    exact qx_v hS hx h
  · have h := h.2 hc
    refine ⟨fun hc => ?_, fun hc => ?_⟩
    · have h := h.1 hc
      refine ⟨hS.o (sP_9 hg), ?_⟩
      rw [lP_9_8 hS hg]
      refine ⟨hS.o (sP_14 hg), ?_⟩
      obtain ⟨hi1, h⟩ := h
      refine ⟨by first | (rw [(nP_14 hS hg)]; exact hi1) | exact (congrArg (vp_in _) (nP_14 hS hg)).mpr hi1 | exact hi1, ?_⟩
      intro G2 eG2
      have hS2 : Sh E G2 A L P := Sh_sI eG2 hS (sP_14 hg) (okT_0 rfl)
      have h := h (pl G2 A L P) (pl_sI eG2 hS (sP_14 hg))
      have hx2 : Xt (pl G A L P) A (pl G2 A L P) A := Xt_sI eG2 hx
      rw [lP_9_4 hS2 hg]
      refine ⟨hS2.o (sP_10 hg), ?_⟩
      obtain ⟨hi3, h⟩ := h
      refine ⟨by first | (rw [(nP_10 hS2 hg)]; exact hi3) | exact (congrArg (vp_in _) (nP_10 hS2 hg)).mpr hi3 | exact hi3, ?_⟩
      intro G4 eG4
      have hS4 : Sh E G4 A L P := Sh_sI eG4 hS2 (sP_10 hg) (okT_0 rfl)
      have h := h (pl G4 A L P) (pl_sI eG4 hS2 (sP_10 hg))
      have hx4 : Xt (pl G A L P) A (pl G4 A L P) A := Xt_sI eG4 hx2
      refine ⟨fun hc => ?_, fun hc => ?_⟩
      · have h := h.1 hc
        exact qx_v hS4 hx4 h
      · have h := h.2 hc
        intro G5 eG5
        have hS5 : Sh E G5 A L P := Sh_sI eG5 hS4 (sP_9 hg) (okT_0 rfl)
        have h := h (pl G5 A L P) (pl_sI eG5 hS4 (sP_9 hg))
        have hx5 : Xt (pl G A L P) A (pl G5 A L P) A := Xt_sI eG5 hx4
        exact qx_v hS5 hx5 h
    · have h := h.2 hc
      exact qx_v hS hx h
theorem w_X2_describe_0 {E : EE} {d : Nat} {V : VH} {K : VH → Prop} {g : Nat} {x1 : Int32} {x2 : Int32} {x3 : Int32} (hg : PG (vL V) g) (h : (x1 < 0 → K V) ∧ (¬ (x1 < 0) → (x1 < 24 → vp_in x1 24 ∧ (∀ V2 : VH, V2 = wrI V g 11 (Int32.toNatClampNeg x1) x2 → vp_in x1 24 ∧ (∀ V4 : VH, V4 = wrI V2 g 12 (Int32.toNatClampNeg x1) x3 → vp_in x1 30 ∧ ((¬ (vI V4 g 10 (Int32.toNatClampNeg x1)) = 0 → vwp E d M_X2_describe 46 [some (sl g 9), some (wi x1), some (wi x2), some (wi x3)] [] V4 (zv K)) ∧ ((vI V4 g 10 (Int32.toNatClampNeg x1)) = 0 → ∀ V6 : VH, V6 = wrI V4 g 9 0 ((vI V4 g 9 0) ||| (1 <<< (x1 &&& 31))) → vwp E d M_X2_describe 46 [some (sl g 9), some (wi x1), some (wi x2), some (wi x3)] [] V6 (zv K)))))) ∧ (¬ (x1 < 24) → K V))) : vMV E d M_X2_describe [sl g 9, wi x1, wi x2, wi x3] V K := by
  intro G A hR
  obtain ⟨L, P, rfl, hS⟩ := hR
  have hx := Xt.refl (V := pl G A L P) (A := A)
  show wpM E d M_X2_describe [vr (A g 9), vi x1, vi x2, vi x3] G _
  refine wpM_of mk_X2_describe (Nat.le_of_ble_eq_true rfl) ?_
  refine v_X2_describe_0 ?_
  refine ⟨fun hc => ?_, fun hc => ?_⟩
  · have h := h.1 hc
    exact qx_v hS hx h
  · have h := h.2 hc
    refine ⟨fun hc => ?_, fun hc => ?_⟩
    · have h := h.1 hc
      refine ⟨hS.o (sP_9 hg), ?_⟩
      rw [lP_9_5 hS hg]
      refine ⟨hS.o (sP_11 hg), ?_⟩
      obtain ⟨hi1, h⟩ := h
      refine ⟨by first | (rw [(nP_11 hS hg)]; exact hi1) | exact (congrArg (vp_in _) (nP_11 hS hg)).mpr hi1 | exact hi1, ?_⟩
      intro G2 eG2
      have hS2 : Sh E G2 A L P := Sh_sI eG2 hS (sP_11 hg) (okT_0 rfl)
      have h := h (pl G2 A L P) (pl_sI eG2 hS (sP_11 hg))
      have hx2 : Xt (pl G A L P) A (pl G2 A L P) A := Xt_sI eG2 hx
      rw [lP_9_6 hS2 hg]
      refine ⟨hS2.o (sP_12 hg), ?_⟩
      obtain ⟨hi3, h⟩ := h
      refine ⟨by first | (rw [(nP_12 hS2 hg)]; exact hi3) | exact (congrArg (vp_in _) (nP_12 hS2 hg)).mpr hi3 | exact hi3, ?_⟩
      intro G4 eG4
      have hS4 : Sh E G4 A L P := Sh_sI eG4 hS2 (sP_12 hg) (okT_0 rfl)
      have h := h (pl G4 A L P) (pl_sI eG4 hS2 (sP_12 hg))
      have hx4 : Xt (pl G A L P) A (pl G4 A L P) A := Xt_sI eG4 hx2
      rw [lP_9_4 hS4 hg]
      refine ⟨hS4.o (sP_10 hg), ?_⟩
      obtain ⟨hi5, h⟩ := h
      refine ⟨by first | (rw [(nP_10 hS4 hg)]; exact hi5) | exact (congrArg (vp_in _) (nP_10 hS4 hg)).mpr hi5 | exact hi5, ?_⟩
      refine ⟨fun hc => ?_, fun hc => ?_⟩
      · have h := h.1 hc
        exact wp.mono (h G4 A ⟨L, P, rfl, hS4⟩) (fun r G' q => qx_trans hx4 q)
      · have h := h.2 hc
        intro G6 eG6
        have hS6 : Sh E G6 A L P := Sh_sI eG6 hS4 (sP_9 hg) (okT_0 rfl)
        have h := h (pl G6 A L P) (pl_sI eG6 hS4 (sP_9 hg))
        have hx6 : Xt (pl G A L P) A (pl G6 A L P) A := Xt_sI eG6 hx4
        exact wp.mono (h G6 A ⟨L, P, rfl, hS6⟩) (fun r G' q => qx_trans hx6 q)
    · have h := h.2 hc
      exact qx_v hS hx h
theorem w_X2_describe_46 {E : EE} {d : Nat} {V : VH} {K : VH → Prop} {g : Nat} {x1 : Int32} {x2 : Int32} {x3 : Int32} (hg : PG (vL V) g) (h : ∀ V1 : VH, V1 = wrI V g 9 1 (x1 + 1) → K V1) : vwp E d M_X2_describe 46 [some (sl g 9), some (wi x1), some (wi x2), some (wi x3)] [] V (zv K) := by
  intro G A hR
  obtain ⟨L, P, rfl, hS⟩ := hR
  have hx := Xt.refl (V := pl G A L P) (A := A)
  show wp E d M_X2_describe 46 [some (vr (A g 9)), some (vi x1), some (vi x2), some (vi x3)] [] G _
  refine v_X2_describe_46 ?_
  refine ⟨hS.o (sP_9 hg), ?_⟩
  have hS1 : Sh E (sI G (A g 9) 1 (x1 + 1)) A L P := Sh_sI (rfl : sI G (A g 9) 1 (x1 + 1) = sI G (A g 9) 1 (x1 + 1)) hS (sP_9 hg) (okT_0 rfl)
  have h := h (pl (sI G (A g 9) 1 (x1 + 1)) A L P) (pl_sI (rfl : sI G (A g 9) 1 (x1 + 1) = sI G (A g 9) 1 (x1 + 1)) hS (sP_9 hg))
  have hx1 : Xt (pl G A L P) A (pl (sI G (A g 9) 1 (x1 + 1)) A L P) A := Xt_sI (rfl : sI G (A g 9) 1 (x1 + 1) = sI G (A g 9) 1 (x1 + 1)) hx
  exact qx_v hS1 hx1 h
theorem w_X2_weighAll_0 {E : EE} {d : Nat} {V : VH} {K : Int32 → VH → Prop} {g : Nat} {x2 : Int32} {a3 f3 : Nat} {a4 f4 : Nat} {x5 : Int32} (hg : PG (vL V) g) (hA3 : SL (vL V) a3 f3 14) (hA4 : SL (vL V) a4 f4 15) (h0 : 0 < d) (h : (x5 < 0 → K 0 V) ∧ (¬ (x5 < 0) → (x5 ≤ ((nI (vN V a4 f4)) - 3) → vMV E (d - 1) M_X2_look [sl g 9, sl g 5, wi x2] V (fun V1 => vN V1 a3 f3 = vN V a3 f3 ∧ (vN V1 a4 f4 = vN V a4 f4 ∧ (vwp E d M_X2_weighAll 26 [some (sl g 9), some (sl g 5), some (wi x2), some (sl a3 f3), some (sl a4 f4), some (wi x5), some (wi 0), none, none] [] V1 (zi K))))) ∧ (¬ (x5 ≤ ((nI (vN V a4 f4)) - 3)) → K 0 V))) : vMI E d M_X2_weighAll [sl g 9, sl g 5, wi x2, sl a3 f3, sl a4 f4, wi x5] V K := by
  intro G A hR
  obtain ⟨L, P, rfl, hS⟩ := hR
  have hx := Xt.refl (V := pl G A L P) (A := A)
  show wpM E d M_X2_weighAll [vr (A g 9), vr (A g 5), vi x2, vr (A a3 f3), vr (A a4 f4), vi x5] G _
  refine wpM_of mk_X2_weighAll (Nat.le_of_ble_eq_true rfl) ?_
  refine v_X2_weighAll_0 h0 ?_
  refine ⟨fun hc => ?_, fun hc => ?_⟩
  · have h := h.1 hc
    exact qx_i hS hx h
  · have h := h.2 hc
    refine ⟨hS.o hA4, ?_⟩
    refine ⟨fun hc => ?_, fun hc => ?_⟩
    · have h := h.1 hc
      refine ⟨hS.o (sP_9 hg), ?_⟩
      refine wpM.mono (h G A ⟨L, P, rfl, hS⟩) (fun rr1 G1 hr => ?_)
      obtain ⟨A1, W1, w1, ⟨L1, P1, rfl, hS1⟩, hy1, rfl, rfl, h⟩ := hr
      refine ⟨rfl, ?_⟩
      have hx1 := Xt.trans hx hy1
      have hg2 : PG L1 g := PG.up hy1 hg
      have hg3 : SL L1 a3 f3 14 := SL.ux hy1 hA3
      have hg4 : SL L1 a4 f4 15 := SL.ux hy1 hA4
      obtain ⟨hv6, h⟩ := h
      have ee5 : A1 a3 f3 = A a3 f3 := hy1.2 _ _ hA3.1 hv6
      try rw [← ee5]
      obtain ⟨hv8, h⟩ := h
      have ee7 : A1 a4 f4 = A a4 f4 := hy1.2 _ _ hA4.1 hv8
      try rw [← ee7]
      have ee9 : A1 g 5 = A g 5 := hy1.2 _ _ hg.1 (((nP_5 hS1 hg2)).trans ((nP_5 hS hg)).symm)
      try rw [← ee9]
      have ee10 : A1 g 9 = A g 9 := hy1.2 _ _ hg.1 (((nP_9 hS1 hg2)).trans ((nP_9 hS hg)).symm)
      try rw [← ee10]
      exact wp.mono (h G1 A1 ⟨L1, P1, rfl, hS1⟩) (fun r G' q => qx_trans hx1 q)
    · have h := h.2 hc
      exact qx_i hS hx h
theorem w_X2_weighAll_26 {E : EE} {d : Nat} {V : VH} {K : Int32 → VH → Prop} {g : Nat} {x2 : Int32} {a3 f3 : Nat} {a4 f4 : Nat} {x5 : Int32} {x6 : Int32} (hg : PG (vL V) g) (hA3 : SL (vL V) a3 f3 14) (hA4 : SL (vL V) a4 f4 15) (h : (3 ≤ x6 → vwp E d M_X2_weighAll 53 [some (sl g 9), some (sl g 5), some (wi x2), some (sl a3 f3), some (sl a4 f4), some (wi x5), some (wi 0), some (wi 0), none] [] V (zi K)) ∧ (¬ (3 ≤ x6) → vp_in (x5 + x6) (vN V a4 f4) ∧ (∀ V2 : VH, V2 = wrJ V a4 f4 (Int32.toNatClampNeg (x5 + x6)) 0 → vwp E d M_X2_weighAll 26 [some (sl g 9), some (sl g 5), some (wi x2), some (sl a3 f3), some (sl a4 f4), some (wi x5), some (wi (x6 + 1)), none, none] [] V2 (zi K)))) : vwp E d M_X2_weighAll 26 [some (sl g 9), some (sl g 5), some (wi x2), some (sl a3 f3), some (sl a4 f4), some (wi x5), some (wi x6), none, none] [] V (zi K) := by
  intro G A hR
  obtain ⟨L, P, rfl, hS⟩ := hR
  have hx := Xt.refl (V := pl G A L P) (A := A)
  show wp E d M_X2_weighAll 26 [some (vr (A g 9)), some (vr (A g 5)), some (vi x2), some (vr (A a3 f3)), some (vr (A a4 f4)), some (vi x5), some (vi x6), none, none] [] G _
  refine v_X2_weighAll_26 ?_
  refine ⟨fun hc => ?_, fun hc => ?_⟩
  · have h := h.1 hc
    exact wp.mono (h G A ⟨L, P, rfl, hS⟩) (fun r G' q => qx_trans hx q)
  · have h := h.2 hc
    refine ⟨hS.o hA4, ?_⟩
    obtain ⟨hi1, h⟩ := h
    refine ⟨hi1, ?_⟩
    have hS2 : Sh E (sJ G (A a4 f4) (Int32.toNatClampNeg (x5 + x6)) 0) A L P := Sh_sJ (rfl : sJ G (A a4 f4) (Int32.toNatClampNeg (x5 + x6)) 0 = sJ G (A a4 f4) (Int32.toNatClampNeg (x5 + x6)) 0) hS
    have h := h (pl (sJ G (A a4 f4) (Int32.toNatClampNeg (x5 + x6)) 0) A L P) (pl_sJ (rfl : sJ G (A a4 f4) (Int32.toNatClampNeg (x5 + x6)) 0 = sJ G (A a4 f4) (Int32.toNatClampNeg (x5 + x6)) 0) hS hA4)
    have hx2 : Xt (pl G A L P) A (pl (sJ G (A a4 f4) (Int32.toNatClampNeg (x5 + x6)) 0) A L P) A := Xt_sJ (rfl : sJ G (A a4 f4) (Int32.toNatClampNeg (x5 + x6)) 0 = sJ G (A a4 f4) (Int32.toNatClampNeg (x5 + x6)) 0) hx
    exact wp.mono (h (sJ G (A a4 f4) (Int32.toNatClampNeg (x5 + x6)) 0) A ⟨L, P, rfl, hS2⟩) (fun r G' q => qx_trans hx2 q)
theorem w_X2_weighAll_53 {E : EE} {d : Nat} {V : VH} {K : Int32 → VH → Prop} {g : Nat} {x2 : Int32} {a3 f3 : Nat} {a4 f4 : Nat} {x5 : Int32} {x6 : Int32} {x7 : Int32} (hg : PG (vL V) g) (hA3 : SL (vL V) a3 f3 14) (hA4 : SL (vL V) a4 f4 15) (h0 : 0 < d) (h : ((vI V g 9 1) ≤ x7 → vwp E d M_X2_weighAll 122 [some (sl g 9), some (sl g 5), some (wi x2), some (sl a3 f3), some (sl a4 f4), some (wi x5), some (wi x6), some (wi 0), none] [] V (zi K)) ∧ (¬ ((vI V g 9 1) ≤ x7) → vMI E (d - 1) M_X2_run [sl g 9, wi x7, sl a3 f3] V (fun r1 V1 => vN V1 a3 f3 = vN V a3 f3 ∧ (vN V1 a4 f4 = vN V a4 f4 ∧ ((r1 ≤ 0 → vwp E d M_X2_weighAll 85 [some (sl g 9), some (sl g 5), some (wi x2), some (sl a3 f3), some (sl a4 f4), some (wi x5), some (wi x6), some (wi x7), some (wi r1)] [] V1 (zi K)) ∧ (¬ (r1 ≤ 0) → vwp E d M_X2_weighAll 85 [some (sl g 9), some (sl g 5), some (wi x2), some (sl a3 f3), some (sl a4 f4), some (wi x5), some (wi (x6 ||| (1 <<< (x7 &&& 31)))), some (wi x7), some (wi r1)] [] V1 (zi K))))))) : vwp E d M_X2_weighAll 53 [some (sl g 9), some (sl g 5), some (wi x2), some (sl a3 f3), some (sl a4 f4), some (wi x5), some (wi x6), some (wi x7), none] [] V (zi K) := by
  intro G A hR
  obtain ⟨L, P, rfl, hS⟩ := hR
  have hx := Xt.refl (V := pl G A L P) (A := A)
  show wp E d M_X2_weighAll 53 [some (vr (A g 9)), some (vr (A g 5)), some (vi x2), some (vr (A a3 f3)), some (vr (A a4 f4)), some (vi x5), some (vi x6), some (vi x7), none] [] G _
  refine v_X2_weighAll_53 h0 ?_
  refine ⟨hS.o (sP_9 hg), ?_⟩
  refine ⟨fun hc => ?_, fun hc => ?_⟩
  · have h := h.1 hc
    exact wp.mono (h G A ⟨L, P, rfl, hS⟩) (fun r G' q => qx_trans hx q)
  · have h := h.2 hc
    refine wpM.mono (h G A ⟨L, P, rfl, hS⟩) (fun rr1 G1 hr => ?_)
    obtain ⟨A1, W1, w1, ⟨L1, P1, rfl, hS1⟩, hy1, rfl, r1, rfl, h⟩ := hr
    refine ⟨r1, rfl, ?_⟩
    have hx1 := Xt.trans hx hy1
    have hg2 : PG L1 g := PG.up hy1 hg
    have hg3 : SL L1 a3 f3 14 := SL.ux hy1 hA3
    have hg4 : SL L1 a4 f4 15 := SL.ux hy1 hA4
    obtain ⟨hv6, h⟩ := h
    have ee5 : A1 a3 f3 = A a3 f3 := hy1.2 _ _ hA3.1 hv6
    try rw [← ee5]
    obtain ⟨hv8, h⟩ := h
    have ee7 : A1 a4 f4 = A a4 f4 := hy1.2 _ _ hA4.1 hv8
    try rw [← ee7]
    have ee9 : A1 g 5 = A g 5 := hy1.2 _ _ hg.1 (((nP_5 hS1 hg2)).trans ((nP_5 hS hg)).symm)
    try rw [← ee9]
    have ee10 : A1 g 9 = A g 9 := hy1.2 _ _ hg.1 (((nP_9 hS1 hg2)).trans ((nP_9 hS hg)).symm)
    try rw [← ee10]
    refine ⟨fun hc => ?_, fun hc => ?_⟩
    · have h := h.1 hc
      exact wp.mono (h G1 A1 ⟨L1, P1, rfl, hS1⟩) (fun r G' q => qx_trans hx1 q)
    · have h := h.2 hc
      exact wp.mono (h G1 A1 ⟨L1, P1, rfl, hS1⟩) (fun r G' q => qx_trans hx1 q)
theorem w_X2_weighAll_85 {E : EE} {d : Nat} {V : VH} {K : Int32 → VH → Prop} {g : Nat} {x2 : Int32} {a3 f3 : Nat} {a4 f4 : Nat} {x5 : Int32} {x6 : Int32} {x7 : Int32} {x8 : Int32} (hg : PG (vL V) g) (hA3 : SL (vL V) a3 f3 14) (hA4 : SL (vL V) a4 f4 15) (h : vp_in x7 30 ∧ (vp_in (x5 + (vI V g 10 (Int32.toNatClampNeg x7))) (vN V a4 f4) ∧ (vp_in x7 24 ∧ (vp_in (x5 + (vI V g 10 (Int32.toNatClampNeg x7))) (vN V a4 f4) ∧ (∀ V5 : VH, V5 = wrJ V a4 f4 (Int32.toNatClampNeg (x5 + (vI V g 10 (Int32.toNatClampNeg x7)))) ((vJ V a4 f4 (Int32.toNatClampNeg (x5 + (vI V g 10 (Int32.toNatClampNeg x7))))) + ((Int32.toInt64 (vI V g 11 (Int32.toNatClampNeg x7))) * (Int32.toInt64 x8))) → vwp E d M_X2_weighAll 53 [some (sl g 9), some (sl g 5), some (wi x2), some (sl a3 f3), some (sl a4 f4), some (wi x5), some (wi x6), some (wi (x7 + 1)), none] [] V5 (zi K)))))) : vwp E d M_X2_weighAll 85 [some (sl g 9), some (sl g 5), some (wi x2), some (sl a3 f3), some (sl a4 f4), some (wi x5), some (wi x6), some (wi x7), some (wi x8)] [] V (zi K) := by
  intro G A hR
  obtain ⟨L, P, rfl, hS⟩ := hR
  have hx := Xt.refl (V := pl G A L P) (A := A)
  show wp E d M_X2_weighAll 85 [some (vr (A g 9)), some (vr (A g 5)), some (vi x2), some (vr (A a3 f3)), some (vr (A a4 f4)), some (vi x5), some (vi x6), some (vi x7), some (vi x8)] [] G _
  refine v_X2_weighAll_85 ?_
  refine ⟨hS.o (sP_9 hg), ?_⟩
  rw [lP_9_4 hS hg]
  refine ⟨hS.o (sP_10 hg), ?_⟩
  obtain ⟨hi1, h⟩ := h
  refine ⟨by first | (rw [(nP_10 hS hg)]; exact hi1) | exact (congrArg (vp_in _) (nP_10 hS hg)).mpr hi1 | exact hi1, ?_⟩
  refine ⟨hS.o hA4, ?_⟩
  obtain ⟨hi2, h⟩ := h
  refine ⟨hi2, ?_⟩
  rw [lP_9_5 hS hg]
  refine ⟨hS.o (sP_11 hg), ?_⟩
  obtain ⟨hi3, h⟩ := h
  refine ⟨by first | (rw [(nP_11 hS hg)]; exact hi3) | exact (congrArg (vp_in _) (nP_11 hS hg)).mpr hi3 | exact hi3, ?_⟩
  obtain ⟨hi4, h⟩ := h
  refine ⟨hi4, ?_⟩
  have hS5 : Sh E (sJ G (A a4 f4) (Int32.toNatClampNeg (x5 + (gI G (A g 10) (Int32.toNatClampNeg x7)))) ((gJ G (A a4 f4) (Int32.toNatClampNeg (x5 + (gI G (A g 10) (Int32.toNatClampNeg x7))))) + ((Int32.toInt64 (gI G (A g 11) (Int32.toNatClampNeg x7))) * (Int32.toInt64 x8)))) A L P := Sh_sJ (rfl : sJ G (A a4 f4) (Int32.toNatClampNeg (x5 + (gI G (A g 10) (Int32.toNatClampNeg x7)))) ((gJ G (A a4 f4) (Int32.toNatClampNeg (x5 + (gI G (A g 10) (Int32.toNatClampNeg x7))))) + ((Int32.toInt64 (gI G (A g 11) (Int32.toNatClampNeg x7))) * (Int32.toInt64 x8))) = sJ G (A a4 f4) (Int32.toNatClampNeg (x5 + (gI G (A g 10) (Int32.toNatClampNeg x7)))) ((gJ G (A a4 f4) (Int32.toNatClampNeg (x5 + (gI G (A g 10) (Int32.toNatClampNeg x7))))) + ((Int32.toInt64 (gI G (A g 11) (Int32.toNatClampNeg x7))) * (Int32.toInt64 x8)))) hS
  have h := h (pl (sJ G (A a4 f4) (Int32.toNatClampNeg (x5 + (gI G (A g 10) (Int32.toNatClampNeg x7)))) ((gJ G (A a4 f4) (Int32.toNatClampNeg (x5 + (gI G (A g 10) (Int32.toNatClampNeg x7))))) + ((Int32.toInt64 (gI G (A g 11) (Int32.toNatClampNeg x7))) * (Int32.toInt64 x8)))) A L P) (pl_sJ (rfl : sJ G (A a4 f4) (Int32.toNatClampNeg (x5 + (gI G (A g 10) (Int32.toNatClampNeg x7)))) ((gJ G (A a4 f4) (Int32.toNatClampNeg (x5 + (gI G (A g 10) (Int32.toNatClampNeg x7))))) + ((Int32.toInt64 (gI G (A g 11) (Int32.toNatClampNeg x7))) * (Int32.toInt64 x8))) = sJ G (A a4 f4) (Int32.toNatClampNeg (x5 + (gI G (A g 10) (Int32.toNatClampNeg x7)))) ((gJ G (A a4 f4) (Int32.toNatClampNeg (x5 + (gI G (A g 10) (Int32.toNatClampNeg x7))))) + ((Int32.toInt64 (gI G (A g 11) (Int32.toNatClampNeg x7))) * (Int32.toInt64 x8)))) hS hA4)
  have hx5 : Xt (pl G A L P) A (pl (sJ G (A a4 f4) (Int32.toNatClampNeg (x5 + (gI G (A g 10) (Int32.toNatClampNeg x7)))) ((gJ G (A a4 f4) (Int32.toNatClampNeg (x5 + (gI G (A g 10) (Int32.toNatClampNeg x7))))) + ((Int32.toInt64 (gI G (A g 11) (Int32.toNatClampNeg x7))) * (Int32.toInt64 x8)))) A L P) A := Xt_sJ (rfl : sJ G (A a4 f4) (Int32.toNatClampNeg (x5 + (gI G (A g 10) (Int32.toNatClampNeg x7)))) ((gJ G (A a4 f4) (Int32.toNatClampNeg (x5 + (gI G (A g 10) (Int32.toNatClampNeg x7))))) + ((Int32.toInt64 (gI G (A g 11) (Int32.toNatClampNeg x7))) * (Int32.toInt64 x8))) = sJ G (A a4 f4) (Int32.toNatClampNeg (x5 + (gI G (A g 10) (Int32.toNatClampNeg x7)))) ((gJ G (A a4 f4) (Int32.toNatClampNeg (x5 + (gI G (A g 10) (Int32.toNatClampNeg x7))))) + ((Int32.toInt64 (gI G (A g 11) (Int32.toNatClampNeg x7))) * (Int32.toInt64 x8)))) hx
  exact wp.mono (h (sJ G (A a4 f4) (Int32.toNatClampNeg (x5 + (gI G (A g 10) (Int32.toNatClampNeg x7)))) ((gJ G (A a4 f4) (Int32.toNatClampNeg (x5 + (gI G (A g 10) (Int32.toNatClampNeg x7))))) + ((Int32.toInt64 (gI G (A g 11) (Int32.toNatClampNeg x7))) * (Int32.toInt64 x8)))) A ⟨L, P, rfl, hS5⟩) (fun r G' q => qx_trans hx5 q)
theorem w_X2_weighAll_122 {E : EE} {d : Nat} {V : VH} {K : Int32 → VH → Prop} {g : Nat} {x2 : Int32} {a3 f3 : Nat} {a4 f4 : Nat} {x5 : Int32} {x6 : Int32} {x7 : Int32} (hg : PG (vL V) g) (hA3 : SL (vL V) a3 f3 14) (hA4 : SL (vL V) a4 f4 15) (h0 : 0 < d) (h : ((vI V g 9 2) ≤ x7 → K x6 V) ∧ (¬ ((vI V g 9 2) ≤ x7) → vp_in (24 + x7) 30 ∧ (vp_in (x5 + (vI V g 10 (Int32.toNatClampNeg (24 + x7)))) (vN V a4 f4) ∧ (vMI E (d - 1) M_X2_run [sl g 9, wi (24 + x7), sl a3 f3] V (fun r3 V3 => vN V3 a3 f3 = vN V a3 f3 ∧ (vN V3 a4 f4 = vN V a4 f4 ∧ (vp_in (x5 + (vI V g 10 (Int32.toNatClampNeg (24 + x7)))) (vN V3 a4 f4) ∧ (∀ V14 : VH, V14 = wrJ V3 a4 f4 (Int32.toNatClampNeg (x5 + (vI V g 10 (Int32.toNatClampNeg (24 + x7))))) ((vJ V a4 f4 (Int32.toNatClampNeg (x5 + (vI V g 10 (Int32.toNatClampNeg (24 + x7)))))) + (Int32.toInt64 r3)) → vwp E d M_X2_weighAll 122 [some (sl g 9), some (sl g 5), some (wi x2), some (sl a3 f3), some (sl a4 f4), some (wi x5), some (wi x6), some (wi (x7 + 1)), none] [] V14 (zi K))))))))) : vwp E d M_X2_weighAll 122 [some (sl g 9), some (sl g 5), some (wi x2), some (sl a3 f3), some (sl a4 f4), some (wi x5), some (wi x6), some (wi x7), none] [] V (zi K) := by
  intro G A hR
  obtain ⟨L, P, rfl, hS⟩ := hR
  have hx := Xt.refl (V := pl G A L P) (A := A)
  show wp E d M_X2_weighAll 122 [some (vr (A g 9)), some (vr (A g 5)), some (vi x2), some (vr (A a3 f3)), some (vr (A a4 f4)), some (vi x5), some (vi x6), some (vi x7), none] [] G _
  refine v_X2_weighAll_122 h0 ?_
  refine ⟨hS.o (sP_9 hg), ?_⟩
  refine ⟨fun hc => ?_, fun hc => ?_⟩
  · have h := h.1 hc
    exact qx_i hS hx h
  · have h := h.2 hc
    rw [lP_9_4 hS hg]
    refine ⟨hS.o (sP_10 hg), ?_⟩
    obtain ⟨hi1, h⟩ := h
    refine ⟨by first | (rw [(nP_10 hS hg)]; exact hi1) | exact (congrArg (vp_in _) (nP_10 hS hg)).mpr hi1 | exact hi1, ?_⟩
    refine ⟨hS.o hA4, ?_⟩
    obtain ⟨hi2, h⟩ := h
    refine ⟨hi2, ?_⟩
    refine wpM.mono (h G A ⟨L, P, rfl, hS⟩) (fun rr3 G3 hr => ?_)
    obtain ⟨A3, W3, w3, ⟨L3, P3, rfl, hS3⟩, hy3, rfl, r3, rfl, h⟩ := hr
    refine ⟨r3, rfl, ?_⟩
    have hx3 := Xt.trans hx hy3
    have hg4 : PG L3 g := PG.up hy3 hg
    have hg5 : SL L3 a3 f3 14 := SL.ux hy3 hA3
    have hg6 : SL L3 a4 f4 15 := SL.ux hy3 hA4
    obtain ⟨hv8, h⟩ := h
    have ee7 : A3 a3 f3 = A a3 f3 := hy3.2 _ _ hA3.1 hv8
    try rw [← ee7]
    obtain ⟨hv10, h⟩ := h
    have ee9 : A3 a4 f4 = A a4 f4 := hy3.2 _ _ hA4.1 hv10
    try rw [← ee9]
    have ee11 : A3 g 5 = A g 5 := hy3.2 _ _ hg.1 (((nP_5 hS3 hg4)).trans ((nP_5 hS hg)).symm)
    try rw [← ee11]
    have ee12 : A3 g 9 = A g 9 := hy3.2 _ _ hg.1 (((nP_9 hS3 hg4)).trans ((nP_9 hS hg)).symm)
    try rw [← ee12]
    try rw [show gJ G (A3 a4 f4) = gJ G (A a4 f4) from by rw [ee9]]
    refine ⟨hS3.o hg6, ?_⟩
    obtain ⟨hi13, h⟩ := h
    refine ⟨hi13, ?_⟩
    have hS14 : Sh E (sJ G3 (A3 a4 f4) (Int32.toNatClampNeg (x5 + (gI G (A g 10) (Int32.toNatClampNeg (24 + x7))))) ((gJ G (A a4 f4) (Int32.toNatClampNeg (x5 + (gI G (A g 10) (Int32.toNatClampNeg (24 + x7)))))) + (Int32.toInt64 r3))) A3 L3 P3 := Sh_sJ (rfl : sJ G3 (A3 a4 f4) (Int32.toNatClampNeg (x5 + (gI G (A g 10) (Int32.toNatClampNeg (24 + x7))))) ((gJ G (A a4 f4) (Int32.toNatClampNeg (x5 + (gI G (A g 10) (Int32.toNatClampNeg (24 + x7)))))) + (Int32.toInt64 r3)) = sJ G3 (A3 a4 f4) (Int32.toNatClampNeg (x5 + (gI G (A g 10) (Int32.toNatClampNeg (24 + x7))))) ((gJ G (A a4 f4) (Int32.toNatClampNeg (x5 + (gI G (A g 10) (Int32.toNatClampNeg (24 + x7)))))) + (Int32.toInt64 r3))) hS3
    have h := h (pl (sJ G3 (A3 a4 f4) (Int32.toNatClampNeg (x5 + (gI G (A g 10) (Int32.toNatClampNeg (24 + x7))))) ((gJ G (A a4 f4) (Int32.toNatClampNeg (x5 + (gI G (A g 10) (Int32.toNatClampNeg (24 + x7)))))) + (Int32.toInt64 r3))) A3 L3 P3) (pl_sJ (rfl : sJ G3 (A3 a4 f4) (Int32.toNatClampNeg (x5 + (gI G (A g 10) (Int32.toNatClampNeg (24 + x7))))) ((gJ G (A a4 f4) (Int32.toNatClampNeg (x5 + (gI G (A g 10) (Int32.toNatClampNeg (24 + x7)))))) + (Int32.toInt64 r3)) = sJ G3 (A3 a4 f4) (Int32.toNatClampNeg (x5 + (gI G (A g 10) (Int32.toNatClampNeg (24 + x7))))) ((gJ G (A a4 f4) (Int32.toNatClampNeg (x5 + (gI G (A g 10) (Int32.toNatClampNeg (24 + x7)))))) + (Int32.toInt64 r3))) hS3 hg6)
    have hx14 : Xt (pl G A L P) A (pl (sJ G3 (A3 a4 f4) (Int32.toNatClampNeg (x5 + (gI G (A g 10) (Int32.toNatClampNeg (24 + x7))))) ((gJ G (A a4 f4) (Int32.toNatClampNeg (x5 + (gI G (A g 10) (Int32.toNatClampNeg (24 + x7)))))) + (Int32.toInt64 r3))) A3 L3 P3) A3 := Xt_sJ (rfl : sJ G3 (A3 a4 f4) (Int32.toNatClampNeg (x5 + (gI G (A g 10) (Int32.toNatClampNeg (24 + x7))))) ((gJ G (A a4 f4) (Int32.toNatClampNeg (x5 + (gI G (A g 10) (Int32.toNatClampNeg (24 + x7)))))) + (Int32.toInt64 r3)) = sJ G3 (A3 a4 f4) (Int32.toNatClampNeg (x5 + (gI G (A g 10) (Int32.toNatClampNeg (24 + x7))))) ((gJ G (A a4 f4) (Int32.toNatClampNeg (x5 + (gI G (A g 10) (Int32.toNatClampNeg (24 + x7)))))) + (Int32.toInt64 r3))) hx3
    exact wp.mono (h (sJ G3 (A3 a4 f4) (Int32.toNatClampNeg (x5 + (gI G (A g 10) (Int32.toNatClampNeg (24 + x7))))) ((gJ G (A a4 f4) (Int32.toNatClampNeg (x5 + (gI G (A g 10) (Int32.toNatClampNeg (24 + x7)))))) + (Int32.toInt64 r3))) A3 ⟨L3, P3, rfl, hS14⟩) (fun r G' q => qx_trans hx14 q)
theorem w_X2_look_0 {E : EE} {d : Nat} {V : VH} {K : VH → Prop} {g : Nat} {x2 : Int32} (hg : PG (vL V) g) (h : vwp E d M_X2_look 2 [some (sl g 9), some (sl g 5), some (wi x2), some (wi 0)] [] V (zv K)) : vMV E d M_X2_look [sl g 9, sl g 5, wi x2] V K := by
  intro G A hR
  obtain ⟨L, P, rfl, hS⟩ := hR
  have hx := Xt.refl (V := pl G A L P) (A := A)
  show wpM E d M_X2_look [vr (A g 9), vr (A g 5), vi x2] G _
  refine wpM_of mk_X2_look (Nat.le_of_ble_eq_true rfl) ?_
  refine v_X2_look_0 ?_
  exact wp.mono (h G A ⟨L, P, rfl, hS⟩) (fun r G' q => qx_trans hx q)
theorem w_X2_look_2 {E : EE} {d : Nat} {V : VH} {K : VH → Prop} {g : Nat} {x2 : Int32} {x3 : Int32} (hg : PG (vL V) g) (h0 : 0 < d) (h : ((vI V g 5 0) ≤ x3 → K V) ∧ (¬ ((vI V g 5 0) ≤ x3) → ((nI 12) ≤ x3 → K V) ∧ (¬ ((nI 12) ≤ x3) → vMI E (d - 1) M_X7_valueOf [sl g 5, wi x2, wi x3] V (fun r1 V1 => vp_in x3 12 ∧ (∀ V7 : VH, V7 = wrI V1 g 18 (Int32.toNatClampNeg x3) r1 → vwp E d M_X2_look 2 [some (sl g 9), some (sl g 5), some (wi x2), some (wi (x3 + 1))] [] V7 (zv K)))))) : vwp E d M_X2_look 2 [some (sl g 9), some (sl g 5), some (wi x2), some (wi x3)] [] V (zv K) := by
  intro G A hR
  obtain ⟨L, P, rfl, hS⟩ := hR
  have hx := Xt.refl (V := pl G A L P) (A := A)
  show wp E d M_X2_look 2 [some (vr (A g 9)), some (vr (A g 5)), some (vi x2), some (vi x3)] [] G _
  refine v_X2_look_2 h0 ?_
  refine ⟨hS.o (sP_5 hg), ?_⟩
  refine ⟨fun hc => ?_, fun hc => ?_⟩
  · have h := h.1 hc
    exact qx_v hS hx h
  · have h := h.2 hc
    refine ⟨hS.o (sP_9 hg), ?_⟩
    rw [lP_9_14 hS hg]
    refine ⟨hS.o (sP_18 hg), ?_⟩
    rw [(nP_18 hS hg)]
    refine ⟨fun hc => ?_, fun hc => ?_⟩
    · have h := h.1 hc
      exact qx_v hS hx h
    · have h := h.2 hc
      refine wpM.mono (h G A ⟨L, P, rfl, hS⟩) (fun rr1 G1 hr => ?_)
      obtain ⟨A1, W1, w1, ⟨L1, P1, rfl, hS1⟩, hy1, rfl, r1, rfl, h⟩ := hr
      refine ⟨r1, rfl, ?_⟩
      have hx1 := Xt.trans hx hy1
      have hg2 : PG L1 g := PG.up hy1 hg
      have ee3 : A1 g 18 = A g 18 := hy1.2 _ _ hg.1 (((nP_18 hS1 hg2)).trans ((nP_18 hS hg)).symm)
      try rw [← ee3]
      have ee4 : A1 g 5 = A g 5 := hy1.2 _ _ hg.1 (((nP_5 hS1 hg2)).trans ((nP_5 hS hg)).symm)
      try rw [← ee4]
      have ee5 : A1 g 9 = A g 9 := hy1.2 _ _ hg.1 (((nP_9 hS1 hg2)).trans ((nP_9 hS hg)).symm)
      try rw [← ee5]
      refine ⟨hS1.o (sP_18 hg2), ?_⟩
      obtain ⟨hi6, h⟩ := h
      refine ⟨by first | (rw [(nP_18 hS1 hg2)]; exact hi6) | exact (congrArg (vp_in _) (nP_18 hS1 hg2)).mpr hi6 | exact hi6, ?_⟩
      have hS7 : Sh E (sI G1 (A1 g 18) (Int32.toNatClampNeg x3) r1) A1 L1 P1 := Sh_sI (rfl : sI G1 (A1 g 18) (Int32.toNatClampNeg x3) r1 = sI G1 (A1 g 18) (Int32.toNatClampNeg x3) r1) hS1 (sP_18 hg2) (okT_0 rfl)
      have h := h (pl (sI G1 (A1 g 18) (Int32.toNatClampNeg x3) r1) A1 L1 P1) (pl_sI (rfl : sI G1 (A1 g 18) (Int32.toNatClampNeg x3) r1 = sI G1 (A1 g 18) (Int32.toNatClampNeg x3) r1) hS1 (sP_18 hg2))
      have hx7 : Xt (pl G A L P) A (pl (sI G1 (A1 g 18) (Int32.toNatClampNeg x3) r1) A1 L1 P1) A1 := Xt_sI (rfl : sI G1 (A1 g 18) (Int32.toNatClampNeg x3) r1 = sI G1 (A1 g 18) (Int32.toNatClampNeg x3) r1) hx1
      exact wp.mono (h (sI G1 (A1 g 18) (Int32.toNatClampNeg x3) r1) A1 ⟨L1, P1, rfl, hS7⟩) (fun r G' q => qx_trans hx7 q)
theorem w_X2_run_0 {E : EE} {d : Nat} {V : VH} {K : Int32 → VH → Prop} {g : Nat} {x1 : Int32} {a2 f2 : Nat} (hg : PG (vL V) g) (hA2 : SL (vL V) a2 f2 14) (h0 : 0 < d) (h : (x1 < 0 → K 0 V) ∧ (¬ (x1 < 0) → (x1 < 30 → ∀ V1 : VH, V1 = wrI V g 9 13 0 → vp_in x1 30 ∧ (vp_in x1 30 ∧ (vwp E d M_X2_run 44 [some (sl g 9), some (wi x1), some (sl a2 f2), some (wi (imin (vI V1 g 14 (Int32.toNatClampNeg x1)) (nI (vN V1 g 15)))), some (wi (imax (vI V1 g 13 (Int32.toNatClampNeg x1)) 0)), none, none, none] [] V1 (zi K)))) ∧ (¬ (x1 < 30) → K 0 V))) : vMI E d M_X2_run [sl g 9, wi x1, sl a2 f2] V K := by
  intro G A hR
  obtain ⟨L, P, rfl, hS⟩ := hR
  have hx := Xt.refl (V := pl G A L P) (A := A)
  show wpM E d M_X2_run [vr (A g 9), vi x1, vr (A a2 f2)] G _
  refine wpM_of mk_X2_run (Nat.le_of_ble_eq_true rfl) ?_
  refine v_X2_run_0 h0 ?_
  refine ⟨fun hc => ?_, fun hc => ?_⟩
  · have h := h.1 hc
    exact qx_i hS hx h
  · have h := h.2 hc
    refine ⟨fun hc => ?_, fun hc => ?_⟩
    · have h := h.1 hc
      refine ⟨hS.o (sP_9 hg), ?_⟩
      have hS1 : Sh E (sI G (A g 9) 13 0) A L P := Sh_sI (rfl : sI G (A g 9) 13 0 = sI G (A g 9) 13 0) hS (sP_9 hg) (okT_0 rfl)
      have h := h (pl (sI G (A g 9) 13 0) A L P) (pl_sI (rfl : sI G (A g 9) 13 0 = sI G (A g 9) 13 0) hS (sP_9 hg))
      have hx1 : Xt (pl G A L P) A (pl (sI G (A g 9) 13 0) A L P) A := Xt_sI (rfl : sI G (A g 9) 13 0 = sI G (A g 9) 13 0) hx
      rw [lP_9_8 hS hg]
      refine ⟨hS1.o (sP_14 hg), ?_⟩
      obtain ⟨hi2, h⟩ := h
      refine ⟨by first | (rw [(nP_14 hS1 hg)]; exact hi2) | exact (congrArg (vp_in _) (nP_14 hS1 hg)).mpr hi2 | exact hi2, ?_⟩
      rw [lP_9_9 hS hg]
      refine ⟨hS1.o (sP_15 hg), ?_⟩
      rw [lP_9_7 hS hg]
      refine ⟨hS1.o (sP_13 hg), ?_⟩
      obtain ⟨hi3, h⟩ := h
      refine ⟨by first | (rw [(nP_13 hS1 hg)]; exact hi3) | exact (congrArg (vp_in _) (nP_13 hS1 hg)).mpr hi3 | exact hi3, ?_⟩
      exact wp.mono (h (sI G (A g 9) 13 0) A ⟨L, P, rfl, hS1⟩) (fun r G' q => qx_trans hx1 q)
    · have h := h.2 hc
      exact qx_i hS hx h
theorem w_X2_run_44 {E : EE} {d : Nat} {V : VH} {K : Int32 → VH → Prop} {g : Nat} {x1 : Int32} {a2 f2 : Nat} {x3 : Int32} {x4 : Int32} (hg : PG (vL V) g) (hA2 : SL (vL V) a2 f2 14) (h0 : 0 < d) (h : (x3 ≤ (x4 + 1) → vMI E (d - 1) M_X2_pop [sl g 9] V (fun r1 V1 => vN V1 a2 f2 = vN V a2 f2 ∧ (K r1 V1))) ∧ (¬ (x3 ≤ (x4 + 1)) → vp_in x4 (vN V g 15) ∧ (vp_in (x4 + 1) (vN V g 15) ∧ ((2 < (vI V g 15 (Int32.toNatClampNeg x4)) → (7 ≤ (vI V g 15 (Int32.toNatClampNeg x4)) → (¬ (vI V g 15 (Int32.toNatClampNeg x4)) = 7 → (22 ≤ (vI V g 15 (Int32.toNatClampNeg x4)) → vMI E (d - 1) M_X2_ofMany [sl g 9, wi (vI V g 15 (Int32.toNatClampNeg x4)), wi (vI V g 15 (Int32.toNatClampNeg (x4 + 1)))] V (fun r9 V9 => vN V9 a2 f2 = vN V a2 f2 ∧ (vMV E (d - 1) M_X2_push [sl g 9, wi r9] V9 (fun V15 => vN V15 a2 f2 = vN V9 a2 f2 ∧ (vwp E d M_X2_run 184 [some (sl g 9), some (wi x1), some (sl a2 f2), some (wi x3), some (wi x4), some (wi (vI V g 15 (Int32.toNatClampNeg x4))), some (wi (vI V g 15 (Int32.toNatClampNeg (x4 + 1)))), none] [] V15 (zi K)))))) ∧ (¬ (22 ≤ (vI V g 15 (Int32.toNatClampNeg x4))) → vMI E (d - 1) M_X2_pop [sl g 9] V (fun r21 V21 => vN V21 a2 f2 = vN V a2 f2 ∧ (vMI E (d - 1) M_X2_pop [sl g 9] V21 (fun r27 V27 => vN V27 a2 f2 = vN V21 a2 f2 ∧ (vMI E (d - 1) M_X2_ofTwo [wi (vI V g 15 (Int32.toNatClampNeg x4)), wi r27, wi r21] V27 (fun r33 V33 => vN V33 a2 f2 = vN V27 a2 f2 ∧ (vMV E (d - 1) M_X2_push [sl g 9, wi r33] V33 (fun V39 => vN V39 a2 f2 = vN V33 a2 f2 ∧ (vwp E d M_X2_run 184 [some (sl g 9), some (wi x1), some (sl a2 f2), some (wi x3), some (wi x4), some (wi (vI V g 15 (Int32.toNatClampNeg x4))), some (wi (vI V g 15 (Int32.toNatClampNeg (x4 + 1)))), none] [] V39 (zi K))))))))))) ∧ ((vI V g 15 (Int32.toNatClampNeg x4)) = 7 → vMI E (d - 1) M_X2_pop [sl g 9] V (fun r45 V45 => vN V45 a2 f2 = vN V a2 f2 ∧ (vMI E (d - 1) M_X2_picked [sl g 9, wi (vI V g 15 (Int32.toNatClampNeg (x4 + 1))), wi r45] V45 (fun r51 V51 => vN V51 a2 f2 = vN V45 a2 f2 ∧ (vMV E (d - 1) M_X2_push [sl g 9, wi r51] V51 (fun V57 => vN V57 a2 f2 = vN V51 a2 f2 ∧ (vwp E d M_X2_run 184 [some (sl g 9), some (wi x1), some (sl a2 f2), some (wi x3), some (wi x4), some (wi (vI V g 15 (Int32.toNatClampNeg x4))), some (wi (vI V g 15 (Int32.toNatClampNeg (x4 + 1)))), none] [] V57 (zi K))))))))) ∧ (¬ (7 ≤ (vI V g 15 (Int32.toNatClampNeg x4))) → vMI E (d - 1) M_X2_pop [sl g 9] V (fun r63 V63 => vN V63 a2 f2 = vN V a2 f2 ∧ (vMI E (d - 1) M_X2_ofOne [wi (vI V g 15 (Int32.toNatClampNeg x4)), wi r63] V63 (fun r69 V69 => vN V69 a2 f2 = vN V63 a2 f2 ∧ (vMV E (d - 1) M_X2_push [sl g 9, wi r69] V69 (fun V75 => vN V75 a2 f2 = vN V69 a2 f2 ∧ (vwp E d M_X2_run 184 [some (sl g 9), some (wi x1), some (sl a2 f2), some (wi x3), some (wi x4), some (wi (vI V g 15 (Int32.toNatClampNeg x4))), some (wi (vI V g 15 (Int32.toNatClampNeg (x4 + 1)))), none] [] V75 (zi K))))))))) ∧ (¬ (2 < (vI V g 15 (Int32.toNatClampNeg x4))) → vMI E (d - 1) M_X2_leaf [sl g 9, wi (vI V g 15 (Int32.toNatClampNeg x4)), wi (vI V g 15 (Int32.toNatClampNeg (x4 + 1))), sl a2 f2] V (fun r81 V81 => vN V81 a2 f2 = vN V a2 f2 ∧ (vMV E (d - 1) M_X2_push [sl g 9, wi r81] V81 (fun V87 => vN V87 a2 f2 = vN V81 a2 f2 ∧ (vwp E d M_X2_run 184 [some (sl g 9), some (wi x1), some (sl a2 f2), some (wi x3), some (wi x4), some (wi (vI V g 15 (Int32.toNatClampNeg x4))), some (wi (vI V g 15 (Int32.toNatClampNeg (x4 + 1)))), none] [] V87 (zi K)))))))))) : vwp E d M_X2_run 44 [some (sl g 9), some (wi x1), some (sl a2 f2), some (wi x3), some (wi x4), none, none, none] [] V (zi K) := by
  intro G A hR
  obtain ⟨L, P, rfl, hS⟩ := hR
  have hx := Xt.refl (V := pl G A L P) (A := A)
  show wp E d M_X2_run 44 [some (vr (A g 9)), some (vi x1), some (vr (A a2 f2)), some (vi x3), some (vi x4), none, none, none] [] G _
  refine v_X2_run_44 h0 ?_
  refine ⟨fun hc => ?_, fun hc => ?_⟩
  · have h := h.1 hc
    refine ⟨hS.o (sP_9 hg), ?_⟩
    refine wpM.mono (h G A ⟨L, P, rfl, hS⟩) (fun rr1 G1 hr => ?_)
    obtain ⟨A1, W1, w1, ⟨L1, P1, rfl, hS1⟩, hy1, rfl, r1, rfl, h⟩ := hr
    refine ⟨r1, rfl, ?_⟩
    have hx1 := Xt.trans hx hy1
    have hg2 : PG L1 g := PG.up hy1 hg
    have hg3 : SL L1 a2 f2 14 := SL.ux hy1 hA2
    obtain ⟨hv5, h⟩ := h
    have ee4 : A1 a2 f2 = A a2 f2 := hy1.2 _ _ hA2.1 hv5
    try rw [← ee4]
    have ee6 : A1 g 9 = A g 9 := hy1.2 _ _ hg.1 (((nP_9 hS1 hg2)).trans ((nP_9 hS hg)).symm)
    try rw [← ee6]
    exact qx_i hS1 hx1 h
  · have h := h.2 hc
    refine ⟨hS.o (sP_9 hg), ?_⟩
    rw [lP_9_9 hS hg]
    refine ⟨hS.o (sP_15 hg), ?_⟩
    obtain ⟨hi7, h⟩ := h
    refine ⟨hi7, ?_⟩
    obtain ⟨hi8, h⟩ := h
    refine ⟨hi8, ?_⟩
    refine ⟨fun hc => ?_, fun hc => ?_⟩
    · have h := h.1 hc
      refine ⟨fun hc => ?_, fun hc => ?_⟩
      · have h := h.1 hc
        refine ⟨fun hc => ?_, fun hc => ?_⟩
        · have h := h.1 hc
          refine ⟨fun hc => ?_, fun hc => ?_⟩
          · have h := h.1 hc
            refine wpM.mono (h G A ⟨L, P, rfl, hS⟩) (fun rr9 G9 hr => ?_)
            obtain ⟨A9, W9, w9, ⟨L9, P9, rfl, hS9⟩, hy9, rfl, r9, rfl, h⟩ := hr
            refine ⟨r9, rfl, ?_⟩
            have hx9 := Xt.trans hx hy9
            have hg10 : PG L9 g := PG.up hy9 hg
            have hg11 : SL L9 a2 f2 14 := SL.ux hy9 hA2
            obtain ⟨hv13, h⟩ := h
            have ee12 : A9 a2 f2 = A a2 f2 := hy9.2 _ _ hA2.1 hv13
            try rw [← ee12]
            have ee14 : A9 g 9 = A g 9 := hy9.2 _ _ hg.1 (((nP_9 hS9 hg10)).trans ((nP_9 hS hg)).symm)
            try rw [← ee14]
            refine ⟨hS9.o (sP_9 hg10), ?_⟩
            refine wpM.mono (h G9 A9 ⟨L9, P9, rfl, hS9⟩) (fun rr15 G15 hr => ?_)
            obtain ⟨A15, W15, w15, ⟨L15, P15, rfl, hS15⟩, hy15, rfl, rfl, h⟩ := hr
            refine ⟨rfl, ?_⟩
            have hx15 := Xt.trans hx9 hy15
            have hg16 : PG L15 g := PG.up hy15 hg10
            have hg17 : SL L15 a2 f2 14 := SL.ux hy15 hg11
            obtain ⟨hv19, h⟩ := h
            have ee18 : A15 a2 f2 = A9 a2 f2 := hy15.2 _ _ hg11.1 hv19
            try rw [← ee18]
            have ee20 : A15 g 9 = A9 g 9 := hy15.2 _ _ hg10.1 (((nP_9 hS15 hg16)).trans ((nP_9 hS9 hg10)).symm)
            try rw [← ee20]
            exact wp.mono (h G15 A15 ⟨L15, P15, rfl, hS15⟩) (fun r G' q => qx_trans hx15 q)
          · have h := h.2 hc
            refine wpM.mono (h G A ⟨L, P, rfl, hS⟩) (fun rr21 G21 hr => ?_)
            obtain ⟨A21, W21, w21, ⟨L21, P21, rfl, hS21⟩, hy21, rfl, r21, rfl, h⟩ := hr
            refine ⟨r21, rfl, ?_⟩
            have hx21 := Xt.trans hx hy21
            have hg22 : PG L21 g := PG.up hy21 hg
            have hg23 : SL L21 a2 f2 14 := SL.ux hy21 hA2
            obtain ⟨hv25, h⟩ := h
            have ee24 : A21 a2 f2 = A a2 f2 := hy21.2 _ _ hA2.1 hv25
            try rw [← ee24]
            have ee26 : A21 g 9 = A g 9 := hy21.2 _ _ hg.1 (((nP_9 hS21 hg22)).trans ((nP_9 hS hg)).symm)
            try rw [← ee26]
            refine ⟨hS21.o (sP_9 hg22), ?_⟩
            refine wpM.mono (h G21 A21 ⟨L21, P21, rfl, hS21⟩) (fun rr27 G27 hr => ?_)
            obtain ⟨A27, W27, w27, ⟨L27, P27, rfl, hS27⟩, hy27, rfl, r27, rfl, h⟩ := hr
            refine ⟨r27, rfl, ?_⟩
            have hx27 := Xt.trans hx21 hy27
            have hg28 : PG L27 g := PG.up hy27 hg22
            have hg29 : SL L27 a2 f2 14 := SL.ux hy27 hg23
            obtain ⟨hv31, h⟩ := h
            have ee30 : A27 a2 f2 = A21 a2 f2 := hy27.2 _ _ hg23.1 hv31
            try rw [← ee30]
            have ee32 : A27 g 9 = A21 g 9 := hy27.2 _ _ hg22.1 (((nP_9 hS27 hg28)).trans ((nP_9 hS21 hg22)).symm)
            try rw [← ee32]
            refine wpM.mono (h G27 A27 ⟨L27, P27, rfl, hS27⟩) (fun rr33 G33 hr => ?_)
            obtain ⟨A33, W33, w33, ⟨L33, P33, rfl, hS33⟩, hy33, rfl, r33, rfl, h⟩ := hr
            refine ⟨r33, rfl, ?_⟩
            have hx33 := Xt.trans hx27 hy33
            have hg34 : PG L33 g := PG.up hy33 hg28
            have hg35 : SL L33 a2 f2 14 := SL.ux hy33 hg29
            obtain ⟨hv37, h⟩ := h
            have ee36 : A33 a2 f2 = A27 a2 f2 := hy33.2 _ _ hg29.1 hv37
            try rw [← ee36]
            have ee38 : A33 g 9 = A27 g 9 := hy33.2 _ _ hg28.1 (((nP_9 hS33 hg34)).trans ((nP_9 hS27 hg28)).symm)
            try rw [← ee38]
            refine ⟨hS33.o (sP_9 hg34), ?_⟩
            refine wpM.mono (h G33 A33 ⟨L33, P33, rfl, hS33⟩) (fun rr39 G39 hr => ?_)
            obtain ⟨A39, W39, w39, ⟨L39, P39, rfl, hS39⟩, hy39, rfl, rfl, h⟩ := hr
            refine ⟨rfl, ?_⟩
            have hx39 := Xt.trans hx33 hy39
            have hg40 : PG L39 g := PG.up hy39 hg34
            have hg41 : SL L39 a2 f2 14 := SL.ux hy39 hg35
            obtain ⟨hv43, h⟩ := h
            have ee42 : A39 a2 f2 = A33 a2 f2 := hy39.2 _ _ hg35.1 hv43
            try rw [← ee42]
            have ee44 : A39 g 9 = A33 g 9 := hy39.2 _ _ hg34.1 (((nP_9 hS39 hg40)).trans ((nP_9 hS33 hg34)).symm)
            try rw [← ee44]
            exact wp.mono (h G39 A39 ⟨L39, P39, rfl, hS39⟩) (fun r G' q => qx_trans hx39 q)
        · have h := h.2 hc
          refine wpM.mono (h G A ⟨L, P, rfl, hS⟩) (fun rr45 G45 hr => ?_)
          obtain ⟨A45, W45, w45, ⟨L45, P45, rfl, hS45⟩, hy45, rfl, r45, rfl, h⟩ := hr
          refine ⟨r45, rfl, ?_⟩
          have hx45 := Xt.trans hx hy45
          have hg46 : PG L45 g := PG.up hy45 hg
          have hg47 : SL L45 a2 f2 14 := SL.ux hy45 hA2
          obtain ⟨hv49, h⟩ := h
          have ee48 : A45 a2 f2 = A a2 f2 := hy45.2 _ _ hA2.1 hv49
          try rw [← ee48]
          have ee50 : A45 g 9 = A g 9 := hy45.2 _ _ hg.1 (((nP_9 hS45 hg46)).trans ((nP_9 hS hg)).symm)
          try rw [← ee50]
          refine ⟨hS45.o (sP_9 hg46), ?_⟩
          refine wpM.mono (h G45 A45 ⟨L45, P45, rfl, hS45⟩) (fun rr51 G51 hr => ?_)
          obtain ⟨A51, W51, w51, ⟨L51, P51, rfl, hS51⟩, hy51, rfl, r51, rfl, h⟩ := hr
          refine ⟨r51, rfl, ?_⟩
          have hx51 := Xt.trans hx45 hy51
          have hg52 : PG L51 g := PG.up hy51 hg46
          have hg53 : SL L51 a2 f2 14 := SL.ux hy51 hg47
          obtain ⟨hv55, h⟩ := h
          have ee54 : A51 a2 f2 = A45 a2 f2 := hy51.2 _ _ hg47.1 hv55
          try rw [← ee54]
          have ee56 : A51 g 9 = A45 g 9 := hy51.2 _ _ hg46.1 (((nP_9 hS51 hg52)).trans ((nP_9 hS45 hg46)).symm)
          try rw [← ee56]
          refine ⟨hS51.o (sP_9 hg52), ?_⟩
          refine wpM.mono (h G51 A51 ⟨L51, P51, rfl, hS51⟩) (fun rr57 G57 hr => ?_)
          obtain ⟨A57, W57, w57, ⟨L57, P57, rfl, hS57⟩, hy57, rfl, rfl, h⟩ := hr
          refine ⟨rfl, ?_⟩
          have hx57 := Xt.trans hx51 hy57
          have hg58 : PG L57 g := PG.up hy57 hg52
          have hg59 : SL L57 a2 f2 14 := SL.ux hy57 hg53
          obtain ⟨hv61, h⟩ := h
          have ee60 : A57 a2 f2 = A51 a2 f2 := hy57.2 _ _ hg53.1 hv61
          try rw [← ee60]
          have ee62 : A57 g 9 = A51 g 9 := hy57.2 _ _ hg52.1 (((nP_9 hS57 hg58)).trans ((nP_9 hS51 hg52)).symm)
          try rw [← ee62]
          exact wp.mono (h G57 A57 ⟨L57, P57, rfl, hS57⟩) (fun r G' q => qx_trans hx57 q)
      · have h := h.2 hc
        refine wpM.mono (h G A ⟨L, P, rfl, hS⟩) (fun rr63 G63 hr => ?_)
        obtain ⟨A63, W63, w63, ⟨L63, P63, rfl, hS63⟩, hy63, rfl, r63, rfl, h⟩ := hr
        refine ⟨r63, rfl, ?_⟩
        have hx63 := Xt.trans hx hy63
        have hg64 : PG L63 g := PG.up hy63 hg
        have hg65 : SL L63 a2 f2 14 := SL.ux hy63 hA2
        obtain ⟨hv67, h⟩ := h
        have ee66 : A63 a2 f2 = A a2 f2 := hy63.2 _ _ hA2.1 hv67
        try rw [← ee66]
        have ee68 : A63 g 9 = A g 9 := hy63.2 _ _ hg.1 (((nP_9 hS63 hg64)).trans ((nP_9 hS hg)).symm)
        try rw [← ee68]
        refine wpM.mono (h G63 A63 ⟨L63, P63, rfl, hS63⟩) (fun rr69 G69 hr => ?_)
        obtain ⟨A69, W69, w69, ⟨L69, P69, rfl, hS69⟩, hy69, rfl, r69, rfl, h⟩ := hr
        refine ⟨r69, rfl, ?_⟩
        have hx69 := Xt.trans hx63 hy69
        have hg70 : PG L69 g := PG.up hy69 hg64
        have hg71 : SL L69 a2 f2 14 := SL.ux hy69 hg65
        obtain ⟨hv73, h⟩ := h
        have ee72 : A69 a2 f2 = A63 a2 f2 := hy69.2 _ _ hg65.1 hv73
        try rw [← ee72]
        have ee74 : A69 g 9 = A63 g 9 := hy69.2 _ _ hg64.1 (((nP_9 hS69 hg70)).trans ((nP_9 hS63 hg64)).symm)
        try rw [← ee74]
        refine ⟨hS69.o (sP_9 hg70), ?_⟩
        refine wpM.mono (h G69 A69 ⟨L69, P69, rfl, hS69⟩) (fun rr75 G75 hr => ?_)
        obtain ⟨A75, W75, w75, ⟨L75, P75, rfl, hS75⟩, hy75, rfl, rfl, h⟩ := hr
        refine ⟨rfl, ?_⟩
        have hx75 := Xt.trans hx69 hy75
        have hg76 : PG L75 g := PG.up hy75 hg70
        have hg77 : SL L75 a2 f2 14 := SL.ux hy75 hg71
        obtain ⟨hv79, h⟩ := h
        have ee78 : A75 a2 f2 = A69 a2 f2 := hy75.2 _ _ hg71.1 hv79
        try rw [← ee78]
        have ee80 : A75 g 9 = A69 g 9 := hy75.2 _ _ hg70.1 (((nP_9 hS75 hg76)).trans ((nP_9 hS69 hg70)).symm)
        try rw [← ee80]
        exact wp.mono (h G75 A75 ⟨L75, P75, rfl, hS75⟩) (fun r G' q => qx_trans hx75 q)
    · have h := h.2 hc
      refine wpM.mono (h G A ⟨L, P, rfl, hS⟩) (fun rr81 G81 hr => ?_)
      obtain ⟨A81, W81, w81, ⟨L81, P81, rfl, hS81⟩, hy81, rfl, r81, rfl, h⟩ := hr
      refine ⟨r81, rfl, ?_⟩
      have hx81 := Xt.trans hx hy81
      have hg82 : PG L81 g := PG.up hy81 hg
      have hg83 : SL L81 a2 f2 14 := SL.ux hy81 hA2
      obtain ⟨hv85, h⟩ := h
      have ee84 : A81 a2 f2 = A a2 f2 := hy81.2 _ _ hA2.1 hv85
      try rw [← ee84]
      have ee86 : A81 g 9 = A g 9 := hy81.2 _ _ hg.1 (((nP_9 hS81 hg82)).trans ((nP_9 hS hg)).symm)
      try rw [← ee86]
      refine ⟨hS81.o (sP_9 hg82), ?_⟩
      refine wpM.mono (h G81 A81 ⟨L81, P81, rfl, hS81⟩) (fun rr87 G87 hr => ?_)
      obtain ⟨A87, W87, w87, ⟨L87, P87, rfl, hS87⟩, hy87, rfl, rfl, h⟩ := hr
      refine ⟨rfl, ?_⟩
      have hx87 := Xt.trans hx81 hy87
      have hg88 : PG L87 g := PG.up hy87 hg82
      have hg89 : SL L87 a2 f2 14 := SL.ux hy87 hg83
      obtain ⟨hv91, h⟩ := h
      have ee90 : A87 a2 f2 = A81 a2 f2 := hy87.2 _ _ hg83.1 hv91
      try rw [← ee90]
      have ee92 : A87 g 9 = A81 g 9 := hy87.2 _ _ hg82.1 (((nP_9 hS87 hg88)).trans ((nP_9 hS81 hg82)).symm)
      try rw [← ee92]
      exact wp.mono (h G87 A87 ⟨L87, P87, rfl, hS87⟩) (fun r G' q => qx_trans hx87 q)
theorem w_X2_run_184 {E : EE} {d : Nat} {V : VH} {K : Int32 → VH → Prop} {g : Nat} {x1 : Int32} {a2 f2 : Nat} {x3 : Int32} {x4 : Int32} {x5 : Int32} {x6 : Int32} (hg : PG (vL V) g) (hA2 : SL (vL V) a2 f2 14) (h : vwp E d M_X2_run 44 [some (sl g 9), some (wi x1), some (sl a2 f2), some (wi x3), some (wi (x4 + 2)), none, none, none] [] V (zi K)) : vwp E d M_X2_run 184 [some (sl g 9), some (wi x1), some (sl a2 f2), some (wi x3), some (wi x4), some (wi x5), some (wi x6), none] [] V (zi K) := by
  intro G A hR
  obtain ⟨L, P, rfl, hS⟩ := hR
  have hx := Xt.refl (V := pl G A L P) (A := A)
  show wp E d M_X2_run 184 [some (vr (A g 9)), some (vi x1), some (vr (A a2 f2)), some (vi x3), some (vi x4), some (vi x5), some (vi x6), none] [] G _
  refine v_X2_run_184 ?_
  exact wp.mono (h G A ⟨L, P, rfl, hS⟩) (fun r G' q => qx_trans hx q)
theorem w_X2_leaf_0 {E : EE} {d : Nat} {V : VH} {K : Int32 → VH → Prop} {g : Nat} {x1 : Int32} {x2 : Int32} {a3 f3 : Nat} (hg : PG (vL V) g) (hA3 : SL (vL V) a3 f3 14) (h : (¬ x1 = 0 → (¬ x1 = 1 → vwp E d M_X2_leaf 19 [some (sl g 9), some (wi x1), some (wi x2), some (sl a3 f3), none] [sl g 18] V (zi K)) ∧ (x1 = 1 → vwp E d M_X2_leaf 19 [some (sl g 9), some (wi x1), some (wi x2), some (sl a3 f3), none] [sl a3 f3] V (zi K))) ∧ (x1 = 0 → K x2 V)) : vMI E d M_X2_leaf [sl g 9, wi x1, wi x2, sl a3 f3] V K := by
  intro G A hR
  obtain ⟨L, P, rfl, hS⟩ := hR
  have hx := Xt.refl (V := pl G A L P) (A := A)
  show wpM E d M_X2_leaf [vr (A g 9), vi x1, vi x2, vr (A a3 f3)] G _
  refine wpM_of mk_X2_leaf (Nat.le_of_ble_eq_true rfl) ?_
  refine v_X2_leaf_0 ?_
  refine ⟨fun hc => ?_, fun hc => ?_⟩
  · have h := h.1 hc
    refine ⟨fun hc => ?_, fun hc => ?_⟩
    · have h := h.1 hc
      refine ⟨hS.o (sP_9 hg), ?_⟩
      rw [lP_9_14 hS hg]
      exact wp.mono (h G A ⟨L, P, rfl, hS⟩) (fun r G' q => qx_trans hx q)
    · have h := h.2 hc
      exact wp.mono (h G A ⟨L, P, rfl, hS⟩) (fun r G' q => qx_trans hx q)
  · have h := h.2 hc
    exact qx_i hS hx h
theorem w_X2_leaf_19 {E : EE} {d : Nat} {V : VH} {K : Int32 → VH → Prop} {g : Nat} {x1 : Int32} {x2 : Int32} {a3 f3 : Nat} {a90 f90 : Nat} (hg : PG (vL V) g) (hA3 : SL (vL V) a3 f3 14) (hA90 : SL (vL V) a90 f90 14) (h : (x2 < 0 → K 0 V) ∧ (¬ (x2 < 0) → ((nI (vN V a90 f90)) ≤ x2 → K 0 V) ∧ (¬ ((nI (vN V a90 f90)) ≤ x2) → vp_in x2 (vN V a90 f90) ∧ (K (vI V a90 f90 (Int32.toNatClampNeg x2)) V)))) : vwp E d M_X2_leaf 19 [some (sl g 9), some (wi x1), some (wi x2), some (sl a3 f3), none] [sl a90 f90] V (zi K) := by
  intro G A hR
  obtain ⟨L, P, rfl, hS⟩ := hR
  have hx := Xt.refl (V := pl G A L P) (A := A)
  show wp E d M_X2_leaf 19 [some (vr (A g 9)), some (vi x1), some (vi x2), some (vr (A a3 f3)), none] [vr (A a90 f90)] G _
  refine v_X2_leaf_19 ?_
  refine ⟨fun hc => ?_, fun hc => ?_⟩
  · have h := h.1 hc
    exact qx_i hS hx h
  · have h := h.2 hc
    refine ⟨hS.o hA90, ?_⟩
    refine ⟨fun hc => ?_, fun hc => ?_⟩
    · have h := h.1 hc
      exact qx_i hS hx h
    · have h := h.2 hc
      obtain ⟨hi1, h⟩ := h
      refine ⟨hi1, ?_⟩
      exact qx_i hS hx h
theorem w_X2_push_0 {E : EE} {d : Nat} {V : VH} {K : VH → Prop} {g : Nat} {x1 : Int32} (hg : PG (vL V) g) (h : (128 ≤ (vI V g 9 13) → K V) ∧ (¬ (128 ≤ (vI V g 9 13)) → ∀ V1 : VH, V1 = wrI V g 9 13 ((vI V g 9 13) + 1) → vp_in (vI V g 9 13) 128 ∧ (∀ V3 : VH, V3 = wrI V1 g 17 (Int32.toNatClampNeg (vI V g 9 13)) x1 → K V3))) : vMV E d M_X2_push [sl g 9, wi x1] V K := by
  intro G A hR
  obtain ⟨L, P, rfl, hS⟩ := hR
  have hx := Xt.refl (V := pl G A L P) (A := A)
  show wpM E d M_X2_push [vr (A g 9), vi x1] G _
  refine wpM_of mk_X2_push (Nat.le_of_ble_eq_true rfl) ?_
  refine v_X2_push_0 ?_
  refine ⟨hS.o (sP_9 hg), ?_⟩
  refine ⟨fun hc => ?_, fun hc => ?_⟩
  · have h := h.1 hc
    exact qx_v hS hx h
  · have h := h.2 hc
    rw [lP_9_12 hS hg]
    intro G1 eG1
    have hS1 : Sh E G1 A L P := Sh_sI eG1 hS (sP_9 hg) (okT_0 rfl)
    have h := h (pl G1 A L P) (pl_sI eG1 hS (sP_9 hg))
    have hx1 : Xt (pl G A L P) A (pl G1 A L P) A := Xt_sI eG1 hx
    refine ⟨hS1.o (sP_17 hg), ?_⟩
    obtain ⟨hi2, h⟩ := h
    refine ⟨by first | (rw [(nP_17 hS1 hg)]; exact hi2) | exact (congrArg (vp_in _) (nP_17 hS1 hg)).mpr hi2 | exact hi2, ?_⟩
    intro G3 eG3
    have hS3 : Sh E G3 A L P := Sh_sI eG3 hS1 (sP_17 hg) (okT_0 rfl)
    have h := h (pl G3 A L P) (pl_sI eG3 hS1 (sP_17 hg))
    have hx3 : Xt (pl G A L P) A (pl G3 A L P) A := Xt_sI eG3 hx1
    exact qx_v hS3 hx3 h
theorem w_X2_pop_0 {E : EE} {d : Nat} {V : VH} {K : Int32 → VH → Prop} {g : Nat} (hg : PG (vL V) g) (h : ((vI V g 9 13) ≤ 0 → K 0 V) ∧ (¬ ((vI V g 9 13) ≤ 0) → (128 < (vI V g 9 13) → K 0 V) ∧ (¬ (128 < (vI V g 9 13)) → ∀ V1 : VH, V1 = wrI V g 9 13 ((vI V g 9 13) - 1) → vp_in ((vI V g 9 13) - 1) 128 ∧ (K (vI V1 g 17 (Int32.toNatClampNeg ((vI V g 9 13) - 1))) V1)))) : vMI E d M_X2_pop [sl g 9] V K := by
  intro G A hR
  obtain ⟨L, P, rfl, hS⟩ := hR
  have hx := Xt.refl (V := pl G A L P) (A := A)
  show wpM E d M_X2_pop [vr (A g 9)] G _
  refine wpM_of mk_X2_pop (Nat.le_of_ble_eq_true rfl) ?_
  refine v_X2_pop_0 ?_
  refine ⟨hS.o (sP_9 hg), ?_⟩
  refine ⟨fun hc => ?_, fun hc => ?_⟩
  · have h := h.1 hc
    exact qx_i hS hx h
  · have h := h.2 hc
    refine ⟨fun hc => ?_, fun hc => ?_⟩
    · have h := h.1 hc
      exact qx_i hS hx h
    · have h := h.2 hc
      rw [lP_9_12 hS hg]
      have hS1 : Sh E (sI G (A g 9) 13 ((gI G (A g 9) 13) - 1)) A L P := Sh_sI (rfl : sI G (A g 9) 13 ((gI G (A g 9) 13) - 1) = sI G (A g 9) 13 ((gI G (A g 9) 13) - 1)) hS (sP_9 hg) (okT_0 rfl)
      have h := h (pl (sI G (A g 9) 13 ((gI G (A g 9) 13) - 1)) A L P) (pl_sI (rfl : sI G (A g 9) 13 ((gI G (A g 9) 13) - 1) = sI G (A g 9) 13 ((gI G (A g 9) 13) - 1)) hS (sP_9 hg))
      have hx1 : Xt (pl G A L P) A (pl (sI G (A g 9) 13 ((gI G (A g 9) 13) - 1)) A L P) A := Xt_sI (rfl : sI G (A g 9) 13 ((gI G (A g 9) 13) - 1) = sI G (A g 9) 13 ((gI G (A g 9) 13) - 1)) hx
      refine ⟨hS1.o (sP_17 hg), ?_⟩
      obtain ⟨hi2, h⟩ := h
      refine ⟨by first | (rw [(nP_17 hS1 hg)]; exact hi2) | exact (congrArg (vp_in _) (nP_17 hS1 hg)).mpr hi2 | exact hi2, ?_⟩
      exact qx_i hS1 hx1 h
theorem w_X2_ofOne_0 {E : EE} {d : Nat} {V : VH} {K : Int32 → VH → Prop} {x0 : Int32} {x1 : Int32}  (h0 : 0 < d) (h : (x0 = 3 → vMI E (d - 1) M_X2_held [wj (-(Int32.toInt64 x1))] V (fun r1 V1 => K r1 V1)) ∧ ((x0 = 4 → vMI E (d - 1) M_X2_held [wj (labs (Int32.toInt64 x1))] V (fun r2 V2 => K r2 V2)) ∧ ((¬ x0 = 3 → ¬ x0 = 4 → (¬ x1 = 0 → K 0 V) ∧ (x1 = 0 → K 1 V))))) : vMI E d M_X2_ofOne [wi x0, wi x1] V K := by
  intro G A hR
  obtain ⟨L, P, rfl, hS⟩ := hR
  have hx := Xt.refl (V := pl G A L P) (A := A)
  show wpM E d M_X2_ofOne [vi x0, vi x1] G _
  refine wpM_of mk_X2_ofOne (Nat.le_of_ble_eq_true rfl) ?_
  refine v_X2_ofOne_0 h0 ?_
  refine ⟨fun hc => ?_, ?_⟩
  · have h := h.1 hc
    refine wpM.mono (h G A ⟨L, P, rfl, hS⟩) (fun rr1 G1 hr => ?_)
    obtain ⟨A1, W1, w1, ⟨L1, P1, rfl, hS1⟩, hy1, rfl, r1, rfl, h⟩ := hr
    refine ⟨r1, rfl, ?_⟩
    have hx1 := Xt.trans hx hy1
    exact qx_i hS1 hx1 h
  have h := h.2
  refine ⟨fun hc => ?_, ?_⟩
  · have h := h.1 hc
    refine wpM.mono (h G A ⟨L, P, rfl, hS⟩) (fun rr2 G2 hr => ?_)
    obtain ⟨A2, W2, w2, ⟨L2, P2, rfl, hS2⟩, hy2, rfl, r2, rfl, h⟩ := hr
    refine ⟨r2, rfl, ?_⟩
    have hx2 := Xt.trans hx hy2
    exact qx_i hS2 hx2 h
  have h := h.2
  intro q0 q1
  have h := h q0 q1
  refine ⟨fun hc => ?_, fun hc => ?_⟩
  · have h := h.1 hc
    exact qx_i hS hx h
  · have h := h.2 hc
    exact qx_i hS hx h
theorem w_X2_held_0 {E : EE} {d : Nat} {V : VH} {K : Int32 → VH → Prop} {x0 : Int64}  (h0 : 0 < d) (h : K (Int64.toInt32 (lmax (-1000000) (lmin 1000000 x0))) V) : vMI E d M_X2_held [wj x0] V K := by
  intro G A hR
  obtain ⟨L, P, rfl, hS⟩ := hR
  have hx := Xt.refl (V := pl G A L P) (A := A)
  show wpM E d M_X2_held [vj x0] G _
  refine wpM_of mk_X2_held (Nat.le_of_ble_eq_true rfl) ?_
  refine v_X2_held_0 h0 ?_
  exact qx_i hS hx h
theorem w_X2_picked_0 {E : EE} {d : Nat} {V : VH} {K : Int32 → VH → Prop} {g : Nat} {x1 : Int32} {x2 : Int32} (hg : PG (vL V) g) (h0 : 0 < d) (h : (x2 < 0 → K 0 V) ∧ (¬ (x2 < 0) → vMI E (d - 1) M_X2_noteAt [sl g 9, wi x1] V (fun r1 V1 => (r1 ≤ x2 → K 0 V1) ∧ (¬ (r1 ≤ x2) → vMI E (d - 1) M_X2_noteAt [sl g 9, wi ((x1 + 1) + x2)] V1 (fun r4 V4 => K r4 V4))))) : vMI E d M_X2_picked [sl g 9, wi x1, wi x2] V K := by
  intro G A hR
  obtain ⟨L, P, rfl, hS⟩ := hR
  have hx := Xt.refl (V := pl G A L P) (A := A)
  show wpM E d M_X2_picked [vr (A g 9), vi x1, vi x2] G _
  refine wpM_of mk_X2_picked (Nat.le_of_ble_eq_true rfl) ?_
  refine v_X2_picked_0 h0 ?_
  refine ⟨fun hc => ?_, fun hc => ?_⟩
  · have h := h.1 hc
    exact qx_i hS hx h
  · have h := h.2 hc
    refine ⟨hS.o (sP_9 hg), ?_⟩
    refine wpM.mono (h G A ⟨L, P, rfl, hS⟩) (fun rr1 G1 hr => ?_)
    obtain ⟨A1, W1, w1, ⟨L1, P1, rfl, hS1⟩, hy1, rfl, r1, rfl, h⟩ := hr
    refine ⟨r1, rfl, ?_⟩
    have hx1 := Xt.trans hx hy1
    have hg2 : PG L1 g := PG.up hy1 hg
    have ee3 : A1 g 9 = A g 9 := hy1.2 _ _ hg.1 (((nP_9 hS1 hg2)).trans ((nP_9 hS hg)).symm)
    try rw [← ee3]
    refine ⟨fun hc => ?_, fun hc => ?_⟩
    · have h := h.1 hc
      exact qx_i hS1 hx1 h
    · have h := h.2 hc
      refine ⟨hS1.o (sP_9 hg2), ?_⟩
      refine wpM.mono (h G1 A1 ⟨L1, P1, rfl, hS1⟩) (fun rr4 G4 hr => ?_)
      obtain ⟨A4, W4, w4, ⟨L4, P4, rfl, hS4⟩, hy4, rfl, r4, rfl, h⟩ := hr
      refine ⟨r4, rfl, ?_⟩
      have hx4 := Xt.trans hx1 hy4
      have hg5 : PG L4 g := PG.up hy4 hg2
      have ee6 : A4 g 9 = A1 g 9 := hy4.2 _ _ hg2.1 (((nP_9 hS4 hg5)).trans ((nP_9 hS1 hg2)).symm)
      try rw [← ee6]
      exact qx_i hS4 hx4 h
theorem w_X2_noteAt_0 {E : EE} {d : Nat} {V : VH} {K : Int32 → VH → Prop} {g : Nat} {x1 : Int32} (hg : PG (vL V) g) (h : (x1 < 0 → K 0 V) ∧ (¬ (x1 < 0) → ((vI V g 9 3) ≤ x1 → K 0 V) ∧ (¬ ((vI V g 9 3) ≤ x1) → ((nI (vN V g 16)) ≤ x1 → K 0 V) ∧ (¬ ((nI (vN V g 16)) ≤ x1) → vp_in x1 (vN V g 16) ∧ (K (vI V g 16 (Int32.toNatClampNeg x1)) V))))) : vMI E d M_X2_noteAt [sl g 9, wi x1] V K := by
  intro G A hR
  obtain ⟨L, P, rfl, hS⟩ := hR
  have hx := Xt.refl (V := pl G A L P) (A := A)
  show wpM E d M_X2_noteAt [vr (A g 9), vi x1] G _
  refine wpM_of mk_X2_noteAt (Nat.le_of_ble_eq_true rfl) ?_
  refine v_X2_noteAt_0 ?_
  refine ⟨fun hc => ?_, fun hc => ?_⟩
  · have h := h.1 hc
    exact qx_i hS hx h
  · have h := h.2 hc
    refine ⟨hS.o (sP_9 hg), ?_⟩
    refine ⟨fun hc => ?_, fun hc => ?_⟩
    · have h := h.1 hc
      exact qx_i hS hx h
    · have h := h.2 hc
      rw [lP_9_11 hS hg]
      refine ⟨hS.o (sP_16 hg), ?_⟩
      refine ⟨fun hc => ?_, fun hc => ?_⟩
      · have h := h.1 hc
        exact qx_i hS hx h
      · have h := h.2 hc
        obtain ⟨hi1, h⟩ := h
        refine ⟨hi1, ?_⟩
        exact qx_i hS hx h
theorem w_X2_ofTwo_0 {E : EE} {d : Nat} {V : VH} {K : Int32 → VH → Prop} {x0 : Int32} {x1 : Int32} {x2 : Int32}  (h0 : 0 < d) (h : (x0 = 8 → vMI E (d - 1) M_X2_held [wj ((Int32.toInt64 x1) + (Int32.toInt64 x2))] V (fun r1 V1 => K r1 V1)) ∧ ((x0 = 9 → vMI E (d - 1) M_X2_held [wj ((Int32.toInt64 x1) - (Int32.toInt64 x2))] V (fun r2 V2 => K r2 V2)) ∧ ((x0 = 10 → vMI E (d - 1) M_X2_held [wj ((Int32.toInt64 x1) * (Int32.toInt64 x2))] V (fun r3 V3 => K r3 V3)) ∧ ((x0 = 11 → K (imin x1 x2) V) ∧ ((x0 = 12 → K (imax x1 x2) V) ∧ ((x0 = 13 → K (iabs (x1 - x2)) V) ∧ ((x0 = 14 → (¬ x1 = x2 → K 0 V) ∧ (x1 = x2 → K 1 V)) ∧ ((x0 = 15 → K (imax 0 ((x1 - x2) + 1)) V) ∧ ((x0 = 16 → K (imax 0 (x1 - x2)) V) ∧ ((x0 = 17 → K (imax 0 ((x2 - x1) + 1)) V) ∧ ((x0 = 18 → K (imax 0 (x2 - x1)) V) ∧ ((x0 = 19 → K (imin 1000000 (x1 + x2)) V) ∧ ((x0 = 20 → K (imin x1 x2) V) ∧ ((¬ x0 = 8 → ¬ x0 = 9 → ¬ x0 = 10 → ¬ x0 = 11 → ¬ x0 = 12 → ¬ x0 = 13 → ¬ x0 = 14 → ¬ x0 = 15 → ¬ x0 = 16 → ¬ x0 = 17 → ¬ x0 = 18 → ¬ x0 = 19 → ¬ x0 = 20 → (¬ x1 = 0 → K 0 V) ∧ (x1 = 0 → K x2 V)))))))))))))))) : vMI E d M_X2_ofTwo [wi x0, wi x1, wi x2] V K := by
  intro G A hR
  obtain ⟨L, P, rfl, hS⟩ := hR
  have hx := Xt.refl (V := pl G A L P) (A := A)
  show wpM E d M_X2_ofTwo [vi x0, vi x1, vi x2] G _
  refine wpM_of mk_X2_ofTwo (Nat.le_of_ble_eq_true rfl) ?_
  refine v_X2_ofTwo_0 h0 ?_
  refine ⟨fun hc => ?_, ?_⟩
  · have h := h.1 hc
    refine wpM.mono (h G A ⟨L, P, rfl, hS⟩) (fun rr1 G1 hr => ?_)
    obtain ⟨A1, W1, w1, ⟨L1, P1, rfl, hS1⟩, hy1, rfl, r1, rfl, h⟩ := hr
    refine ⟨r1, rfl, ?_⟩
    have hx1 := Xt.trans hx hy1
    exact qx_i hS1 hx1 h
  have h := h.2
  refine ⟨fun hc => ?_, ?_⟩
  · have h := h.1 hc
    refine wpM.mono (h G A ⟨L, P, rfl, hS⟩) (fun rr2 G2 hr => ?_)
    obtain ⟨A2, W2, w2, ⟨L2, P2, rfl, hS2⟩, hy2, rfl, r2, rfl, h⟩ := hr
    refine ⟨r2, rfl, ?_⟩
    have hx2 := Xt.trans hx hy2
    exact qx_i hS2 hx2 h
  have h := h.2
  refine ⟨fun hc => ?_, ?_⟩
  · have h := h.1 hc
    refine wpM.mono (h G A ⟨L, P, rfl, hS⟩) (fun rr3 G3 hr => ?_)
    obtain ⟨A3, W3, w3, ⟨L3, P3, rfl, hS3⟩, hy3, rfl, r3, rfl, h⟩ := hr
    refine ⟨r3, rfl, ?_⟩
    have hx3 := Xt.trans hx hy3
    exact qx_i hS3 hx3 h
  have h := h.2
  refine ⟨fun hc => ?_, ?_⟩
  · have h := h.1 hc
    exact qx_i hS hx h
  have h := h.2
  refine ⟨fun hc => ?_, ?_⟩
  · have h := h.1 hc
    exact qx_i hS hx h
  have h := h.2
  refine ⟨fun hc => ?_, ?_⟩
  · have h := h.1 hc
    exact qx_i hS hx h
  have h := h.2
  refine ⟨fun hc => ?_, ?_⟩
  · have h := h.1 hc
    refine ⟨fun hc => ?_, fun hc => ?_⟩
    · have h := h.1 hc
      exact qx_i hS hx h
    · have h := h.2 hc
      exact qx_i hS hx h
  have h := h.2
  refine ⟨fun hc => ?_, ?_⟩
  · have h := h.1 hc
    exact qx_i hS hx h
  have h := h.2
  refine ⟨fun hc => ?_, ?_⟩
  · have h := h.1 hc
    exact qx_i hS hx h
  have h := h.2
  refine ⟨fun hc => ?_, ?_⟩
  · have h := h.1 hc
    exact qx_i hS hx h
  have h := h.2
  refine ⟨fun hc => ?_, ?_⟩
  · have h := h.1 hc
    exact qx_i hS hx h
  have h := h.2
  refine ⟨fun hc => ?_, ?_⟩
  · have h := h.1 hc
    exact qx_i hS hx h
  have h := h.2
  refine ⟨fun hc => ?_, ?_⟩
  · have h := h.1 hc
    exact qx_i hS hx h
  have h := h.2
  intro q0 q1 q2 q3 q4 q5 q6 q7 q8 q9 q10 q11 q12
  have h := h q0 q1 q2 q3 q4 q5 q6 q7 q8 q9 q10 q11 q12
  refine ⟨fun hc => ?_, fun hc => ?_⟩
  · have h := h.1 hc
    exact qx_i hS hx h
  · have h := h.2 hc
    exact qx_i hS hx h
theorem w_X2_ofMany_0 {E : EE} {d : Nat} {V : VH} {K : Int32 → VH → Prop} {g : Nat} {x1 : Int32} {x2 : Int32} (hg : PG (vL V) g) (h0 : 0 < d) (h : (x1 = 22 → vMI E (d - 1) M_X2_repeated [sl g 9, wi x2] V (fun r1 V1 => K r1 V1)) ∧ ((x1 = 23 → vMI E (d - 1) M_X2_offRows [sl g 9, wi x2] V (fun r4 V4 => K r4 V4)) ∧ ((x1 = 24 → vMI E (d - 1) M_X2_outOfOrder [sl g 9, wi x2] V (fun r7 V7 => K r7 V7)) ∧ ((x1 = 25 → vMI E (d - 1) M_X2_offRound [sl g 9, wi x2] V (fun r10 V10 => K r10 V10)) ∧ ((x1 = 26 → vMI E (d - 1) M_X2_astray [sl g 9, wi x2] V (fun r13 V13 => K r13 V13)) ∧ ((x1 = 27 → vMI E (d - 1) M_X2_overload [sl g 9, wi x2] V (fun r16 V16 => K r16 V16)) ∧ ((¬ x1 = 22 → ¬ x1 = 23 → ¬ x1 = 24 → ¬ x1 = 25 → ¬ x1 = 26 → ¬ x1 = 27 → vMI E (d - 1) M_X2_overlaps [sl g 9, wi x2] V (fun r19 V19 => K r19 V19))))))))) : vMI E d M_X2_ofMany [sl g 9, wi x1, wi x2] V K := by
  intro G A hR
  obtain ⟨L, P, rfl, hS⟩ := hR
  have hx := Xt.refl (V := pl G A L P) (A := A)
  show wpM E d M_X2_ofMany [vr (A g 9), vi x1, vi x2] G _
  refine wpM_of mk_X2_ofMany (Nat.le_of_ble_eq_true rfl) ?_
  refine v_X2_ofMany_0 h0 ?_
  refine ⟨fun hc => ?_, ?_⟩
  · have h := h.1 hc
    refine ⟨hS.o (sP_9 hg), ?_⟩
    refine wpM.mono (h G A ⟨L, P, rfl, hS⟩) (fun rr1 G1 hr => ?_)
    obtain ⟨A1, W1, w1, ⟨L1, P1, rfl, hS1⟩, hy1, rfl, r1, rfl, h⟩ := hr
    refine ⟨r1, rfl, ?_⟩
    have hx1 := Xt.trans hx hy1
    have hg2 : PG L1 g := PG.up hy1 hg
    have ee3 : A1 g 9 = A g 9 := hy1.2 _ _ hg.1 (((nP_9 hS1 hg2)).trans ((nP_9 hS hg)).symm)
    try rw [← ee3]
    exact qx_i hS1 hx1 h
  have h := h.2
  refine ⟨fun hc => ?_, ?_⟩
  · have h := h.1 hc
    refine ⟨hS.o (sP_9 hg), ?_⟩
    refine wpM.mono (h G A ⟨L, P, rfl, hS⟩) (fun rr4 G4 hr => ?_)
    obtain ⟨A4, W4, w4, ⟨L4, P4, rfl, hS4⟩, hy4, rfl, r4, rfl, h⟩ := hr
    refine ⟨r4, rfl, ?_⟩
    have hx4 := Xt.trans hx hy4
    have hg5 : PG L4 g := PG.up hy4 hg
    have ee6 : A4 g 9 = A g 9 := hy4.2 _ _ hg.1 (((nP_9 hS4 hg5)).trans ((nP_9 hS hg)).symm)
    try rw [← ee6]
    exact qx_i hS4 hx4 h
  have h := h.2
  refine ⟨fun hc => ?_, ?_⟩
  · have h := h.1 hc
    refine ⟨hS.o (sP_9 hg), ?_⟩
    refine wpM.mono (h G A ⟨L, P, rfl, hS⟩) (fun rr7 G7 hr => ?_)
    obtain ⟨A7, W7, w7, ⟨L7, P7, rfl, hS7⟩, hy7, rfl, r7, rfl, h⟩ := hr
    refine ⟨r7, rfl, ?_⟩
    have hx7 := Xt.trans hx hy7
    have hg8 : PG L7 g := PG.up hy7 hg
    have ee9 : A7 g 9 = A g 9 := hy7.2 _ _ hg.1 (((nP_9 hS7 hg8)).trans ((nP_9 hS hg)).symm)
    try rw [← ee9]
    exact qx_i hS7 hx7 h
  have h := h.2
  refine ⟨fun hc => ?_, ?_⟩
  · have h := h.1 hc
    refine ⟨hS.o (sP_9 hg), ?_⟩
    refine wpM.mono (h G A ⟨L, P, rfl, hS⟩) (fun rr10 G10 hr => ?_)
    obtain ⟨A10, W10, w10, ⟨L10, P10, rfl, hS10⟩, hy10, rfl, r10, rfl, h⟩ := hr
    refine ⟨r10, rfl, ?_⟩
    have hx10 := Xt.trans hx hy10
    have hg11 : PG L10 g := PG.up hy10 hg
    have ee12 : A10 g 9 = A g 9 := hy10.2 _ _ hg.1 (((nP_9 hS10 hg11)).trans ((nP_9 hS hg)).symm)
    try rw [← ee12]
    exact qx_i hS10 hx10 h
  have h := h.2
  refine ⟨fun hc => ?_, ?_⟩
  · have h := h.1 hc
    refine ⟨hS.o (sP_9 hg), ?_⟩
    refine wpM.mono (h G A ⟨L, P, rfl, hS⟩) (fun rr13 G13 hr => ?_)
    obtain ⟨A13, W13, w13, ⟨L13, P13, rfl, hS13⟩, hy13, rfl, r13, rfl, h⟩ := hr
    refine ⟨r13, rfl, ?_⟩
    have hx13 := Xt.trans hx hy13
    have hg14 : PG L13 g := PG.up hy13 hg
    have ee15 : A13 g 9 = A g 9 := hy13.2 _ _ hg.1 (((nP_9 hS13 hg14)).trans ((nP_9 hS hg)).symm)
    try rw [← ee15]
    exact qx_i hS13 hx13 h
  have h := h.2
  refine ⟨fun hc => ?_, ?_⟩
  · have h := h.1 hc
    refine ⟨hS.o (sP_9 hg), ?_⟩
    refine wpM.mono (h G A ⟨L, P, rfl, hS⟩) (fun rr16 G16 hr => ?_)
    obtain ⟨A16, W16, w16, ⟨L16, P16, rfl, hS16⟩, hy16, rfl, r16, rfl, h⟩ := hr
    refine ⟨r16, rfl, ?_⟩
    have hx16 := Xt.trans hx hy16
    have hg17 : PG L16 g := PG.up hy16 hg
    have ee18 : A16 g 9 = A g 9 := hy16.2 _ _ hg.1 (((nP_9 hS16 hg17)).trans ((nP_9 hS hg)).symm)
    try rw [← ee18]
    exact qx_i hS16 hx16 h
  have h := h.2
  intro q0 q1 q2 q3 q4 q5
  have h := h q0 q1 q2 q3 q4 q5
  refine ⟨hS.o (sP_9 hg), ?_⟩
  refine wpM.mono (h G A ⟨L, P, rfl, hS⟩) (fun rr19 G19 hr => ?_)
  obtain ⟨A19, W19, w19, ⟨L19, P19, rfl, hS19⟩, hy19, rfl, r19, rfl, h⟩ := hr
  refine ⟨r19, rfl, ?_⟩
  have hx19 := Xt.trans hx hy19
  have hg20 : PG L19 g := PG.up hy19 hg
  have ee21 : A19 g 9 = A g 9 := hy19.2 _ _ hg.1 (((nP_9 hS19 hg20)).trans ((nP_9 hS hg)).symm)
  try rw [← ee21]
  exact qx_i hS19 hx19 h
theorem w_X2_overlaps_0 {E : EE} {d : Nat} {V : VH} {K : Int32 → VH → Prop} {g : Nat} {x1 : Int32} (hg : PG (vL V) g) (h0 : 0 < d) (h : vMI E (d - 1) M_X2_noteAt [sl g 9, wi x1] V (fun r1 V1 => vwp E d M_X2_overlaps 11 [some (sl g 9), some (wi x1), some (wi r1), some (wi 0), some (wi 0), none, none, none, none, none] [] V1 (zi K))) : vMI E d M_X2_overlaps [sl g 9, wi x1] V K := by
  intro G A hR
  obtain ⟨L, P, rfl, hS⟩ := hR
  have hx := Xt.refl (V := pl G A L P) (A := A)
  show wpM E d M_X2_overlaps [vr (A g 9), vi x1] G _
  refine wpM_of mk_X2_overlaps (Nat.le_of_ble_eq_true rfl) ?_
  refine v_X2_overlaps_0 h0 ?_
  refine ⟨hS.o (sP_9 hg), ?_⟩
  refine wpM.mono (h G A ⟨L, P, rfl, hS⟩) (fun rr1 G1 hr => ?_)
  obtain ⟨A1, W1, w1, ⟨L1, P1, rfl, hS1⟩, hy1, rfl, r1, rfl, h⟩ := hr
  refine ⟨r1, rfl, ?_⟩
  have hx1 := Xt.trans hx hy1
  have hg2 : PG L1 g := PG.up hy1 hg
  have ee3 : A1 g 9 = A g 9 := hy1.2 _ _ hg.1 (((nP_9 hS1 hg2)).trans ((nP_9 hS hg)).symm)
  try rw [← ee3]
  exact wp.mono (h G1 A1 ⟨L1, P1, rfl, hS1⟩) (fun r G' q => qx_trans hx1 q)
theorem w_X2_overlaps_11 {E : EE} {d : Nat} {V : VH} {K : Int32 → VH → Prop} {g : Nat} {x1 : Int32} {x2 : Int32} {x3 : Int32} {x4 : Int32} (hg : PG (vL V) g) (h : (x2 ≤ x4 → K x3 V) ∧ (¬ (x2 ≤ x4) → vwp E d M_X2_overlaps 33 [some (sl g 9), some (wi x1), some (wi x2), some (wi x3), some (wi x4), some (wi ((x1 + 1) + (4 * x4))), some (wi (x4 + 1)), none, none, none] [] V (zi K))) : vwp E d M_X2_overlaps 11 [some (sl g 9), some (wi x1), some (wi x2), some (wi x3), some (wi x4), none, none, none, none, none] [] V (zi K) := by
  intro G A hR
  obtain ⟨L, P, rfl, hS⟩ := hR
  have hx := Xt.refl (V := pl G A L P) (A := A)
  show wp E d M_X2_overlaps 11 [some (vr (A g 9)), some (vi x1), some (vi x2), some (vi x3), some (vi x4), none, none, none, none, none] [] G _
  refine v_X2_overlaps_11 ?_
  refine ⟨fun hc => ?_, fun hc => ?_⟩
  · have h := h.1 hc
    exact qx_i hS hx h
  · have h := h.2 hc
    exact wp.mono (h G A ⟨L, P, rfl, hS⟩) (fun r G' q => qx_trans hx q)
theorem w_X2_overlaps_33 {E : EE} {d : Nat} {V : VH} {K : Int32 → VH → Prop} {g : Nat} {x1 : Int32} {x2 : Int32} {x3 : Int32} {x4 : Int32} {x5 : Int32} {x6 : Int32} (hg : PG (vL V) g) (h0 : 0 < d) (h : (x2 ≤ x6 → vwp E d M_X2_overlaps 11 [some (sl g 9), some (wi x1), some (wi x2), some (wi x3), some (wi (x4 + 1)), none, none, none, none, none] [] V (zi K)) ∧ (¬ (x2 ≤ x6) → vMI E (d - 1) M_X2_valueAt [sl g 9, wi x5] V (fun r1 V1 => vMI E (d - 1) M_X2_valueAt [sl g 9, wi ((x1 + 1) + (4 * x6))] V1 (fun r4 V4 => vMI E (d - 1) M_X2_noteAt [sl g 9, wi (((x1 + 1) + (4 * x6)) + 2)] V4 (fun r7 V7 => ((r4 + r7) ≤ r1 → vwp E d M_X2_overlaps 101 [some (sl g 9), some (wi x1), some (wi x2), some (wi x3), some (wi x4), some (wi x5), some (wi x6), some (wi ((x1 + 1) + (4 * x6))), none, none] [] V7 (zi K)) ∧ (¬ ((r4 + r7) ≤ r1) → vMI E (d - 1) M_X2_valueAt [sl g 9, wi ((x1 + 1) + (4 * x6))] V7 (fun r10 V10 => vMI E (d - 1) M_X2_valueAt [sl g 9, wi x5] V10 (fun r13 V13 => vMI E (d - 1) M_X2_noteAt [sl g 9, wi (x5 + 2)] V13 (fun r16 V16 => ((r13 + r16) ≤ r10 → vwp E d M_X2_overlaps 101 [some (sl g 9), some (wi x1), some (wi x2), some (wi x3), some (wi x4), some (wi x5), some (wi x6), some (wi ((x1 + 1) + (4 * x6))), none, none] [] V16 (zi K)) ∧ (¬ ((r13 + r16) ≤ r10) → vwp E d M_X2_overlaps 102 [some (sl g 9), some (wi x1), some (wi x2), some (wi x3), some (wi x4), some (wi x5), some (wi x6), some (wi ((x1 + 1) + (4 * x6))), none, none] [wi 1] V16 (zi K))))))))))) : vwp E d M_X2_overlaps 33 [some (sl g 9), some (wi x1), some (wi x2), some (wi x3), some (wi x4), some (wi x5), some (wi x6), none, none, none] [] V (zi K) := by
  intro G A hR
  obtain ⟨L, P, rfl, hS⟩ := hR
  have hx := Xt.refl (V := pl G A L P) (A := A)
  show wp E d M_X2_overlaps 33 [some (vr (A g 9)), some (vi x1), some (vi x2), some (vi x3), some (vi x4), some (vi x5), some (vi x6), none, none, none] [] G _
  refine v_X2_overlaps_33 h0 ?_
  refine ⟨fun hc => ?_, fun hc => ?_⟩
  · have h := h.1 hc
    exact wp.mono (h G A ⟨L, P, rfl, hS⟩) (fun r G' q => qx_trans hx q)
  · have h := h.2 hc
    refine ⟨hS.o (sP_9 hg), ?_⟩
    refine wpM.mono (h G A ⟨L, P, rfl, hS⟩) (fun rr1 G1 hr => ?_)
    obtain ⟨A1, W1, w1, ⟨L1, P1, rfl, hS1⟩, hy1, rfl, r1, rfl, h⟩ := hr
    refine ⟨r1, rfl, ?_⟩
    have hx1 := Xt.trans hx hy1
    have hg2 : PG L1 g := PG.up hy1 hg
    have ee3 : A1 g 9 = A g 9 := hy1.2 _ _ hg.1 (((nP_9 hS1 hg2)).trans ((nP_9 hS hg)).symm)
    try rw [← ee3]
    refine ⟨hS1.o (sP_9 hg2), ?_⟩
    refine wpM.mono (h G1 A1 ⟨L1, P1, rfl, hS1⟩) (fun rr4 G4 hr => ?_)
    obtain ⟨A4, W4, w4, ⟨L4, P4, rfl, hS4⟩, hy4, rfl, r4, rfl, h⟩ := hr
    refine ⟨r4, rfl, ?_⟩
    have hx4 := Xt.trans hx1 hy4
    have hg5 : PG L4 g := PG.up hy4 hg2
    have ee6 : A4 g 9 = A1 g 9 := hy4.2 _ _ hg2.1 (((nP_9 hS4 hg5)).trans ((nP_9 hS1 hg2)).symm)
    try rw [← ee6]
    refine ⟨hS4.o (sP_9 hg5), ?_⟩
    refine wpM.mono (h G4 A4 ⟨L4, P4, rfl, hS4⟩) (fun rr7 G7 hr => ?_)
    obtain ⟨A7, W7, w7, ⟨L7, P7, rfl, hS7⟩, hy7, rfl, r7, rfl, h⟩ := hr
    refine ⟨r7, rfl, ?_⟩
    have hx7 := Xt.trans hx4 hy7
    have hg8 : PG L7 g := PG.up hy7 hg5
    have ee9 : A7 g 9 = A4 g 9 := hy7.2 _ _ hg5.1 (((nP_9 hS7 hg8)).trans ((nP_9 hS4 hg5)).symm)
    try rw [← ee9]
    refine ⟨fun hc => ?_, fun hc => ?_⟩
    · have h := h.1 hc
      exact wp.mono (h G7 A7 ⟨L7, P7, rfl, hS7⟩) (fun r G' q => qx_trans hx7 q)
    · have h := h.2 hc
      refine ⟨hS7.o (sP_9 hg8), ?_⟩
      refine wpM.mono (h G7 A7 ⟨L7, P7, rfl, hS7⟩) (fun rr10 G10 hr => ?_)
      obtain ⟨A10, W10, w10, ⟨L10, P10, rfl, hS10⟩, hy10, rfl, r10, rfl, h⟩ := hr
      refine ⟨r10, rfl, ?_⟩
      have hx10 := Xt.trans hx7 hy10
      have hg11 : PG L10 g := PG.up hy10 hg8
      have ee12 : A10 g 9 = A7 g 9 := hy10.2 _ _ hg8.1 (((nP_9 hS10 hg11)).trans ((nP_9 hS7 hg8)).symm)
      try rw [← ee12]
      refine ⟨hS10.o (sP_9 hg11), ?_⟩
      refine wpM.mono (h G10 A10 ⟨L10, P10, rfl, hS10⟩) (fun rr13 G13 hr => ?_)
      obtain ⟨A13, W13, w13, ⟨L13, P13, rfl, hS13⟩, hy13, rfl, r13, rfl, h⟩ := hr
      refine ⟨r13, rfl, ?_⟩
      have hx13 := Xt.trans hx10 hy13
      have hg14 : PG L13 g := PG.up hy13 hg11
      have ee15 : A13 g 9 = A10 g 9 := hy13.2 _ _ hg11.1 (((nP_9 hS13 hg14)).trans ((nP_9 hS10 hg11)).symm)
      try rw [← ee15]
      refine ⟨hS13.o (sP_9 hg14), ?_⟩
      refine wpM.mono (h G13 A13 ⟨L13, P13, rfl, hS13⟩) (fun rr16 G16 hr => ?_)
      obtain ⟨A16, W16, w16, ⟨L16, P16, rfl, hS16⟩, hy16, rfl, r16, rfl, h⟩ := hr
      refine ⟨r16, rfl, ?_⟩
      have hx16 := Xt.trans hx13 hy16
      have hg17 : PG L16 g := PG.up hy16 hg14
      have ee18 : A16 g 9 = A13 g 9 := hy16.2 _ _ hg14.1 (((nP_9 hS16 hg17)).trans ((nP_9 hS13 hg14)).symm)
      try rw [← ee18]
      refine ⟨fun hc => ?_, fun hc => ?_⟩
      · have h := h.1 hc
        exact wp.mono (h G16 A16 ⟨L16, P16, rfl, hS16⟩) (fun r G' q => qx_trans hx16 q)
      · have h := h.2 hc
        exact wp.mono (h G16 A16 ⟨L16, P16, rfl, hS16⟩) (fun r G' q => qx_trans hx16 q)
theorem w_X2_overlaps_101 {E : EE} {d : Nat} {V : VH} {K : Int32 → VH → Prop} {g : Nat} {x1 : Int32} {x2 : Int32} {x3 : Int32} {x4 : Int32} {x5 : Int32} {x6 : Int32} {x7 : Int32} (hg : PG (vL V) g) (h : vwp E d M_X2_overlaps 102 [some (sl g 9), some (wi x1), some (wi x2), some (wi x3), some (wi x4), some (wi x5), some (wi x6), some (wi x7), none, none] [wi 0] V (zi K)) : vwp E d M_X2_overlaps 101 [some (sl g 9), some (wi x1), some (wi x2), some (wi x3), some (wi x4), some (wi x5), some (wi x6), some (wi x7), none, none] [] V (zi K) := by
  intro G A hR
  obtain ⟨L, P, rfl, hS⟩ := hR
  have hx := Xt.refl (V := pl G A L P) (A := A)
  show wp E d M_X2_overlaps 101 [some (vr (A g 9)), some (vi x1), some (vi x2), some (vi x3), some (vi x4), some (vi x5), some (vi x6), some (vi x7), none, none] [] G _
  refine v_X2_overlaps_101 ?_
  exact wp.mono (h G A ⟨L, P, rfl, hS⟩) (fun r G' q => qx_trans hx q)
theorem w_X2_overlaps_102 {E : EE} {d : Nat} {V : VH} {K : Int32 → VH → Prop} {g : Nat} {x1 : Int32} {x2 : Int32} {x3 : Int32} {x4 : Int32} {x5 : Int32} {x6 : Int32} {x7 : Int32} {t0 : Int32} (hg : PG (vL V) g) (h0 : 0 < d) (h : vMI E (d - 1) M_X2_valueAt [sl g 9, wi (x5 + 1)] V (fun r1 V1 => vMI E (d - 1) M_X2_valueAt [sl g 9, wi (x7 + 1)] V1 (fun r4 V4 => vMI E (d - 1) M_X2_noteAt [sl g 9, wi (x7 + 3)] V4 (fun r7 V7 => ((r4 + r7) ≤ r1 → vwp E d M_X2_overlaps 164 [some (sl g 9), some (wi x1), some (wi x2), some (wi x3), some (wi x4), some (wi x5), some (wi x6), some (wi x7), some (wi t0), none] [] V7 (zi K)) ∧ (¬ ((r4 + r7) ≤ r1) → vMI E (d - 1) M_X2_valueAt [sl g 9, wi (x7 + 1)] V7 (fun r10 V10 => vMI E (d - 1) M_X2_valueAt [sl g 9, wi (x5 + 1)] V10 (fun r13 V13 => vMI E (d - 1) M_X2_noteAt [sl g 9, wi (x5 + 3)] V13 (fun r16 V16 => ((r13 + r16) ≤ r10 → vwp E d M_X2_overlaps 164 [some (sl g 9), some (wi x1), some (wi x2), some (wi x3), some (wi x4), some (wi x5), some (wi x6), some (wi x7), some (wi t0), none] [] V16 (zi K)) ∧ (¬ ((r13 + r16) ≤ r10) → vwp E d M_X2_overlaps 165 [some (sl g 9), some (wi x1), some (wi x2), some (wi x3), some (wi x4), some (wi x5), some (wi x6), some (wi x7), some (wi t0), none] [wi 1] V16 (zi K)))))))))) : vwp E d M_X2_overlaps 102 [some (sl g 9), some (wi x1), some (wi x2), some (wi x3), some (wi x4), some (wi x5), some (wi x6), some (wi x7), none, none] [wi t0] V (zi K) := by
  intro G A hR
  obtain ⟨L, P, rfl, hS⟩ := hR
  have hx := Xt.refl (V := pl G A L P) (A := A)
  show wp E d M_X2_overlaps 102 [some (vr (A g 9)), some (vi x1), some (vi x2), some (vi x3), some (vi x4), some (vi x5), some (vi x6), some (vi x7), none, none] [vi t0] G _
  refine v_X2_overlaps_102 h0 ?_
  refine ⟨hS.o (sP_9 hg), ?_⟩
  refine wpM.mono (h G A ⟨L, P, rfl, hS⟩) (fun rr1 G1 hr => ?_)
  obtain ⟨A1, W1, w1, ⟨L1, P1, rfl, hS1⟩, hy1, rfl, r1, rfl, h⟩ := hr
  refine ⟨r1, rfl, ?_⟩
  have hx1 := Xt.trans hx hy1
  have hg2 : PG L1 g := PG.up hy1 hg
  have ee3 : A1 g 9 = A g 9 := hy1.2 _ _ hg.1 (((nP_9 hS1 hg2)).trans ((nP_9 hS hg)).symm)
  try rw [← ee3]
  refine ⟨hS1.o (sP_9 hg2), ?_⟩
  refine wpM.mono (h G1 A1 ⟨L1, P1, rfl, hS1⟩) (fun rr4 G4 hr => ?_)
  obtain ⟨A4, W4, w4, ⟨L4, P4, rfl, hS4⟩, hy4, rfl, r4, rfl, h⟩ := hr
  refine ⟨r4, rfl, ?_⟩
  have hx4 := Xt.trans hx1 hy4
  have hg5 : PG L4 g := PG.up hy4 hg2
  have ee6 : A4 g 9 = A1 g 9 := hy4.2 _ _ hg2.1 (((nP_9 hS4 hg5)).trans ((nP_9 hS1 hg2)).symm)
  try rw [← ee6]
  refine ⟨hS4.o (sP_9 hg5), ?_⟩
  refine wpM.mono (h G4 A4 ⟨L4, P4, rfl, hS4⟩) (fun rr7 G7 hr => ?_)
  obtain ⟨A7, W7, w7, ⟨L7, P7, rfl, hS7⟩, hy7, rfl, r7, rfl, h⟩ := hr
  refine ⟨r7, rfl, ?_⟩
  have hx7 := Xt.trans hx4 hy7
  have hg8 : PG L7 g := PG.up hy7 hg5
  have ee9 : A7 g 9 = A4 g 9 := hy7.2 _ _ hg5.1 (((nP_9 hS7 hg8)).trans ((nP_9 hS4 hg5)).symm)
  try rw [← ee9]
  refine ⟨fun hc => ?_, fun hc => ?_⟩
  · have h := h.1 hc
    exact wp.mono (h G7 A7 ⟨L7, P7, rfl, hS7⟩) (fun r G' q => qx_trans hx7 q)
  · have h := h.2 hc
    refine ⟨hS7.o (sP_9 hg8), ?_⟩
    refine wpM.mono (h G7 A7 ⟨L7, P7, rfl, hS7⟩) (fun rr10 G10 hr => ?_)
    obtain ⟨A10, W10, w10, ⟨L10, P10, rfl, hS10⟩, hy10, rfl, r10, rfl, h⟩ := hr
    refine ⟨r10, rfl, ?_⟩
    have hx10 := Xt.trans hx7 hy10
    have hg11 : PG L10 g := PG.up hy10 hg8
    have ee12 : A10 g 9 = A7 g 9 := hy10.2 _ _ hg8.1 (((nP_9 hS10 hg11)).trans ((nP_9 hS7 hg8)).symm)
    try rw [← ee12]
    refine ⟨hS10.o (sP_9 hg11), ?_⟩
    refine wpM.mono (h G10 A10 ⟨L10, P10, rfl, hS10⟩) (fun rr13 G13 hr => ?_)
    obtain ⟨A13, W13, w13, ⟨L13, P13, rfl, hS13⟩, hy13, rfl, r13, rfl, h⟩ := hr
    refine ⟨r13, rfl, ?_⟩
    have hx13 := Xt.trans hx10 hy13
    have hg14 : PG L13 g := PG.up hy13 hg11
    have ee15 : A13 g 9 = A10 g 9 := hy13.2 _ _ hg11.1 (((nP_9 hS13 hg14)).trans ((nP_9 hS10 hg11)).symm)
    try rw [← ee15]
    refine ⟨hS13.o (sP_9 hg14), ?_⟩
    refine wpM.mono (h G13 A13 ⟨L13, P13, rfl, hS13⟩) (fun rr16 G16 hr => ?_)
    obtain ⟨A16, W16, w16, ⟨L16, P16, rfl, hS16⟩, hy16, rfl, r16, rfl, h⟩ := hr
    refine ⟨r16, rfl, ?_⟩
    have hx16 := Xt.trans hx13 hy16
    have hg17 : PG L16 g := PG.up hy16 hg14
    have ee18 : A16 g 9 = A13 g 9 := hy16.2 _ _ hg14.1 (((nP_9 hS16 hg17)).trans ((nP_9 hS13 hg14)).symm)
    try rw [← ee18]
    refine ⟨fun hc => ?_, fun hc => ?_⟩
    · have h := h.1 hc
      exact wp.mono (h G16 A16 ⟨L16, P16, rfl, hS16⟩) (fun r G' q => qx_trans hx16 q)
    · have h := h.2 hc
      exact wp.mono (h G16 A16 ⟨L16, P16, rfl, hS16⟩) (fun r G' q => qx_trans hx16 q)
theorem w_X2_overlaps_164 {E : EE} {d : Nat} {V : VH} {K : Int32 → VH → Prop} {g : Nat} {x1 : Int32} {x2 : Int32} {x3 : Int32} {x4 : Int32} {x5 : Int32} {x6 : Int32} {x7 : Int32} {x8 : Int32} (hg : PG (vL V) g) (h : vwp E d M_X2_overlaps 165 [some (sl g 9), some (wi x1), some (wi x2), some (wi x3), some (wi x4), some (wi x5), some (wi x6), some (wi x7), some (wi x8), none] [wi 0] V (zi K)) : vwp E d M_X2_overlaps 164 [some (sl g 9), some (wi x1), some (wi x2), some (wi x3), some (wi x4), some (wi x5), some (wi x6), some (wi x7), some (wi x8), none] [] V (zi K) := by
  intro G A hR
  obtain ⟨L, P, rfl, hS⟩ := hR
  have hx := Xt.refl (V := pl G A L P) (A := A)
  show wp E d M_X2_overlaps 164 [some (vr (A g 9)), some (vi x1), some (vi x2), some (vi x3), some (vi x4), some (vi x5), some (vi x6), some (vi x7), some (vi x8), none] [] G _
  refine v_X2_overlaps_164 ?_
  exact wp.mono (h G A ⟨L, P, rfl, hS⟩) (fun r G' q => qx_trans hx q)
theorem w_X2_overlaps_165 {E : EE} {d : Nat} {V : VH} {K : Int32 → VH → Prop} {g : Nat} {x1 : Int32} {x2 : Int32} {x3 : Int32} {x4 : Int32} {x5 : Int32} {x6 : Int32} {x7 : Int32} {x8 : Int32} {t0 : Int32} (hg : PG (vL V) g) (h : (x8 = 0 → vwp E d M_X2_overlaps 180 [some (sl g 9), some (wi x1), some (wi x2), some (wi x3), some (wi x4), some (wi x5), some (wi x6), some (wi x7), some (wi x8), some (wi t0)] [] V (zi K)) ∧ (¬ (x8 = 0) → (t0 = 0 → vwp E d M_X2_overlaps 180 [some (sl g 9), some (wi x1), some (wi x2), some (wi x3), some (wi x4), some (wi x5), some (wi x6), some (wi x7), some (wi x8), some (wi t0)] [] V (zi K)) ∧ (¬ (t0 = 0) → vwp E d M_X2_overlaps 180 [some (sl g 9), some (wi x1), some (wi x2), some (wi (x3 + 1)), some (wi x4), some (wi x5), some (wi x6), some (wi x7), some (wi x8), some (wi t0)] [] V (zi K)))) : vwp E d M_X2_overlaps 165 [some (sl g 9), some (wi x1), some (wi x2), some (wi x3), some (wi x4), some (wi x5), some (wi x6), some (wi x7), some (wi x8), none] [wi t0] V (zi K) := by
  intro G A hR
  obtain ⟨L, P, rfl, hS⟩ := hR
  have hx := Xt.refl (V := pl G A L P) (A := A)
  show wp E d M_X2_overlaps 165 [some (vr (A g 9)), some (vi x1), some (vi x2), some (vi x3), some (vi x4), some (vi x5), some (vi x6), some (vi x7), some (vi x8), none] [vi t0] G _
  refine v_X2_overlaps_165 ?_
  refine ⟨fun hc => ?_, fun hc => ?_⟩
  · have h := h.1 hc
    exact wp.mono (h G A ⟨L, P, rfl, hS⟩) (fun r G' q => qx_trans hx q)
  · have h := h.2 hc
    refine ⟨fun hc => ?_, fun hc => ?_⟩
    · have h := h.1 hc
      exact wp.mono (h G A ⟨L, P, rfl, hS⟩) (fun r G' q => qx_trans hx q)
    · have h := h.2 hc
      exact wp.mono (h G A ⟨L, P, rfl, hS⟩) (fun r G' q => qx_trans hx q)
theorem w_X2_overlaps_180 {E : EE} {d : Nat} {V : VH} {K : Int32 → VH → Prop} {g : Nat} {x1 : Int32} {x2 : Int32} {x3 : Int32} {x4 : Int32} {x5 : Int32} {x6 : Int32} {x7 : Int32} {x8 : Int32} {x9 : Int32} (hg : PG (vL V) g) (h : vwp E d M_X2_overlaps 33 [some (sl g 9), some (wi x1), some (wi x2), some (wi x3), some (wi x4), some (wi x5), some (wi (x6 + 1)), none, none, none] [] V (zi K)) : vwp E d M_X2_overlaps 180 [some (sl g 9), some (wi x1), some (wi x2), some (wi x3), some (wi x4), some (wi x5), some (wi x6), some (wi x7), some (wi x8), some (wi x9)] [] V (zi K) := by
  intro G A hR
  obtain ⟨L, P, rfl, hS⟩ := hR
  have hx := Xt.refl (V := pl G A L P) (A := A)
  show wp E d M_X2_overlaps 180 [some (vr (A g 9)), some (vi x1), some (vi x2), some (vi x3), some (vi x4), some (vi x5), some (vi x6), some (vi x7), some (vi x8), some (vi x9)] [] G _
  refine v_X2_overlaps_180 ?_
  exact wp.mono (h G A ⟨L, P, rfl, hS⟩) (fun r G' q => qx_trans hx q)
theorem w_X2_valueAt_0 {E : EE} {d : Nat} {V : VH} {K : Int32 → VH → Prop} {g : Nat} {x1 : Int32} (hg : PG (vL V) g) (h : (x1 < 0 → K 0 V) ∧ (¬ (x1 < 0) → ((vI V g 9 3) ≤ x1 → K 0 V) ∧ (¬ ((vI V g 9 3) ≤ x1) → (x1 < (nI (vN V g 16)) → vp_in x1 (vN V g 16) ∧ (((vI V g 16 (Int32.toNatClampNeg x1)) < 0 → K 0 V) ∧ (¬ ((vI V g 16 (Int32.toNatClampNeg x1)) < 0) → ((nI 12) ≤ (vI V g 16 (Int32.toNatClampNeg x1)) → K 0 V) ∧ (¬ ((nI 12) ≤ (vI V g 16 (Int32.toNatClampNeg x1))) → vp_in (vI V g 16 (Int32.toNatClampNeg x1)) 12 ∧ (K (vI V g 18 (Int32.toNatClampNeg (vI V g 16 (Int32.toNatClampNeg x1)))) V))))) ∧ (¬ (x1 < (nI (vN V g 16))) → K 0 V)))) : vMI E d M_X2_valueAt [sl g 9, wi x1] V K := by
  intro G A hR
  obtain ⟨L, P, rfl, hS⟩ := hR
  have hx := Xt.refl (V := pl G A L P) (A := A)
  show wpM E d M_X2_valueAt [vr (A g 9), vi x1] G _
  refine wpM_of mk_X2_valueAt (Nat.le_of_ble_eq_true rfl) ?_
  refine v_X2_valueAt_0 ?_
  refine ⟨fun hc => ?_, fun hc => ?_⟩
  · have h := h.1 hc
    exact qx_i hS hx h
  · have h := h.2 hc
    refine ⟨hS.o (sP_9 hg), ?_⟩
    refine ⟨fun hc => ?_, fun hc => ?_⟩
    · have h := h.1 hc
      exact qx_i hS hx h
    · have h := h.2 hc
      rw [lP_9_11 hS hg]
      refine ⟨hS.o (sP_16 hg), ?_⟩
      refine ⟨fun hc => ?_, fun hc => ?_⟩
      · have h := h.1 hc
        obtain ⟨hi1, h⟩ := h
        refine ⟨hi1, ?_⟩
        refine ⟨fun hc => ?_, fun hc => ?_⟩
        · have h := h.1 hc
          exact qx_i hS hx h
        · have h := h.2 hc
          rw [lP_9_14 hS hg]
          refine ⟨hS.o (sP_18 hg), ?_⟩
          rw [(nP_18 hS hg)]
          refine ⟨fun hc => ?_, fun hc => ?_⟩
          · have h := h.1 hc
            exact qx_i hS hx h
          · have h := h.2 hc
            obtain ⟨hi2, h⟩ := h
            refine ⟨by first | (rw [(nP_18 hS hg)]; exact hi2) | exact (congrArg (vp_in _) (nP_18 hS hg)).mpr hi2 | exact hi2, ?_⟩
            exact qx_i hS hx h
      · have h := h.2 hc
        exact qx_i hS hx h
theorem w_X2_overload_0 {E : EE} {d : Nat} {V : VH} {K : Int32 → VH → Prop} {g : Nat} {x1 : Int32} (hg : PG (vL V) g) (h0 : 0 < d) (h : vMI E (d - 1) M_X2_noteAt [sl g 9, wi (x1 + 1)] V (fun r1 V1 => vwp E d M_X2_overload 13 [some (sl g 9), some (wi x1), some (wi r1), some (wi 0), some (wi 0), none, none, none, none, none] [] V1 (zi K))) : vMI E d M_X2_overload [sl g 9, wi x1] V K := by
  intro G A hR
  obtain ⟨L, P, rfl, hS⟩ := hR
  have hx := Xt.refl (V := pl G A L P) (A := A)
  show wpM E d M_X2_overload [vr (A g 9), vi x1] G _
  refine wpM_of mk_X2_overload (Nat.le_of_ble_eq_true rfl) ?_
  refine v_X2_overload_0 h0 ?_
  refine ⟨hS.o (sP_9 hg), ?_⟩
  refine wpM.mono (h G A ⟨L, P, rfl, hS⟩) (fun rr1 G1 hr => ?_)
  obtain ⟨A1, W1, w1, ⟨L1, P1, rfl, hS1⟩, hy1, rfl, r1, rfl, h⟩ := hr
  refine ⟨r1, rfl, ?_⟩
  have hx1 := Xt.trans hx hy1
  have hg2 : PG L1 g := PG.up hy1 hg
  have ee3 : A1 g 9 = A g 9 := hy1.2 _ _ hg.1 (((nP_9 hS1 hg2)).trans ((nP_9 hS hg)).symm)
  try rw [← ee3]
  exact wp.mono (h G1 A1 ⟨L1, P1, rfl, hS1⟩) (fun r G' q => qx_trans hx1 q)
theorem w_X2_overload_13 {E : EE} {d : Nat} {V : VH} {K : Int32 → VH → Prop} {g : Nat} {x1 : Int32} {x2 : Int32} {x3 : Int32} {x4 : Int32} (hg : PG (vL V) g) (h0 : 0 < d) (h : (x2 ≤ x4 → vMI E (d - 1) M_X2_noteAt [sl g 9, wi x1] V (fun r1 V1 => K (imax 0 (x3 - r1)) V1)) ∧ (¬ (x2 ≤ x4) → vMI E (d - 1) M_X2_valueAt [sl g 9, wi ((x1 + 2) + (3 * x4))] V (fun r4 V4 => vwp E d M_X2_overload 39 [some (sl g 9), some (wi x1), some (wi x2), some (wi x3), some (wi x4), some (wi r4), some (wi 0), some (wi 0), none, none] [] V4 (zi K)))) : vwp E d M_X2_overload 13 [some (sl g 9), some (wi x1), some (wi x2), some (wi x3), some (wi x4), none, none, none, none, none] [] V (zi K) := by
  intro G A hR
  obtain ⟨L, P, rfl, hS⟩ := hR
  have hx := Xt.refl (V := pl G A L P) (A := A)
  show wp E d M_X2_overload 13 [some (vr (A g 9)), some (vi x1), some (vi x2), some (vi x3), some (vi x4), none, none, none, none, none] [] G _
  refine v_X2_overload_13 h0 ?_
  refine ⟨fun hc => ?_, fun hc => ?_⟩
  · have h := h.1 hc
    refine ⟨hS.o (sP_9 hg), ?_⟩
    refine wpM.mono (h G A ⟨L, P, rfl, hS⟩) (fun rr1 G1 hr => ?_)
    obtain ⟨A1, W1, w1, ⟨L1, P1, rfl, hS1⟩, hy1, rfl, r1, rfl, h⟩ := hr
    refine ⟨r1, rfl, ?_⟩
    have hx1 := Xt.trans hx hy1
    have hg2 : PG L1 g := PG.up hy1 hg
    have ee3 : A1 g 9 = A g 9 := hy1.2 _ _ hg.1 (((nP_9 hS1 hg2)).trans ((nP_9 hS hg)).symm)
    try rw [← ee3]
    exact qx_i hS1 hx1 h
  · have h := h.2 hc
    refine ⟨hS.o (sP_9 hg), ?_⟩
    refine wpM.mono (h G A ⟨L, P, rfl, hS⟩) (fun rr4 G4 hr => ?_)
    obtain ⟨A4, W4, w4, ⟨L4, P4, rfl, hS4⟩, hy4, rfl, r4, rfl, h⟩ := hr
    refine ⟨r4, rfl, ?_⟩
    have hx4 := Xt.trans hx hy4
    have hg5 : PG L4 g := PG.up hy4 hg
    have ee6 : A4 g 9 = A g 9 := hy4.2 _ _ hg.1 (((nP_9 hS4 hg5)).trans ((nP_9 hS hg)).symm)
    try rw [← ee6]
    exact wp.mono (h G4 A4 ⟨L4, P4, rfl, hS4⟩) (fun r G' q => qx_trans hx4 q)
theorem w_X2_overload_39 {E : EE} {d : Nat} {V : VH} {K : Int32 → VH → Prop} {g : Nat} {x1 : Int32} {x2 : Int32} {x3 : Int32} {x4 : Int32} {x5 : Int32} {x6 : Int32} {x7 : Int32} (hg : PG (vL V) g) (h0 : 0 < d) (h : (x2 ≤ x7 → vwp E d M_X2_overload 13 [some (sl g 9), some (wi x1), some (wi x2), some (wi (imax x3 x6)), some (wi (x4 + 1)), none, none, none, none, none] [] V (zi K)) ∧ (¬ (x2 ≤ x7) → vMI E (d - 1) M_X2_valueAt [sl g 9, wi ((x1 + 2) + (3 * x7))] V (fun r1 V1 => (x5 < r1 → vwp E d M_X2_overload 99 [some (sl g 9), some (wi x1), some (wi x2), some (wi x3), some (wi x4), some (wi x5), some (wi x6), some (wi x7), some (wi ((x1 + 2) + (3 * x7))), some (wi r1)] [] V1 (zi K)) ∧ (¬ (x5 < r1) → vMI E (d - 1) M_X2_noteAt [sl g 9, wi (((x1 + 2) + (3 * x7)) + 1)] V1 (fun r4 V4 => ((r1 + r4) ≤ x5 → vwp E d M_X2_overload 99 [some (sl g 9), some (wi x1), some (wi x2), some (wi x3), some (wi x4), some (wi x5), some (wi x6), some (wi x7), some (wi ((x1 + 2) + (3 * x7))), some (wi r1)] [] V4 (zi K)) ∧ (¬ ((r1 + r4) ≤ x5) → vMI E (d - 1) M_X2_noteAt [sl g 9, wi (((x1 + 2) + (3 * x7)) + 2)] V4 (fun r7 V7 => vwp E d M_X2_overload 99 [some (sl g 9), some (wi x1), some (wi x2), some (wi x3), some (wi x4), some (wi x5), some (wi (x6 + r7)), some (wi x7), some (wi ((x1 + 2) + (3 * x7))), some (wi r1)] [] V7 (zi K)))))))) : vwp E d M_X2_overload 39 [some (sl g 9), some (wi x1), some (wi x2), some (wi x3), some (wi x4), some (wi x5), some (wi x6), some (wi x7), none, none] [] V (zi K) := by
  intro G A hR
  obtain ⟨L, P, rfl, hS⟩ := hR
  have hx := Xt.refl (V := pl G A L P) (A := A)
  show wp E d M_X2_overload 39 [some (vr (A g 9)), some (vi x1), some (vi x2), some (vi x3), some (vi x4), some (vi x5), some (vi x6), some (vi x7), none, none] [] G _
  refine v_X2_overload_39 h0 ?_
  refine ⟨fun hc => ?_, fun hc => ?_⟩
  · have h := h.1 hc
    exact wp.mono (h G A ⟨L, P, rfl, hS⟩) (fun r G' q => qx_trans hx q)
  · have h := h.2 hc
    refine ⟨hS.o (sP_9 hg), ?_⟩
    refine wpM.mono (h G A ⟨L, P, rfl, hS⟩) (fun rr1 G1 hr => ?_)
    obtain ⟨A1, W1, w1, ⟨L1, P1, rfl, hS1⟩, hy1, rfl, r1, rfl, h⟩ := hr
    refine ⟨r1, rfl, ?_⟩
    have hx1 := Xt.trans hx hy1
    have hg2 : PG L1 g := PG.up hy1 hg
    have ee3 : A1 g 9 = A g 9 := hy1.2 _ _ hg.1 (((nP_9 hS1 hg2)).trans ((nP_9 hS hg)).symm)
    try rw [← ee3]
    refine ⟨fun hc => ?_, fun hc => ?_⟩
    · have h := h.1 hc
      exact wp.mono (h G1 A1 ⟨L1, P1, rfl, hS1⟩) (fun r G' q => qx_trans hx1 q)
    · have h := h.2 hc
      refine ⟨hS1.o (sP_9 hg2), ?_⟩
      refine wpM.mono (h G1 A1 ⟨L1, P1, rfl, hS1⟩) (fun rr4 G4 hr => ?_)
      obtain ⟨A4, W4, w4, ⟨L4, P4, rfl, hS4⟩, hy4, rfl, r4, rfl, h⟩ := hr
      refine ⟨r4, rfl, ?_⟩
      have hx4 := Xt.trans hx1 hy4
      have hg5 : PG L4 g := PG.up hy4 hg2
      have ee6 : A4 g 9 = A1 g 9 := hy4.2 _ _ hg2.1 (((nP_9 hS4 hg5)).trans ((nP_9 hS1 hg2)).symm)
      try rw [← ee6]
      refine ⟨fun hc => ?_, fun hc => ?_⟩
      · have h := h.1 hc
        exact wp.mono (h G4 A4 ⟨L4, P4, rfl, hS4⟩) (fun r G' q => qx_trans hx4 q)
      · have h := h.2 hc
        refine ⟨hS4.o (sP_9 hg5), ?_⟩
        refine wpM.mono (h G4 A4 ⟨L4, P4, rfl, hS4⟩) (fun rr7 G7 hr => ?_)
        obtain ⟨A7, W7, w7, ⟨L7, P7, rfl, hS7⟩, hy7, rfl, r7, rfl, h⟩ := hr
        refine ⟨r7, rfl, ?_⟩
        have hx7 := Xt.trans hx4 hy7
        have hg8 : PG L7 g := PG.up hy7 hg5
        have ee9 : A7 g 9 = A4 g 9 := hy7.2 _ _ hg5.1 (((nP_9 hS7 hg8)).trans ((nP_9 hS4 hg5)).symm)
        try rw [← ee9]
        exact wp.mono (h G7 A7 ⟨L7, P7, rfl, hS7⟩) (fun r G' q => qx_trans hx7 q)
theorem w_X2_overload_99 {E : EE} {d : Nat} {V : VH} {K : Int32 → VH → Prop} {g : Nat} {x1 : Int32} {x2 : Int32} {x3 : Int32} {x4 : Int32} {x5 : Int32} {x6 : Int32} {x7 : Int32} {x8 : Int32} {x9 : Int32} (hg : PG (vL V) g) (h : vwp E d M_X2_overload 39 [some (sl g 9), some (wi x1), some (wi x2), some (wi x3), some (wi x4), some (wi x5), some (wi x6), some (wi (x7 + 1)), none, none] [] V (zi K)) : vwp E d M_X2_overload 99 [some (sl g 9), some (wi x1), some (wi x2), some (wi x3), some (wi x4), some (wi x5), some (wi x6), some (wi x7), some (wi x8), some (wi x9)] [] V (zi K) := by
  intro G A hR
  obtain ⟨L, P, rfl, hS⟩ := hR
  have hx := Xt.refl (V := pl G A L P) (A := A)
  show wp E d M_X2_overload 99 [some (vr (A g 9)), some (vi x1), some (vi x2), some (vi x3), some (vi x4), some (vi x5), some (vi x6), some (vi x7), some (vi x8), some (vi x9)] [] G _
  refine v_X2_overload_99 ?_
  exact wp.mono (h G A ⟨L, P, rfl, hS⟩) (fun r G' q => qx_trans hx q)
theorem w_X2_astray_0 {E : EE} {d : Nat} {V : VH} {K : Int32 → VH → Prop} {g : Nat} {x1 : Int32} (hg : PG (vL V) g) (h0 : 0 < d) (h : vMI E (d - 1) M_X2_noteAt [sl g 9, wi x1] V (fun r1 V1 => vMI E (d - 1) M_X2_noteAt [sl g 9, wi ((x1 + 1) + r1)] V1 (fun r4 V4 => vwp E d M_X2_astray 35 [some (sl g 9), some (wi x1), some (wi r1), some (wi ((x1 + 1) + r1)), some (wi r4), some (wi ((((x1 + 1) + r1) + 1) + (3 * r4))), some (wi 0), some (wi 1), none, none, none] [] V4 (zi K)))) : vMI E d M_X2_astray [sl g 9, wi x1] V K := by
  intro G A hR
  obtain ⟨L, P, rfl, hS⟩ := hR
  have hx := Xt.refl (V := pl G A L P) (A := A)
  show wpM E d M_X2_astray [vr (A g 9), vi x1] G _
  refine wpM_of mk_X2_astray (Nat.le_of_ble_eq_true rfl) ?_
  refine v_X2_astray_0 h0 ?_
  refine ⟨hS.o (sP_9 hg), ?_⟩
  refine wpM.mono (h G A ⟨L, P, rfl, hS⟩) (fun rr1 G1 hr => ?_)
  obtain ⟨A1, W1, w1, ⟨L1, P1, rfl, hS1⟩, hy1, rfl, r1, rfl, h⟩ := hr
  refine ⟨r1, rfl, ?_⟩
  have hx1 := Xt.trans hx hy1
  have hg2 : PG L1 g := PG.up hy1 hg
  have ee3 : A1 g 9 = A g 9 := hy1.2 _ _ hg.1 (((nP_9 hS1 hg2)).trans ((nP_9 hS hg)).symm)
  try rw [← ee3]
  refine ⟨hS1.o (sP_9 hg2), ?_⟩
  refine wpM.mono (h G1 A1 ⟨L1, P1, rfl, hS1⟩) (fun rr4 G4 hr => ?_)
  obtain ⟨A4, W4, w4, ⟨L4, P4, rfl, hS4⟩, hy4, rfl, r4, rfl, h⟩ := hr
  refine ⟨r4, rfl, ?_⟩
  have hx4 := Xt.trans hx1 hy4
  have hg5 : PG L4 g := PG.up hy4 hg2
  have ee6 : A4 g 9 = A1 g 9 := hy4.2 _ _ hg2.1 (((nP_9 hS4 hg5)).trans ((nP_9 hS1 hg2)).symm)
  try rw [← ee6]
  exact wp.mono (h G4 A4 ⟨L4, P4, rfl, hS4⟩) (fun r G' q => qx_trans hx4 q)
theorem w_X2_astray_35 {E : EE} {d : Nat} {V : VH} {K : Int32 → VH → Prop} {g : Nat} {x1 : Int32} {x2 : Int32} {x3 : Int32} {x4 : Int32} {x5 : Int32} {x6 : Int32} {x7 : Int32} (hg : PG (vL V) g) (h : (x2 < x7 → vwp E d M_X2_astray 135 [some (sl g 9), some (wi x1), some (wi x2), some (wi x3), some (wi x4), some (wi x5), some (wi x6), some (wi 1), none, none, none] [] V (zi K)) ∧ (¬ (x2 < x7) → vwp E d M_X2_astray 47 [some (sl g 9), some (wi x1), some (wi x2), some (wi x3), some (wi x4), some (wi x5), some (wi x6), some (wi x7), some (wi (-1)), some (wi 0), none] [] V (zi K))) : vwp E d M_X2_astray 35 [some (sl g 9), some (wi x1), some (wi x2), some (wi x3), some (wi x4), some (wi x5), some (wi x6), some (wi x7), none, none, none] [] V (zi K) := by
  intro G A hR
  obtain ⟨L, P, rfl, hS⟩ := hR
  have hx := Xt.refl (V := pl G A L P) (A := A)
  show wp E d M_X2_astray 35 [some (vr (A g 9)), some (vi x1), some (vi x2), some (vi x3), some (vi x4), some (vi x5), some (vi x6), some (vi x7), none, none, none] [] G _
  refine v_X2_astray_35 ?_
  refine ⟨fun hc => ?_, fun hc => ?_⟩
  · have h := h.1 hc
    exact wp.mono (h G A ⟨L, P, rfl, hS⟩) (fun r G' q => qx_trans hx q)
  · have h := h.2 hc
    exact wp.mono (h G A ⟨L, P, rfl, hS⟩) (fun r G' q => qx_trans hx q)
theorem w_X2_astray_47 {E : EE} {d : Nat} {V : VH} {K : Int32 → VH → Prop} {g : Nat} {x1 : Int32} {x2 : Int32} {x3 : Int32} {x4 : Int32} {x5 : Int32} {x6 : Int32} {x7 : Int32} {x8 : Int32} {x9 : Int32} (hg : PG (vL V) g) (h0 : 0 < d) (h : (x4 ≤ x9 → vwp E d M_X2_astray 115 [some (sl g 9), some (wi x1), some (wi x2), some (wi x3), some (wi x4), some (wi x5), some (wi x6), some (wi x7), some (wi x8), some (wi x9), none] [] V (zi K)) ∧ (¬ (x4 ≤ x9) → (0 ≤ x8 → vwp E d M_X2_astray 115 [some (sl g 9), some (wi x1), some (wi x2), some (wi x3), some (wi x4), some (wi x5), some (wi x6), some (wi x7), some (wi x8), some (wi x9), none] [] V (zi K)) ∧ (¬ (0 ≤ x8) → vMI E (d - 1) M_X2_noteAt [sl g 9, wi ((x3 + 1) + (3 * x9))] V (fun r1 V1 => (¬ r1 = x6 → vwp E d M_X2_astray 109 [some (sl g 9), some (wi x1), some (wi x2), some (wi x3), some (wi x4), some (wi x5), some (wi x6), some (wi x7), some (wi x8), some (wi x9), some (wi ((x3 + 1) + (3 * x9)))] [] V1 (zi K)) ∧ (r1 = x6 → vMI E (d - 1) M_X2_noteAt [sl g 9, wi (((x3 + 1) + (3 * x9)) + 1)] V1 (fun r4 V4 => vMI E (d - 1) M_X2_valueAt [sl g 9, wi (x1 + x7)] V4 (fun r7 V7 => (¬ r4 = r7 → vwp E d M_X2_astray 109 [some (sl g 9), some (wi x1), some (wi x2), some (wi x3), some (wi x4), some (wi x5), some (wi x6), some (wi x7), some (wi x8), some (wi x9), some (wi ((x3 + 1) + (3 * x9)))] [] V7 (zi K)) ∧ (r4 = r7 → vMI E (d - 1) M_X2_noteAt [sl g 9, wi (((x3 + 1) + (3 * x9)) + 2)] V7 (fun r10 V10 => vwp E d M_X2_astray 109 [some (sl g 9), some (wi x1), some (wi x2), some (wi x3), some (wi x4), some (wi x5), some (wi x6), some (wi x7), some (wi r10), some (wi x9), some (wi ((x3 + 1) + (3 * x9)))] [] V10 (zi K)))))))))) : vwp E d M_X2_astray 47 [some (sl g 9), some (wi x1), some (wi x2), some (wi x3), some (wi x4), some (wi x5), some (wi x6), some (wi x7), some (wi x8), some (wi x9), none] [] V (zi K) := by
  intro G A hR
  obtain ⟨L, P, rfl, hS⟩ := hR
  have hx := Xt.refl (V := pl G A L P) (A := A)
  show wp E d M_X2_astray 47 [some (vr (A g 9)), some (vi x1), some (vi x2), some (vi x3), some (vi x4), some (vi x5), some (vi x6), some (vi x7), some (vi x8), some (vi x9), none] [] G _
  refine v_X2_astray_47 h0 ?_
  refine ⟨fun hc => ?_, fun hc => ?_⟩
  · have h := h.1 hc
    exact wp.mono (h G A ⟨L, P, rfl, hS⟩) (fun r G' q => qx_trans hx q)
  · have h := h.2 hc
    refine ⟨fun hc => ?_, fun hc => ?_⟩
    · have h := h.1 hc
      exact wp.mono (h G A ⟨L, P, rfl, hS⟩) (fun r G' q => qx_trans hx q)
    · have h := h.2 hc
      refine ⟨hS.o (sP_9 hg), ?_⟩
      refine wpM.mono (h G A ⟨L, P, rfl, hS⟩) (fun rr1 G1 hr => ?_)
      obtain ⟨A1, W1, w1, ⟨L1, P1, rfl, hS1⟩, hy1, rfl, r1, rfl, h⟩ := hr
      refine ⟨r1, rfl, ?_⟩
      have hx1 := Xt.trans hx hy1
      have hg2 : PG L1 g := PG.up hy1 hg
      have ee3 : A1 g 9 = A g 9 := hy1.2 _ _ hg.1 (((nP_9 hS1 hg2)).trans ((nP_9 hS hg)).symm)
      try rw [← ee3]
      refine ⟨fun hc => ?_, fun hc => ?_⟩
      · have h := h.1 hc
        exact wp.mono (h G1 A1 ⟨L1, P1, rfl, hS1⟩) (fun r G' q => qx_trans hx1 q)
      · have h := h.2 hc
        refine ⟨hS1.o (sP_9 hg2), ?_⟩
        refine wpM.mono (h G1 A1 ⟨L1, P1, rfl, hS1⟩) (fun rr4 G4 hr => ?_)
        obtain ⟨A4, W4, w4, ⟨L4, P4, rfl, hS4⟩, hy4, rfl, r4, rfl, h⟩ := hr
        refine ⟨r4, rfl, ?_⟩
        have hx4 := Xt.trans hx1 hy4
        have hg5 : PG L4 g := PG.up hy4 hg2
        have ee6 : A4 g 9 = A1 g 9 := hy4.2 _ _ hg2.1 (((nP_9 hS4 hg5)).trans ((nP_9 hS1 hg2)).symm)
        try rw [← ee6]
        refine ⟨hS4.o (sP_9 hg5), ?_⟩
        refine wpM.mono (h G4 A4 ⟨L4, P4, rfl, hS4⟩) (fun rr7 G7 hr => ?_)
        obtain ⟨A7, W7, w7, ⟨L7, P7, rfl, hS7⟩, hy7, rfl, r7, rfl, h⟩ := hr
        refine ⟨r7, rfl, ?_⟩
        have hx7 := Xt.trans hx4 hy7
        have hg8 : PG L7 g := PG.up hy7 hg5
        have ee9 : A7 g 9 = A4 g 9 := hy7.2 _ _ hg5.1 (((nP_9 hS7 hg8)).trans ((nP_9 hS4 hg5)).symm)
        try rw [← ee9]
        refine ⟨fun hc => ?_, fun hc => ?_⟩
        · have h := h.1 hc
          exact wp.mono (h G7 A7 ⟨L7, P7, rfl, hS7⟩) (fun r G' q => qx_trans hx7 q)
        · have h := h.2 hc
          refine ⟨hS7.o (sP_9 hg8), ?_⟩
          refine wpM.mono (h G7 A7 ⟨L7, P7, rfl, hS7⟩) (fun rr10 G10 hr => ?_)
          obtain ⟨A10, W10, w10, ⟨L10, P10, rfl, hS10⟩, hy10, rfl, r10, rfl, h⟩ := hr
          refine ⟨r10, rfl, ?_⟩
          have hx10 := Xt.trans hx7 hy10
          have hg11 : PG L10 g := PG.up hy10 hg8
          have ee12 : A10 g 9 = A7 g 9 := hy10.2 _ _ hg8.1 (((nP_9 hS10 hg11)).trans ((nP_9 hS7 hg8)).symm)
          try rw [← ee12]
          exact wp.mono (h G10 A10 ⟨L10, P10, rfl, hS10⟩) (fun r G' q => qx_trans hx10 q)
theorem w_X2_astray_109 {E : EE} {d : Nat} {V : VH} {K : Int32 → VH → Prop} {g : Nat} {x1 : Int32} {x2 : Int32} {x3 : Int32} {x4 : Int32} {x5 : Int32} {x6 : Int32} {x7 : Int32} {x8 : Int32} {x9 : Int32} {x10 : Int32} (hg : PG (vL V) g) (h : vwp E d M_X2_astray 47 [some (sl g 9), some (wi x1), some (wi x2), some (wi x3), some (wi x4), some (wi x5), some (wi x6), some (wi x7), some (wi x8), some (wi (x9 + 1)), none] [] V (zi K)) : vwp E d M_X2_astray 109 [some (sl g 9), some (wi x1), some (wi x2), some (wi x3), some (wi x4), some (wi x5), some (wi x6), some (wi x7), some (wi x8), some (wi x9), some (wi x10)] [] V (zi K) := by
  intro G A hR
  obtain ⟨L, P, rfl, hS⟩ := hR
  have hx := Xt.refl (V := pl G A L P) (A := A)
  show wp E d M_X2_astray 109 [some (vr (A g 9)), some (vi x1), some (vi x2), some (vi x3), some (vi x4), some (vi x5), some (vi x6), some (vi x7), some (vi x8), some (vi x9), some (vi x10)] [] G _
  refine v_X2_astray_109 ?_
  exact wp.mono (h G A ⟨L, P, rfl, hS⟩) (fun r G' q => qx_trans hx q)
theorem w_X2_astray_115 {E : EE} {d : Nat} {V : VH} {K : Int32 → VH → Prop} {g : Nat} {x1 : Int32} {x2 : Int32} {x3 : Int32} {x4 : Int32} {x5 : Int32} {x6 : Int32} {x7 : Int32} {x8 : Int32} {x9 : Int32} (hg : PG (vL V) g) (h : (0 ≤ x8 → vwp E d M_X2_astray 35 [some (sl g 9), some (wi x1), some (wi x2), some (wi x3), some (wi x4), some (wi x5), some (wi x8), some (wi (x7 + 1)), none, none, none] [] V (zi K)) ∧ (¬ (0 ≤ x8) → K 1 V)) : vwp E d M_X2_astray 115 [some (sl g 9), some (wi x1), some (wi x2), some (wi x3), some (wi x4), some (wi x5), some (wi x6), some (wi x7), some (wi x8), some (wi x9), none] [] V (zi K) := by
  intro G A hR
  obtain ⟨L, P, rfl, hS⟩ := hR
  have hx := Xt.refl (V := pl G A L P) (A := A)
  show wp E d M_X2_astray 115 [some (vr (A g 9)), some (vi x1), some (vi x2), some (vi x3), some (vi x4), some (vi x5), some (vi x6), some (vi x7), some (vi x8), some (vi x9), none] [] G _
  refine v_X2_astray_115 ?_
  refine ⟨fun hc => ?_, fun hc => ?_⟩
  · have h := h.1 hc
    exact wp.mono (h G A ⟨L, P, rfl, hS⟩) (fun r G' q => qx_trans hx q)
  · have h := h.2 hc
    exact qx_i hS hx h
theorem w_X2_astray_135 {E : EE} {d : Nat} {V : VH} {K : Int32 → VH → Prop} {g : Nat} {x1 : Int32} {x2 : Int32} {x3 : Int32} {x4 : Int32} {x5 : Int32} {x6 : Int32} {x7 : Int32} (hg : PG (vL V) g) (h0 : 0 < d) (h : vMI E (d - 1) M_X2_noteAt [sl g 9, wi x5] V (fun r1 V1 => (r1 < x7 → K 1 V1) ∧ (¬ (r1 < x7) → vMI E (d - 1) M_X2_noteAt [sl g 9, wi (x5 + x7)] V1 (fun r4 V4 => (¬ r4 = x6 → vwp E d M_X2_astray 135 [some (sl g 9), some (wi x1), some (wi x2), some (wi x3), some (wi x4), some (wi x5), some (wi x6), some (wi (x7 + 1)), none, none, none] [] V4 (zi K)) ∧ (r4 = x6 → K 0 V4))))) : vwp E d M_X2_astray 135 [some (sl g 9), some (wi x1), some (wi x2), some (wi x3), some (wi x4), some (wi x5), some (wi x6), some (wi x7), none, none, none] [] V (zi K) := by
  intro G A hR
  obtain ⟨L, P, rfl, hS⟩ := hR
  have hx := Xt.refl (V := pl G A L P) (A := A)
  show wp E d M_X2_astray 135 [some (vr (A g 9)), some (vi x1), some (vi x2), some (vi x3), some (vi x4), some (vi x5), some (vi x6), some (vi x7), none, none, none] [] G _
  refine v_X2_astray_135 h0 ?_
  refine ⟨hS.o (sP_9 hg), ?_⟩
  refine wpM.mono (h G A ⟨L, P, rfl, hS⟩) (fun rr1 G1 hr => ?_)
  obtain ⟨A1, W1, w1, ⟨L1, P1, rfl, hS1⟩, hy1, rfl, r1, rfl, h⟩ := hr
  refine ⟨r1, rfl, ?_⟩
  have hx1 := Xt.trans hx hy1
  have hg2 : PG L1 g := PG.up hy1 hg
  have ee3 : A1 g 9 = A g 9 := hy1.2 _ _ hg.1 (((nP_9 hS1 hg2)).trans ((nP_9 hS hg)).symm)
  try rw [← ee3]
  refine ⟨fun hc => ?_, fun hc => ?_⟩
  · have h := h.1 hc
    exact qx_i hS1 hx1 h
  · have h := h.2 hc
    refine ⟨hS1.o (sP_9 hg2), ?_⟩
    refine wpM.mono (h G1 A1 ⟨L1, P1, rfl, hS1⟩) (fun rr4 G4 hr => ?_)
    obtain ⟨A4, W4, w4, ⟨L4, P4, rfl, hS4⟩, hy4, rfl, r4, rfl, h⟩ := hr
    refine ⟨r4, rfl, ?_⟩
    have hx4 := Xt.trans hx1 hy4
    have hg5 : PG L4 g := PG.up hy4 hg2
    have ee6 : A4 g 9 = A1 g 9 := hy4.2 _ _ hg2.1 (((nP_9 hS4 hg5)).trans ((nP_9 hS1 hg2)).symm)
    try rw [← ee6]
    refine ⟨fun hc => ?_, fun hc => ?_⟩
    · have h := h.1 hc
      exact wp.mono (h G4 A4 ⟨L4, P4, rfl, hS4⟩) (fun r G' q => qx_trans hx4 q)
    · have h := h.2 hc
      exact qx_i hS4 hx4 h
theorem w_X2_offRound_0 {E : EE} {d : Nat} {V : VH} {K : Int32 → VH → Prop} {g : Nat} {x1 : Int32} (hg : PG (vL V) g) (h0 : 0 < d) (h : vMI E (d - 1) M_X2_noteAt [sl g 9, wi x1] V (fun r1 V1 => vwp E d M_X2_offRound 17 [some (sl g 9), some (wi x1), some (wi r1), some (wi 0), some (wi 0), some (wi (-1)), some (wi 0), none] [] V1 (zi K))) : vMI E d M_X2_offRound [sl g 9, wi x1] V K := by
  intro G A hR
  obtain ⟨L, P, rfl, hS⟩ := hR
  have hx := Xt.refl (V := pl G A L P) (A := A)
  show wpM E d M_X2_offRound [vr (A g 9), vi x1] G _
  refine wpM_of mk_X2_offRound (Nat.le_of_ble_eq_true rfl) ?_
  refine v_X2_offRound_0 h0 ?_
  refine ⟨hS.o (sP_9 hg), ?_⟩
  refine wpM.mono (h G A ⟨L, P, rfl, hS⟩) (fun rr1 G1 hr => ?_)
  obtain ⟨A1, W1, w1, ⟨L1, P1, rfl, hS1⟩, hy1, rfl, r1, rfl, h⟩ := hr
  refine ⟨r1, rfl, ?_⟩
  have hx1 := Xt.trans hx hy1
  have hg2 : PG L1 g := PG.up hy1 hg
  have ee3 : A1 g 9 = A g 9 := hy1.2 _ _ hg.1 (((nP_9 hS1 hg2)).trans ((nP_9 hS hg)).symm)
  try rw [← ee3]
  exact wp.mono (h G1 A1 ⟨L1, P1, rfl, hS1⟩) (fun r G' q => qx_trans hx1 q)
theorem w_X2_offRound_17 {E : EE} {d : Nat} {V : VH} {K : Int32 → VH → Prop} {g : Nat} {x1 : Int32} {x2 : Int32} {x3 : Int32} {x4 : Int32} {x5 : Int32} {x6 : Int32} (hg : PG (vL V) g) (h0 : 0 < d) (h : (x2 ≤ x6 → (¬ x4 = 0 → vMI E (d - 1) M_X2_valueAt [sl g 9, wi ((x1 + 1) + x5)] V (fun r1 V1 => vwp E d M_X2_offRound 109 [some (sl g 9), some (wi x1), some (wi x2), some (wi x3), some (wi x4), some (wi x5), some (wi 1), some (wi r1)] [] V1 (zi K))) ∧ (x4 = 0 → K 0 V)) ∧ (¬ (x2 ≤ x6) → vMI E (d - 1) M_X2_valueAt [sl g 9, wi ((x1 + 1) + x6)] V (fun r4 V4 => (r4 < 0 → K 1 V4) ∧ (¬ (r4 < 0) → (x2 ≤ r4 → K 1 V4) ∧ (¬ (x2 ≤ r4) → (((x3 >>> (r4 &&& 31)) &&& 1) = 0 → (¬ r4 = x6 → vwp E d M_X2_offRound 81 [some (sl g 9), some (wi x1), some (wi x2), some (wi (x3 ||| (1 <<< (r4 &&& 31)))), some (wi (x4 + 1)), some (wi x6), some (wi x6), some (wi r4)] [] V4 (zi K)) ∧ (r4 = x6 → vwp E d M_X2_offRound 81 [some (sl g 9), some (wi x1), some (wi x2), some (wi (x3 ||| (1 <<< (r4 &&& 31)))), some (wi x4), some (wi x5), some (wi x6), some (wi r4)] [] V4 (zi K))) ∧ (¬ (((x3 >>> (r4 &&& 31)) &&& 1) = 0) → K 1 V4)))))) : vwp E d M_X2_offRound 17 [some (sl g 9), some (wi x1), some (wi x2), some (wi x3), some (wi x4), some (wi x5), some (wi x6), none] [] V (zi K) := by
  intro G A hR
  obtain ⟨L, P, rfl, hS⟩ := hR
  have hx := Xt.refl (V := pl G A L P) (A := A)
  show wp E d M_X2_offRound 17 [some (vr (A g 9)), some (vi x1), some (vi x2), some (vi x3), some (vi x4), some (vi x5), some (vi x6), none] [] G _
  refine v_X2_offRound_17 h0 ?_
  refine ⟨fun hc => ?_, fun hc => ?_⟩
  · have h := h.1 hc
    refine ⟨fun hc => ?_, fun hc => ?_⟩
    · have h := h.1 hc
      refine ⟨hS.o (sP_9 hg), ?_⟩
      refine wpM.mono (h G A ⟨L, P, rfl, hS⟩) (fun rr1 G1 hr => ?_)
      obtain ⟨A1, W1, w1, ⟨L1, P1, rfl, hS1⟩, hy1, rfl, r1, rfl, h⟩ := hr
      refine ⟨r1, rfl, ?_⟩
      have hx1 := Xt.trans hx hy1
      have hg2 : PG L1 g := PG.up hy1 hg
      have ee3 : A1 g 9 = A g 9 := hy1.2 _ _ hg.1 (((nP_9 hS1 hg2)).trans ((nP_9 hS hg)).symm)
      try rw [← ee3]
      exact wp.mono (h G1 A1 ⟨L1, P1, rfl, hS1⟩) (fun r G' q => qx_trans hx1 q)
    · have h := h.2 hc
      exact qx_i hS hx h
  · have h := h.2 hc
    refine ⟨hS.o (sP_9 hg), ?_⟩
    refine wpM.mono (h G A ⟨L, P, rfl, hS⟩) (fun rr4 G4 hr => ?_)
    obtain ⟨A4, W4, w4, ⟨L4, P4, rfl, hS4⟩, hy4, rfl, r4, rfl, h⟩ := hr
    refine ⟨r4, rfl, ?_⟩
    have hx4 := Xt.trans hx hy4
    have hg5 : PG L4 g := PG.up hy4 hg
    have ee6 : A4 g 9 = A g 9 := hy4.2 _ _ hg.1 (((nP_9 hS4 hg5)).trans ((nP_9 hS hg)).symm)
    try rw [← ee6]
    refine ⟨fun hc => ?_, fun hc => ?_⟩
    · have h := h.1 hc
      exact qx_i hS4 hx4 h
    · have h := h.2 hc
      refine ⟨fun hc => ?_, fun hc => ?_⟩
      · have h := h.1 hc
        exact qx_i hS4 hx4 h
      · have h := h.2 hc
        refine ⟨fun hc => ?_, fun hc => ?_⟩
        · have h := h.1 hc
          refine ⟨fun hc => ?_, fun hc => ?_⟩
          · have h := h.1 hc
            exact wp.mono (h G4 A4 ⟨L4, P4, rfl, hS4⟩) (fun r G' q => qx_trans hx4 q)
          · have h := h.2 hc
            exact wp.mono (h G4 A4 ⟨L4, P4, rfl, hS4⟩) (fun r G' q => qx_trans hx4 q)
        · have h := h.2 hc
          exact qx_i hS4 hx4 h
theorem w_X2_offRound_81 {E : EE} {d : Nat} {V : VH} {K : Int32 → VH → Prop} {g : Nat} {x1 : Int32} {x2 : Int32} {x3 : Int32} {x4 : Int32} {x5 : Int32} {x6 : Int32} {x7 : Int32} (hg : PG (vL V) g) (h : vwp E d M_X2_offRound 17 [some (sl g 9), some (wi x1), some (wi x2), some (wi x3), some (wi x4), some (wi x5), some (wi (x6 + 1)), none] [] V (zi K)) : vwp E d M_X2_offRound 81 [some (sl g 9), some (wi x1), some (wi x2), some (wi x3), some (wi x4), some (wi x5), some (wi x6), some (wi x7)] [] V (zi K) := by
  intro G A hR
  obtain ⟨L, P, rfl, hS⟩ := hR
  have hx := Xt.refl (V := pl G A L P) (A := A)
  show wp E d M_X2_offRound 81 [some (vr (A g 9)), some (vi x1), some (vi x2), some (vi x3), some (vi x4), some (vi x5), some (vi x6), some (vi x7)] [] G _
  refine v_X2_offRound_81 ?_
  exact wp.mono (h G A ⟨L, P, rfl, hS⟩) (fun r G' q => qx_trans hx q)
theorem w_X2_offRound_109 {E : EE} {d : Nat} {V : VH} {K : Int32 → VH → Prop} {g : Nat} {x1 : Int32} {x2 : Int32} {x3 : Int32} {x4 : Int32} {x5 : Int32} {x6 : Int32} {x7 : Int32} (hg : PG (vL V) g) (h0 : 0 < d) (h : (x7 = x5 → vwp E d M_X2_offRound 140 [some (sl g 9), some (wi x1), some (wi x2), some (wi x3), some (wi x4), some (wi x5), some (wi x6), some (wi x7)] [] V (zi K)) ∧ (¬ (x7 = x5) → (x2 < x6 → vwp E d M_X2_offRound 140 [some (sl g 9), some (wi x1), some (wi x2), some (wi x3), some (wi x4), some (wi x5), some (wi x6), some (wi x7)] [] V (zi K)) ∧ (¬ (x2 < x6) → vMI E (d - 1) M_X2_valueAt [sl g 9, wi ((x1 + 1) + x7)] V (fun r1 V1 => vwp E d M_X2_offRound 109 [some (sl g 9), some (wi x1), some (wi x2), some (wi x3), some (wi x4), some (wi x5), some (wi (x6 + 1)), some (wi r1)] [] V1 (zi K))))) : vwp E d M_X2_offRound 109 [some (sl g 9), some (wi x1), some (wi x2), some (wi x3), some (wi x4), some (wi x5), some (wi x6), some (wi x7)] [] V (zi K) := by
  intro G A hR
  obtain ⟨L, P, rfl, hS⟩ := hR
  have hx := Xt.refl (V := pl G A L P) (A := A)
  show wp E d M_X2_offRound 109 [some (vr (A g 9)), some (vi x1), some (vi x2), some (vi x3), some (vi x4), some (vi x5), some (vi x6), some (vi x7)] [] G _
  refine v_X2_offRound_109 h0 ?_
  refine ⟨fun hc => ?_, fun hc => ?_⟩
  · have h := h.1 hc
    exact wp.mono (h G A ⟨L, P, rfl, hS⟩) (fun r G' q => qx_trans hx q)
  · have h := h.2 hc
    refine ⟨fun hc => ?_, fun hc => ?_⟩
    · have h := h.1 hc
      exact wp.mono (h G A ⟨L, P, rfl, hS⟩) (fun r G' q => qx_trans hx q)
    · have h := h.2 hc
      refine ⟨hS.o (sP_9 hg), ?_⟩
      refine wpM.mono (h G A ⟨L, P, rfl, hS⟩) (fun rr1 G1 hr => ?_)
      obtain ⟨A1, W1, w1, ⟨L1, P1, rfl, hS1⟩, hy1, rfl, r1, rfl, h⟩ := hr
      refine ⟨r1, rfl, ?_⟩
      have hx1 := Xt.trans hx hy1
      have hg2 : PG L1 g := PG.up hy1 hg
      have ee3 : A1 g 9 = A g 9 := hy1.2 _ _ hg.1 (((nP_9 hS1 hg2)).trans ((nP_9 hS hg)).symm)
      try rw [← ee3]
      exact wp.mono (h G1 A1 ⟨L1, P1, rfl, hS1⟩) (fun r G' q => qx_trans hx1 q)
theorem w_X2_offRound_140 {E : EE} {d : Nat} {V : VH} {K : Int32 → VH → Prop} {g : Nat} {x1 : Int32} {x2 : Int32} {x3 : Int32} {x4 : Int32} {x5 : Int32} {x6 : Int32} {x7 : Int32} (hg : PG (vL V) g) (h : (¬ x6 = x4 → K 1 V) ∧ (x6 = x4 → K 0 V)) : vwp E d M_X2_offRound 140 [some (sl g 9), some (wi x1), some (wi x2), some (wi x3), some (wi x4), some (wi x5), some (wi x6), some (wi x7)] [] V (zi K) := by
  intro G A hR
  obtain ⟨L, P, rfl, hS⟩ := hR
  have hx := Xt.refl (V := pl G A L P) (A := A)
  show wp E d M_X2_offRound 140 [some (vr (A g 9)), some (vi x1), some (vi x2), some (vi x3), some (vi x4), some (vi x5), some (vi x6), some (vi x7)] [] G _
  refine v_X2_offRound_140 ?_
  refine ⟨fun hc => ?_, fun hc => ?_⟩
  · have h := h.1 hc
    exact qx_i hS hx h
  · have h := h.2 hc
    exact qx_i hS hx h
theorem w_X2_outOfOrder_0 {E : EE} {d : Nat} {V : VH} {K : Int32 → VH → Prop} {g : Nat} {x1 : Int32} (hg : PG (vL V) g) (h0 : 0 < d) (h : vMI E (d - 1) M_X2_noteAt [sl g 9, wi x1] V (fun r1 V1 => vwp E d M_X2_outOfOrder 8 [some (sl g 9), some (wi x1), some (wi r1), some (wi 1), none, none] [] V1 (zi K))) : vMI E d M_X2_outOfOrder [sl g 9, wi x1] V K := by
  intro G A hR
  obtain ⟨L, P, rfl, hS⟩ := hR
  have hx := Xt.refl (V := pl G A L P) (A := A)
  show wpM E d M_X2_outOfOrder [vr (A g 9), vi x1] G _
  refine wpM_of mk_X2_outOfOrder (Nat.le_of_ble_eq_true rfl) ?_
  refine v_X2_outOfOrder_0 h0 ?_
  refine ⟨hS.o (sP_9 hg), ?_⟩
  refine wpM.mono (h G A ⟨L, P, rfl, hS⟩) (fun rr1 G1 hr => ?_)
  obtain ⟨A1, W1, w1, ⟨L1, P1, rfl, hS1⟩, hy1, rfl, r1, rfl, h⟩ := hr
  refine ⟨r1, rfl, ?_⟩
  have hx1 := Xt.trans hx hy1
  have hg2 : PG L1 g := PG.up hy1 hg
  have ee3 : A1 g 9 = A g 9 := hy1.2 _ _ hg.1 (((nP_9 hS1 hg2)).trans ((nP_9 hS hg)).symm)
  try rw [← ee3]
  exact wp.mono (h G1 A1 ⟨L1, P1, rfl, hS1⟩) (fun r G' q => qx_trans hx1 q)
theorem w_X2_outOfOrder_8 {E : EE} {d : Nat} {V : VH} {K : Int32 → VH → Prop} {g : Nat} {x1 : Int32} {x2 : Int32} {x3 : Int32} (hg : PG (vL V) g) (h0 : 0 < d) (h : (x2 < x3 → K 0 V) ∧ (¬ (x2 < x3) → vMI E (d - 1) M_X2_valueAt [sl g 9, wi (x1 + x3)] V (fun r1 V1 => vMI E (d - 1) M_X2_valueAt [sl g 9, wi (((x1 + 1) + x2) + x3)] V1 (fun r4 V4 => (r1 = r4 → vwp E d M_X2_outOfOrder 8 [some (sl g 9), some (wi x1), some (wi x2), some (wi (x3 + 1)), none, none] [] V4 (zi K)) ∧ (¬ (r1 = r4) → (r1 ≤ r4 → K 0 V4) ∧ (¬ (r1 ≤ r4) → K 1 V4)))))) : vwp E d M_X2_outOfOrder 8 [some (sl g 9), some (wi x1), some (wi x2), some (wi x3), none, none] [] V (zi K) := by
  intro G A hR
  obtain ⟨L, P, rfl, hS⟩ := hR
  have hx := Xt.refl (V := pl G A L P) (A := A)
  show wp E d M_X2_outOfOrder 8 [some (vr (A g 9)), some (vi x1), some (vi x2), some (vi x3), none, none] [] G _
  refine v_X2_outOfOrder_8 h0 ?_
  refine ⟨fun hc => ?_, fun hc => ?_⟩
  · have h := h.1 hc
    exact qx_i hS hx h
  · have h := h.2 hc
    refine ⟨hS.o (sP_9 hg), ?_⟩
    refine wpM.mono (h G A ⟨L, P, rfl, hS⟩) (fun rr1 G1 hr => ?_)
    obtain ⟨A1, W1, w1, ⟨L1, P1, rfl, hS1⟩, hy1, rfl, r1, rfl, h⟩ := hr
    refine ⟨r1, rfl, ?_⟩
    have hx1 := Xt.trans hx hy1
    have hg2 : PG L1 g := PG.up hy1 hg
    have ee3 : A1 g 9 = A g 9 := hy1.2 _ _ hg.1 (((nP_9 hS1 hg2)).trans ((nP_9 hS hg)).symm)
    try rw [← ee3]
    refine ⟨hS1.o (sP_9 hg2), ?_⟩
    refine wpM.mono (h G1 A1 ⟨L1, P1, rfl, hS1⟩) (fun rr4 G4 hr => ?_)
    obtain ⟨A4, W4, w4, ⟨L4, P4, rfl, hS4⟩, hy4, rfl, r4, rfl, h⟩ := hr
    refine ⟨r4, rfl, ?_⟩
    have hx4 := Xt.trans hx1 hy4
    have hg5 : PG L4 g := PG.up hy4 hg2
    have ee6 : A4 g 9 = A1 g 9 := hy4.2 _ _ hg2.1 (((nP_9 hS4 hg5)).trans ((nP_9 hS1 hg2)).symm)
    try rw [← ee6]
    refine ⟨fun hc => ?_, fun hc => ?_⟩
    · have h := h.1 hc
      exact wp.mono (h G4 A4 ⟨L4, P4, rfl, hS4⟩) (fun r G' q => qx_trans hx4 q)
    · have h := h.2 hc
      refine ⟨fun hc => ?_, fun hc => ?_⟩
      · have h := h.1 hc
        exact qx_i hS4 hx4 h
      · have h := h.2 hc
        exact qx_i hS4 hx4 h
theorem w_X2_offRows_0 {E : EE} {d : Nat} {V : VH} {K : Int32 → VH → Prop} {g : Nat} {x1 : Int32} (hg : PG (vL V) g) (h0 : 0 < d) (h : vMI E (d - 1) M_X2_noteAt [sl g 9, wi x1] V (fun r1 V1 => vMI E (d - 1) M_X2_noteAt [sl g 9, wi ((x1 + 1) + r1)] V1 (fun r4 V4 => vwp E d M_X2_offRows 22 [some (sl g 9), some (wi x1), some (wi r1), some (wi r4), some (wi r1), some (wi 0), none, none, none] [] V4 (zi K)))) : vMI E d M_X2_offRows [sl g 9, wi x1] V K := by
  intro G A hR
  obtain ⟨L, P, rfl, hS⟩ := hR
  have hx := Xt.refl (V := pl G A L P) (A := A)
  show wpM E d M_X2_offRows [vr (A g 9), vi x1] G _
  refine wpM_of mk_X2_offRows (Nat.le_of_ble_eq_true rfl) ?_
  refine v_X2_offRows_0 h0 ?_
  refine ⟨hS.o (sP_9 hg), ?_⟩
  refine wpM.mono (h G A ⟨L, P, rfl, hS⟩) (fun rr1 G1 hr => ?_)
  obtain ⟨A1, W1, w1, ⟨L1, P1, rfl, hS1⟩, hy1, rfl, r1, rfl, h⟩ := hr
  refine ⟨r1, rfl, ?_⟩
  have hx1 := Xt.trans hx hy1
  have hg2 : PG L1 g := PG.up hy1 hg
  have ee3 : A1 g 9 = A g 9 := hy1.2 _ _ hg.1 (((nP_9 hS1 hg2)).trans ((nP_9 hS hg)).symm)
  try rw [← ee3]
  refine ⟨hS1.o (sP_9 hg2), ?_⟩
  refine wpM.mono (h G1 A1 ⟨L1, P1, rfl, hS1⟩) (fun rr4 G4 hr => ?_)
  obtain ⟨A4, W4, w4, ⟨L4, P4, rfl, hS4⟩, hy4, rfl, r4, rfl, h⟩ := hr
  refine ⟨r4, rfl, ?_⟩
  have hx4 := Xt.trans hx1 hy4
  have hg5 : PG L4 g := PG.up hy4 hg2
  have ee6 : A4 g 9 = A1 g 9 := hy4.2 _ _ hg2.1 (((nP_9 hS4 hg5)).trans ((nP_9 hS1 hg2)).symm)
  try rw [← ee6]
  exact wp.mono (h G4 A4 ⟨L4, P4, rfl, hS4⟩) (fun r G' q => qx_trans hx4 q)
theorem w_X2_offRows_22 {E : EE} {d : Nat} {V : VH} {K : Int32 → VH → Prop} {g : Nat} {x1 : Int32} {x2 : Int32} {x3 : Int32} {x4 : Int32} {x5 : Int32} (hg : PG (vL V) g) (h : (x3 ≤ x5 → K x4 V) ∧ (¬ (x3 ≤ x5) → vwp E d M_X2_offRows 46 [some (sl g 9), some (wi x1), some (wi x2), some (wi x3), some (wi x4), some (wi x5), some (wi (((x1 + 2) + x2) + (x5 * x2))), some (wi 0), some (wi 0)] [] V (zi K))) : vwp E d M_X2_offRows 22 [some (sl g 9), some (wi x1), some (wi x2), some (wi x3), some (wi x4), some (wi x5), none, none, none] [] V (zi K) := by
  intro G A hR
  obtain ⟨L, P, rfl, hS⟩ := hR
  have hx := Xt.refl (V := pl G A L P) (A := A)
  show wp E d M_X2_offRows 22 [some (vr (A g 9)), some (vi x1), some (vi x2), some (vi x3), some (vi x4), some (vi x5), none, none, none] [] G _
  refine v_X2_offRows_22 ?_
  refine ⟨fun hc => ?_, fun hc => ?_⟩
  · have h := h.1 hc
    exact qx_i hS hx h
  · have h := h.2 hc
    exact wp.mono (h G A ⟨L, P, rfl, hS⟩) (fun r G' q => qx_trans hx q)
theorem w_X2_offRows_46 {E : EE} {d : Nat} {V : VH} {K : Int32 → VH → Prop} {g : Nat} {x1 : Int32} {x2 : Int32} {x3 : Int32} {x4 : Int32} {x5 : Int32} {x6 : Int32} {x7 : Int32} {x8 : Int32} (hg : PG (vL V) g) (h0 : 0 < d) (h : (x2 ≤ x8 → vwp E d M_X2_offRows 22 [some (sl g 9), some (wi x1), some (wi x2), some (wi x3), some (wi (imin x4 x7)), some (wi (x5 + 1)), none, none, none] [] V (zi K)) ∧ (¬ (x2 ≤ x8) → vMI E (d - 1) M_X2_valueAt [sl g 9, wi ((x1 + 1) + x8)] V (fun r1 V1 => vMI E (d - 1) M_X2_noteAt [sl g 9, wi (x6 + x8)] V1 (fun r4 V4 => (r1 = r4 → vwp E d M_X2_offRows 77 [some (sl g 9), some (wi x1), some (wi x2), some (wi x3), some (wi x4), some (wi x5), some (wi x6), some (wi x7), some (wi x8)] [] V4 (zi K)) ∧ (¬ (r1 = r4) → vwp E d M_X2_offRows 77 [some (sl g 9), some (wi x1), some (wi x2), some (wi x3), some (wi x4), some (wi x5), some (wi x6), some (wi (x7 + 1)), some (wi x8)] [] V4 (zi K)))))) : vwp E d M_X2_offRows 46 [some (sl g 9), some (wi x1), some (wi x2), some (wi x3), some (wi x4), some (wi x5), some (wi x6), some (wi x7), some (wi x8)] [] V (zi K) := by
  intro G A hR
  obtain ⟨L, P, rfl, hS⟩ := hR
  have hx := Xt.refl (V := pl G A L P) (A := A)
  show wp E d M_X2_offRows 46 [some (vr (A g 9)), some (vi x1), some (vi x2), some (vi x3), some (vi x4), some (vi x5), some (vi x6), some (vi x7), some (vi x8)] [] G _
  refine v_X2_offRows_46 h0 ?_
  refine ⟨fun hc => ?_, fun hc => ?_⟩
  · have h := h.1 hc
    exact wp.mono (h G A ⟨L, P, rfl, hS⟩) (fun r G' q => qx_trans hx q)
  · have h := h.2 hc
    refine ⟨hS.o (sP_9 hg), ?_⟩
    refine wpM.mono (h G A ⟨L, P, rfl, hS⟩) (fun rr1 G1 hr => ?_)
    obtain ⟨A1, W1, w1, ⟨L1, P1, rfl, hS1⟩, hy1, rfl, r1, rfl, h⟩ := hr
    refine ⟨r1, rfl, ?_⟩
    have hx1 := Xt.trans hx hy1
    have hg2 : PG L1 g := PG.up hy1 hg
    have ee3 : A1 g 9 = A g 9 := hy1.2 _ _ hg.1 (((nP_9 hS1 hg2)).trans ((nP_9 hS hg)).symm)
    try rw [← ee3]
    refine ⟨hS1.o (sP_9 hg2), ?_⟩
    refine wpM.mono (h G1 A1 ⟨L1, P1, rfl, hS1⟩) (fun rr4 G4 hr => ?_)
    obtain ⟨A4, W4, w4, ⟨L4, P4, rfl, hS4⟩, hy4, rfl, r4, rfl, h⟩ := hr
    refine ⟨r4, rfl, ?_⟩
    have hx4 := Xt.trans hx1 hy4
    have hg5 : PG L4 g := PG.up hy4 hg2
    have ee6 : A4 g 9 = A1 g 9 := hy4.2 _ _ hg2.1 (((nP_9 hS4 hg5)).trans ((nP_9 hS1 hg2)).symm)
    try rw [← ee6]
    refine ⟨fun hc => ?_, fun hc => ?_⟩
    · have h := h.1 hc
      exact wp.mono (h G4 A4 ⟨L4, P4, rfl, hS4⟩) (fun r G' q => qx_trans hx4 q)
    · have h := h.2 hc
      exact wp.mono (h G4 A4 ⟨L4, P4, rfl, hS4⟩) (fun r G' q => qx_trans hx4 q)
theorem w_X2_offRows_77 {E : EE} {d : Nat} {V : VH} {K : Int32 → VH → Prop} {g : Nat} {x1 : Int32} {x2 : Int32} {x3 : Int32} {x4 : Int32} {x5 : Int32} {x6 : Int32} {x7 : Int32} {x8 : Int32} (hg : PG (vL V) g) (h : vwp E d M_X2_offRows 46 [some (sl g 9), some (wi x1), some (wi x2), some (wi x3), some (wi x4), some (wi x5), some (wi x6), some (wi x7), some (wi (x8 + 1))] [] V (zi K)) : vwp E d M_X2_offRows 77 [some (sl g 9), some (wi x1), some (wi x2), some (wi x3), some (wi x4), some (wi x5), some (wi x6), some (wi x7), some (wi x8)] [] V (zi K) := by
  intro G A hR
  obtain ⟨L, P, rfl, hS⟩ := hR
  have hx := Xt.refl (V := pl G A L P) (A := A)
  show wp E d M_X2_offRows 77 [some (vr (A g 9)), some (vi x1), some (vi x2), some (vi x3), some (vi x4), some (vi x5), some (vi x6), some (vi x7), some (vi x8)] [] G _
  refine v_X2_offRows_77 ?_
  exact wp.mono (h G A ⟨L, P, rfl, hS⟩) (fun r G' q => qx_trans hx q)
theorem w_X2_repeated_0 {E : EE} {d : Nat} {V : VH} {K : Int32 → VH → Prop} {g : Nat} {x1 : Int32} (hg : PG (vL V) g) (h0 : 0 < d) (h : vMI E (d - 1) M_X2_noteAt [sl g 9, wi x1] V (fun r1 V1 => vwp E d M_X2_repeated 11 [some (sl g 9), some (wi x1), some (wi r1), some (wi 0), some (wi 1), none, none] [] V1 (zi K))) : vMI E d M_X2_repeated [sl g 9, wi x1] V K := by
  intro G A hR
  obtain ⟨L, P, rfl, hS⟩ := hR
  have hx := Xt.refl (V := pl G A L P) (A := A)
  show wpM E d M_X2_repeated [vr (A g 9), vi x1] G _
  refine wpM_of mk_X2_repeated (Nat.le_of_ble_eq_true rfl) ?_
  refine v_X2_repeated_0 h0 ?_
  refine ⟨hS.o (sP_9 hg), ?_⟩
  refine wpM.mono (h G A ⟨L, P, rfl, hS⟩) (fun rr1 G1 hr => ?_)
  obtain ⟨A1, W1, w1, ⟨L1, P1, rfl, hS1⟩, hy1, rfl, r1, rfl, h⟩ := hr
  refine ⟨r1, rfl, ?_⟩
  have hx1 := Xt.trans hx hy1
  have hg2 : PG L1 g := PG.up hy1 hg
  have ee3 : A1 g 9 = A g 9 := hy1.2 _ _ hg.1 (((nP_9 hS1 hg2)).trans ((nP_9 hS hg)).symm)
  try rw [← ee3]
  exact wp.mono (h G1 A1 ⟨L1, P1, rfl, hS1⟩) (fun r G' q => qx_trans hx1 q)
theorem w_X2_repeated_11 {E : EE} {d : Nat} {V : VH} {K : Int32 → VH → Prop} {g : Nat} {x1 : Int32} {x2 : Int32} {x3 : Int32} {x4 : Int32} (hg : PG (vL V) g) (h : (x2 < x4 → K x3 V) ∧ (¬ (x2 < x4) → vwp E d M_X2_repeated 23 [some (sl g 9), some (wi x1), some (wi x2), some (wi x3), some (wi x4), some (wi 0), some (wi 1)] [] V (zi K))) : vwp E d M_X2_repeated 11 [some (sl g 9), some (wi x1), some (wi x2), some (wi x3), some (wi x4), none, none] [] V (zi K) := by
  intro G A hR
  obtain ⟨L, P, rfl, hS⟩ := hR
  have hx := Xt.refl (V := pl G A L P) (A := A)
  show wp E d M_X2_repeated 11 [some (vr (A g 9)), some (vi x1), some (vi x2), some (vi x3), some (vi x4), none, none] [] G _
  refine v_X2_repeated_11 ?_
  refine ⟨fun hc => ?_, fun hc => ?_⟩
  · have h := h.1 hc
    exact qx_i hS hx h
  · have h := h.2 hc
    exact wp.mono (h G A ⟨L, P, rfl, hS⟩) (fun r G' q => qx_trans hx q)
theorem w_X2_repeated_23 {E : EE} {d : Nat} {V : VH} {K : Int32 → VH → Prop} {g : Nat} {x1 : Int32} {x2 : Int32} {x3 : Int32} {x4 : Int32} {x5 : Int32} {x6 : Int32} (hg : PG (vL V) g) (h0 : 0 < d) (h : (x4 ≤ x6 → (x5 = 0 → vwp E d M_X2_repeated 73 [some (sl g 9), some (wi x1), some (wi x2), some (wi x3), some (wi x4), some (wi x5), some (wi x6)] [] V (zi K)) ∧ (¬ (x5 = 0) → vwp E d M_X2_repeated 73 [some (sl g 9), some (wi x1), some (wi x2), some (wi (x3 + 1)), some (wi x4), some (wi x5), some (wi x6)] [] V (zi K))) ∧ (¬ (x4 ≤ x6) → vMI E (d - 1) M_X2_valueAt [sl g 9, wi (x1 + x6)] V (fun r1 V1 => vMI E (d - 1) M_X2_valueAt [sl g 9, wi (x1 + x4)] V1 (fun r4 V4 => (¬ r1 = r4 → vwp E d M_X2_repeated 56 [some (sl g 9), some (wi x1), some (wi x2), some (wi x3), some (wi x4), some (wi x5), some (wi x6)] [wi 0, wi x5] V4 (zi K)) ∧ (r1 = r4 → vwp E d M_X2_repeated 56 [some (sl g 9), some (wi x1), some (wi x2), some (wi x3), some (wi x4), some (wi x5), some (wi x6)] [wi 1, wi x5] V4 (zi K)))))) : vwp E d M_X2_repeated 23 [some (sl g 9), some (wi x1), some (wi x2), some (wi x3), some (wi x4), some (wi x5), some (wi x6)] [] V (zi K) := by
  intro G A hR
  obtain ⟨L, P, rfl, hS⟩ := hR
  have hx := Xt.refl (V := pl G A L P) (A := A)
  show wp E d M_X2_repeated 23 [some (vr (A g 9)), some (vi x1), some (vi x2), some (vi x3), some (vi x4), some (vi x5), some (vi x6)] [] G _
  refine v_X2_repeated_23 h0 ?_
  refine ⟨fun hc => ?_, fun hc => ?_⟩
  · have h := h.1 hc
    refine ⟨fun hc => ?_, fun hc => ?_⟩
    · have h := h.1 hc
      exact wp.mono (h G A ⟨L, P, rfl, hS⟩) (fun r G' q => qx_trans hx q)
    · have h := h.2 hc
      exact wp.mono (h G A ⟨L, P, rfl, hS⟩) (fun r G' q => qx_trans hx q)
  · have h := h.2 hc
    refine ⟨hS.o (sP_9 hg), ?_⟩
    refine wpM.mono (h G A ⟨L, P, rfl, hS⟩) (fun rr1 G1 hr => ?_)
    obtain ⟨A1, W1, w1, ⟨L1, P1, rfl, hS1⟩, hy1, rfl, r1, rfl, h⟩ := hr
    refine ⟨r1, rfl, ?_⟩
    have hx1 := Xt.trans hx hy1
    have hg2 : PG L1 g := PG.up hy1 hg
    have ee3 : A1 g 9 = A g 9 := hy1.2 _ _ hg.1 (((nP_9 hS1 hg2)).trans ((nP_9 hS hg)).symm)
    try rw [← ee3]
    refine ⟨hS1.o (sP_9 hg2), ?_⟩
    refine wpM.mono (h G1 A1 ⟨L1, P1, rfl, hS1⟩) (fun rr4 G4 hr => ?_)
    obtain ⟨A4, W4, w4, ⟨L4, P4, rfl, hS4⟩, hy4, rfl, r4, rfl, h⟩ := hr
    refine ⟨r4, rfl, ?_⟩
    have hx4 := Xt.trans hx1 hy4
    have hg5 : PG L4 g := PG.up hy4 hg2
    have ee6 : A4 g 9 = A1 g 9 := hy4.2 _ _ hg2.1 (((nP_9 hS4 hg5)).trans ((nP_9 hS1 hg2)).symm)
    try rw [← ee6]
    refine ⟨fun hc => ?_, fun hc => ?_⟩
    · have h := h.1 hc
      exact wp.mono (h G4 A4 ⟨L4, P4, rfl, hS4⟩) (fun r G' q => qx_trans hx4 q)
    · have h := h.2 hc
      exact wp.mono (h G4 A4 ⟨L4, P4, rfl, hS4⟩) (fun r G' q => qx_trans hx4 q)
theorem w_X2_repeated_56 {E : EE} {d : Nat} {V : VH} {K : Int32 → VH → Prop} {g : Nat} {x1 : Int32} {x2 : Int32} {x3 : Int32} {x4 : Int32} {x5 : Int32} {x6 : Int32} {t0 : Int32} {t1 : Int32} (hg : PG (vL V) g) (h : vwp E d M_X2_repeated 23 [some (sl g 9), some (wi x1), some (wi x2), some (wi x3), some (wi x4), some (wi (t0 ||| t1)), some (wi (x6 + 1))] [] V (zi K)) : vwp E d M_X2_repeated 56 [some (sl g 9), some (wi x1), some (wi x2), some (wi x3), some (wi x4), some (wi x5), some (wi x6)] [wi t1, wi t0] V (zi K) := by
  intro G A hR
  obtain ⟨L, P, rfl, hS⟩ := hR
  have hx := Xt.refl (V := pl G A L P) (A := A)
  show wp E d M_X2_repeated 56 [some (vr (A g 9)), some (vi x1), some (vi x2), some (vi x3), some (vi x4), some (vi x5), some (vi x6)] [vi t1, vi t0] G _
  refine v_X2_repeated_56 ?_
  exact wp.mono (h G A ⟨L, P, rfl, hS⟩) (fun r G' q => qx_trans hx q)
theorem w_X2_repeated_73 {E : EE} {d : Nat} {V : VH} {K : Int32 → VH → Prop} {g : Nat} {x1 : Int32} {x2 : Int32} {x3 : Int32} {x4 : Int32} {x5 : Int32} {x6 : Int32} (hg : PG (vL V) g) (h : vwp E d M_X2_repeated 11 [some (sl g 9), some (wi x1), some (wi x2), some (wi x3), some (wi (x4 + 1)), none, none] [] V (zi K)) : vwp E d M_X2_repeated 73 [some (sl g 9), some (wi x1), some (wi x2), some (wi x3), some (wi x4), some (wi x5), some (wi x6)] [] V (zi K) := by
  intro G A hR
  obtain ⟨L, P, rfl, hS⟩ := hR
  have hx := Xt.refl (V := pl G A L P) (A := A)
  show wp E d M_X2_repeated 73 [some (vr (A g 9)), some (vi x1), some (vi x2), some (vi x3), some (vi x4), some (vi x5), some (vi x6)] [] G _
  refine v_X2_repeated_73 ?_
  exact wp.mono (h G A ⟨L, P, rfl, hS⟩) (fun r G' q => qx_trans hx q)
theorem w_X2_isPart_0 {E : EE} {d : Nat} {V : VH} {K : Int32 → VH → Prop} {g : Nat} {x1 : Int32} (hg : PG (vL V) g) (h : (x1 < 0 → vwp E d M_X2_isPart 12 [some (sl g 9), some (wi x1)] [] V (zi K)) ∧ (¬ (x1 < 0) → (x1 < (vI V g 9 1) → vwp E d M_X2_isPart 29 [some (sl g 9), some (wi x1)] [] V (zi K)) ∧ (¬ (x1 < (vI V g 9 1)) → vwp E d M_X2_isPart 12 [some (sl g 9), some (wi x1)] [] V (zi K)))) : vMI E d M_X2_isPart [sl g 9, wi x1] V K := by
  intro G A hR
  obtain ⟨L, P, rfl, hS⟩ := hR
  have hx := Xt.refl (V := pl G A L P) (A := A)
  show wpM E d M_X2_isPart [vr (A g 9), vi x1] G _
  refine wpM_of mk_X2_isPart (Nat.le_of_ble_eq_true rfl) ?_
  refine v_X2_isPart_0 ?_
  refine ⟨fun hc => ?_, fun hc => ?_⟩
  · have h := h.1 hc
    exact wp.mono (h G A ⟨L, P, rfl, hS⟩) (fun r G' q => qx_trans hx q)
  · have h := h.2 hc
    refine ⟨hS.o (sP_9 hg), ?_⟩
    refine ⟨fun hc => ?_, fun hc => ?_⟩
    · have h := h.1 hc
      exact wp.mono (h G A ⟨L, P, rfl, hS⟩) (fun r G' q => qx_trans hx q)
    · have h := h.2 hc
      exact wp.mono (h G A ⟨L, P, rfl, hS⟩) (fun r G' q => qx_trans hx q)
theorem w_X2_isPart_12 {E : EE} {d : Nat} {V : VH} {K : Int32 → VH → Prop} {g : Nat} {x1 : Int32} (hg : PG (vL V) g) (h : (x1 < 24 → K 0 V) ∧ (¬ (x1 < 24) → ((24 + (vI V g 9 2)) ≤ x1 → K 0 V) ∧ (¬ ((24 + (vI V g 9 2)) ≤ x1) → vwp E d M_X2_isPart 29 [some (sl g 9), some (wi x1)] [] V (zi K)))) : vwp E d M_X2_isPart 12 [some (sl g 9), some (wi x1)] [] V (zi K) := by
  intro G A hR
  obtain ⟨L, P, rfl, hS⟩ := hR
  have hx := Xt.refl (V := pl G A L P) (A := A)
  show wp E d M_X2_isPart 12 [some (vr (A g 9)), some (vi x1)] [] G _
  refine v_X2_isPart_12 ?_
  refine ⟨fun hc => ?_, fun hc => ?_⟩
  · have h := h.1 hc
    exact qx_i hS hx h
  · have h := h.2 hc
    refine ⟨hS.o (sP_9 hg), ?_⟩
    refine ⟨fun hc => ?_, fun hc => ?_⟩
    · have h := h.1 hc
      exact qx_i hS hx h
    · have h := h.2 hc
      exact wp.mono (h G A ⟨L, P, rfl, hS⟩) (fun r G' q => qx_trans hx q)
theorem w_X2_isPart_29 {E : EE} {d : Nat} {V : VH} {K : Int32 → VH → Prop} {g : Nat} {x1 : Int32} (hg : PG (vL V) g) (h : K 1 V) : vwp E d M_X2_isPart 29 [some (sl g 9), some (wi x1)] [] V (zi K) := by
  intro G A hR
  obtain ⟨L, P, rfl, hS⟩ := hR
  have hx := Xt.refl (V := pl G A L P) (A := A)
  show wp E d M_X2_isPart 29 [some (vr (A g 9)), some (vi x1)] [] G _
  refine v_X2_isPart_29 ?_
  exact qx_i hS hx h
theorem w_X3_clear_0 {E : EE} {d : Nat} {V : VH} {K : VH → Prop} {g : Nat} (hg : PG (vL V) g) (h0 : 0 < d) (h : ∀ V1 : VH, V1 = wrI V g 0 0 0 → vMV E (d - 1) M_J7_fill_53178 [sl g 4, wi 0] V1 (fun V2 => vMV E (d - 1) M_X7_clear [sl g 5] V2 (fun V5 => vMV E (d - 1) M_X2_clear [sl g 9] V5 (fun V8 => ∀ V11 : VH, V11 = wrI V8 g 19 0 0 → ∀ V12 : VH, V12 = wrI V11 g 0 8 0 → ∀ V13 : VH, V13 = wrI V12 g 0 9 0 → vMV E (d - 1) M_J7_fill_53178 [sl g 24, wi 1] V13 (fun V14 => ∀ V17 : VH, V17 = wrI V14 g 0 11 0 → K V17))))) : vMV E d M_X3_clear [sl g 0] V K := by
  intro G A hR
  obtain ⟨L, P, rfl, hS⟩ := hR
  have hx := Xt.refl (V := pl G A L P) (A := A)
  show wpM E d M_X3_clear [vr (A g 0)] G _
  refine wpM_of mk_X3_clear (Nat.le_of_ble_eq_true rfl) ?_
  refine v_X3_clear_0 h0 ?_
  refine ⟨hS.o (sP_0 hg), ?_⟩
  intro G1 eG1
  have hS1 : Sh E G1 A L P := Sh_sI eG1 hS (sP_0 hg) (okT_2 rfl (Or.inl rfl))
  have h := h (pl G1 A L P) (pl_sI eG1 hS (sP_0 hg))
  have hx1 : Xt (pl G A L P) A (pl G1 A L P) A := Xt_sI eG1 hx
  rw [lP_0_3 hS1 hg]
  refine wpM.mono (h G1 A ⟨L, P, rfl, hS1⟩) (fun rr2 G2 hr => ?_)
  obtain ⟨A2, W2, w2, ⟨L2, P2, rfl, hS2⟩, hy2, rfl, rfl, h⟩ := hr
  refine ⟨rfl, ?_⟩
  have hx2 := Xt.trans hx1 hy2
  have hg3 : PG L2 g := PG.up hy2 hg
  have ee4 : A2 g 0 = A g 0 := hy2.2 _ _ hg.1 (((nP_0 hS2 hg3)).trans ((nP_0 hS1 hg)).symm)
  try rw [← ee4]
  refine ⟨hS2.o (sP_0 hg3), ?_⟩
  rw [lP_0_4 hS2 hg3]
  refine ⟨hS2.o (sP_5 hg3), ?_⟩
  refine wpM.mono (h G2 A2 ⟨L2, P2, rfl, hS2⟩) (fun rr5 G5 hr => ?_)
  obtain ⟨A5, W5, w5, ⟨L5, P5, rfl, hS5⟩, hy5, rfl, rfl, h⟩ := hr
  refine ⟨rfl, ?_⟩
  have hx5 := Xt.trans hx2 hy5
  have hg6 : PG L5 g := PG.up hy5 hg3
  have ee7 : A5 g 0 = A2 g 0 := hy5.2 _ _ hg3.1 (((nP_0 hS5 hg6)).trans ((nP_0 hS2 hg3)).symm)
  try rw [← ee7]
  refine ⟨hS5.o (sP_0 hg6), ?_⟩
  rw [lP_0_5 hS5 hg6]
  refine ⟨hS5.o (sP_9 hg6), ?_⟩
  refine wpM.mono (h G5 A5 ⟨L5, P5, rfl, hS5⟩) (fun rr8 G8 hr => ?_)
  obtain ⟨A8, W8, w8, ⟨L8, P8, rfl, hS8⟩, hy8, rfl, rfl, h⟩ := hr
  refine ⟨rfl, ?_⟩
  have hx8 := Xt.trans hx5 hy8
  have hg9 : PG L8 g := PG.up hy8 hg6
  have ee10 : A8 g 0 = A5 g 0 := hy8.2 _ _ hg6.1 (((nP_0 hS8 hg9)).trans ((nP_0 hS5 hg6)).symm)
  try rw [← ee10]
  refine ⟨hS8.o (sP_0 hg9), ?_⟩
  rw [lP_0_6 hS8 hg9]
  refine ⟨hS8.o (sP_19 hg9), ?_⟩
  intro G11 eG11
  have hS11 : Sh E G11 A8 L8 P8 := Sh_sI eG11 hS8 (sP_19 hg9) (okT_2 rfl (Or.inl rfl))
  have h := h (pl G11 A8 L8 P8) (pl_sI eG11 hS8 (sP_19 hg9))
  have hx11 : Xt (pl G A L P) A (pl G11 A8 L8 P8) A8 := Xt_sI eG11 hx8
  intro G12 eG12
  have hS12 : Sh E G12 A8 L8 P8 := Sh_sI eG12 hS11 (sP_0 hg9) (okT_0 rfl)
  have h := h (pl G12 A8 L8 P8) (pl_sI eG12 hS11 (sP_0 hg9))
  have hx12 : Xt (pl G A L P) A (pl G12 A8 L8 P8) A8 := Xt_sI eG12 hx11
  intro G13 eG13
  have hS13 : Sh E G13 A8 L8 P8 := Sh_sI eG13 hS12 (sP_0 hg9) (okT_0 rfl)
  have h := h (pl G13 A8 L8 P8) (pl_sI eG13 hS12 (sP_0 hg9))
  have hx13 : Xt (pl G A L P) A (pl G13 A8 L8 P8) A8 := Xt_sI eG13 hx12
  rw [lP_0_10 hS13 hg9]
  refine wpM.mono (h G13 A8 ⟨L8, P8, rfl, hS13⟩) (fun rr14 G14 hr => ?_)
  obtain ⟨A14, W14, w14, ⟨L14, P14, rfl, hS14⟩, hy14, rfl, rfl, h⟩ := hr
  refine ⟨rfl, ?_⟩
  have hx14 := Xt.trans hx13 hy14
  have hg15 : PG L14 g := PG.up hy14 hg9
  have ee16 : A14 g 0 = A8 g 0 := hy14.2 _ _ hg9.1 (((nP_0 hS14 hg15)).trans ((nP_0 hS13 hg9)).symm)
  try rw [← ee16]
  refine ⟨hS14.o (sP_0 hg15), ?_⟩
  intro G17 eG17
  have hS17 : Sh E G17 A14 L14 P14 := Sh_sI eG17 hS14 (sP_0 hg15) (okT_0 rfl)
  have h := h (pl G17 A14 L14 P14) (pl_sI eG17 hS14 (sP_0 hg15))
  have hx17 : Xt (pl G A L P) A (pl G17 A14 L14 P14) A14 := Xt_sI eG17 hx14
  exact qx_v hS17 hx17 h
theorem w_X3_lookUp_0 {E : EE} {d : Nat} {V : VH} {K : Int32 → VH → Prop} {g : Nat} {x1 : Int64} (hg : PG (vL V) g) (h : vwp E d M_X3_lookUp 2 [some (sl g 0), some (wj x1), none, some (wi 0), none] [] V (zi K)) : vMI E d M_X3_lookUp [sl g 0, wj x1] V K := by
  intro G A hR
  obtain ⟨L, P, rfl, hS⟩ := hR
  have hx := Xt.refl (V := pl G A L P) (A := A)
  show wpM E d M_X3_lookUp [vr (A g 0), vj x1] G _
  refine wpM_of mk_X3_lookUp (Nat.le_of_ble_eq_true rfl) ?_
  refine v_X3_lookUp_0 ?_
  exact wp.mono (h G A ⟨L, P, rfl, hS⟩) (fun r G' q => qx_trans hx q)
theorem w_X3_lookUp_2 {E : EE} {d : Nat} {V : VH} {K : Int32 → VH → Prop} {g : Nat} {x1 : Int64} {x3 : Int32} (hg : PG (vL V) g) (h : (4 ≤ x3 → K (-1) V) ∧ (¬ (4 ≤ x3) → vwp E d M_X3_lookUp 10 [some (sl g 0), some (wj x1), none, some (wi x3), some (wi 0)] [] V (zi K))) : vwp E d M_X3_lookUp 2 [some (sl g 0), some (wj x1), none, some (wi x3), none] [] V (zi K) := by
  intro G A hR
  obtain ⟨L, P, rfl, hS⟩ := hR
  have hx := Xt.refl (V := pl G A L P) (A := A)
  show wp E d M_X3_lookUp 2 [some (vr (A g 0)), some (vj x1), none, some (vi x3), none] [] G _
  refine v_X3_lookUp_2 ?_
  refine ⟨fun hc => ?_, fun hc => ?_⟩
  · have h := h.1 hc
    exact qx_i hS hx h
  · have h := h.2 hc
    exact wp.mono (h G A ⟨L, P, rfl, hS⟩) (fun r G' q => qx_trans hx q)
theorem w_X3_lookUp_10 {E : EE} {d : Nat} {V : VH} {K : Int32 → VH → Prop} {g : Nat} {x1 : Int64} {x3 : Int32} {x4 : Int32} (hg : PG (vL V) g) (h : vp_in x3 4 ∧ (((vI V g 4 (Int32.toNatClampNeg x3)) ≤ x4 → vwp E d M_X3_lookUp 2 [some (sl g 0), some (wj x1), none, some (wi (x3 + 1)), none] [] V (zi K)) ∧ (¬ ((vI V g 4 (Int32.toNatClampNeg x3)) ≤ x4) → vp_in ((x3 * 24) + x4) 96 ∧ ((¬ (vJ V g 3 (Int32.toNatClampNeg ((x3 * 24) + x4))) = x1 → vwp E d M_X3_lookUp 10 [some (sl g 0), some (wj x1), none, some (wi x3), some (wi (x4 + 1))] [] V (zi K)) ∧ ((vJ V g 3 (Int32.toNatClampNeg ((x3 * 24) + x4))) = x1 → K ((x3 * 24) + x4) V))))) : vwp E d M_X3_lookUp 10 [some (sl g 0), some (wj x1), none, some (wi x3), some (wi x4)] [] V (zi K) := by
  intro G A hR
  obtain ⟨L, P, rfl, hS⟩ := hR
  have hx := Xt.refl (V := pl G A L P) (A := A)
  show wp E d M_X3_lookUp 10 [some (vr (A g 0)), some (vj x1), none, some (vi x3), some (vi x4)] [] G _
  refine v_X3_lookUp_10 ?_
  refine ⟨hS.o (sP_0 hg), ?_⟩
  rw [lP_0_3 hS hg]
  refine ⟨hS.o (sP_4 hg), ?_⟩
  obtain ⟨hi1, h⟩ := h
  refine ⟨by first | (rw [(nP_4 hS hg)]; exact hi1) | exact (congrArg (vp_in _) (nP_4 hS hg)).mpr hi1 | exact hi1, ?_⟩
  refine ⟨fun hc => ?_, fun hc => ?_⟩
  · have h := h.1 hc
    exact wp.mono (h G A ⟨L, P, rfl, hS⟩) (fun r G' q => qx_trans hx q)
  · have h := h.2 hc
    rw [lP_0_2 hS hg]
    refine ⟨hS.o (sP_3 hg), ?_⟩
    obtain ⟨hi2, h⟩ := h
    refine ⟨by first | (rw [(nP_3 hS hg)]; exact hi2) | exact (congrArg (vp_in _) (nP_3 hS hg)).mpr hi2 | exact hi2, ?_⟩
    refine ⟨fun hc => ?_, fun hc => ?_⟩
    · have h := h.1 hc
      exact wp.mono (h G A ⟨L, P, rfl, hS⟩) (fun r G' q => qx_trans hx q)
    · have h := h.2 hc
      exact qx_i hS hx h
theorem w_X3_tell_0 {E : EE} {d : Nat} {V : VH} {K : VH → Prop} {g : Nat} {x1 : Int32} {x2 : Int64} (hg : PG (vL V) g) (h : (x1 < 0 → K V) ∧ (¬ (x1 < 0) → (4 ≤ x1 → K V) ∧ (¬ (4 ≤ x1) → vp_in x1 4 ∧ (((vI V g 4 (Int32.toNatClampNeg x1)) < 24 → vp_in x1 4 ∧ (vp_in ((x1 * 24) + (vI V g 4 (Int32.toNatClampNeg x1))) 96 ∧ (∀ V4 : VH, V4 = wrJ V g 3 (Int32.toNatClampNeg ((x1 * 24) + (vI V g 4 (Int32.toNatClampNeg x1)))) x2 → vp_in x1 4 ∧ (vp_in x1 4 ∧ (∀ V7 : VH, V7 = wrI V4 g 4 (Int32.toNatClampNeg x1) ((vI V4 g 4 (Int32.toNatClampNeg x1)) + 1) → K V7))))) ∧ (¬ ((vI V g 4 (Int32.toNatClampNeg x1)) < 24) → K V))))) : vMV E d M_X3_tell [sl g 0, wi x1, wj x2] V K := by
  intro G A hR
  obtain ⟨L, P, rfl, hS⟩ := hR
  have hx := Xt.refl (V := pl G A L P) (A := A)
  show wpM E d M_X3_tell [vr (A g 0), vi x1, vj x2] G _
  refine wpM_of mk_X3_tell (Nat.le_of_ble_eq_true rfl) ?_
  refine v_X3_tell_0 ?_
  refine ⟨fun hc => ?_, fun hc => ?_⟩
  · have h := h.1 hc
    exact qx_v hS hx h
  · have h := h.2 hc
    refine ⟨fun hc => ?_, fun hc => ?_⟩
    · have h := h.1 hc
      exact qx_v hS hx h
    · have h := h.2 hc
      refine ⟨hS.o (sP_0 hg), ?_⟩
      rw [lP_0_3 hS hg]
      refine ⟨hS.o (sP_4 hg), ?_⟩
      obtain ⟨hi1, h⟩ := h
      refine ⟨by first | (rw [(nP_4 hS hg)]; exact hi1) | exact (congrArg (vp_in _) (nP_4 hS hg)).mpr hi1 | exact hi1, ?_⟩
      refine ⟨fun hc => ?_, fun hc => ?_⟩
      · have h := h.1 hc
        rw [lP_0_2 hS hg]
        obtain ⟨hi2, h⟩ := h
        refine ⟨by first | (rw [(nP_4 hS hg)]; exact hi2) | exact (congrArg (vp_in _) (nP_4 hS hg)).mpr hi2 | exact hi2, ?_⟩
        refine ⟨hS.o (sP_3 hg), ?_⟩
        obtain ⟨hi3, h⟩ := h
        refine ⟨by first | (rw [(nP_3 hS hg)]; exact hi3) | exact (congrArg (vp_in _) (nP_3 hS hg)).mpr hi3 | exact hi3, ?_⟩
        intro G4 eG4
        have hS4 : Sh E G4 A L P := Sh_sJ eG4 hS
        have h := h (pl G4 A L P) (pl_sJ eG4 hS (sP_3 hg))
        have hx4 : Xt (pl G A L P) A (pl G4 A L P) A := Xt_sJ eG4 hx
        rw [lP_0_3 hS4 hg]
        refine ⟨hS4.o (sP_4 hg), ?_⟩
        obtain ⟨hi5, h⟩ := h
        refine ⟨by first | (rw [(nP_4 hS4 hg)]; exact hi5) | exact (congrArg (vp_in _) (nP_4 hS4 hg)).mpr hi5 | exact hi5, ?_⟩
        obtain ⟨hi6, h⟩ := h
        refine ⟨by first | (rw [(nP_4 hS4 hg)]; exact hi6) | exact (congrArg (vp_in _) (nP_4 hS4 hg)).mpr hi6 | exact hi6, ?_⟩
        intro G7 eG7
        have hS7 : Sh E G7 A L P := Sh_sI eG7 hS4 (sP_4 hg) (okT_0 rfl)
        have h := h (pl G7 A L P) (pl_sI eG7 hS4 (sP_4 hg))
        have hx7 : Xt (pl G A L P) A (pl G7 A L P) A := Xt_sI eG7 hx4
        exact qx_v hS7 hx7 h
      · have h := h.2 hc
        exact qx_v hS hx h
theorem w_X3_letters_0 {E : EE} {d : Nat} {V : VH} {K : Int32 → VH → Prop} {x0 : Int64}  (h : vwp E d M_X3_letters 4 [some (wj x0), none, some (wi 0), some (wj x0), none] [] V (zi K)) : vMI E d M_X3_letters [wj x0] V K := by
  intro G A hR
  obtain ⟨L, P, rfl, hS⟩ := hR
  have hx := Xt.refl (V := pl G A L P) (A := A)
  show wpM E d M_X3_letters [vj x0] G _
  refine wpM_of mk_X3_letters (Nat.le_of_ble_eq_true rfl) ?_
  refine v_X3_letters_0 ?_
  exact wp.mono (h G A ⟨L, P, rfl, hS⟩) (fun r G' q => qx_trans hx q)
theorem w_X3_letters_4 {E : EE} {d : Nat} {V : VH} {K : Int32 → VH → Prop} {x0 : Int64} {x2 : Int32} {x3 : Int64}  (h : (x3 = 0 → K x2 V) ∧ (¬ (x3 = 0) → (8 ≤ x2 → K x2 V) ∧ (¬ (8 ≤ x2) → vwp E d M_X3_letters 4 [some (wj x0), none, some (wi (x2 + 1)), some (wj (lushr x3 8)), none] [] V (zi K)))) : vwp E d M_X3_letters 4 [some (wj x0), none, some (wi x2), some (wj x3), none] [] V (zi K) := by
  intro G A hR
  obtain ⟨L, P, rfl, hS⟩ := hR
  have hx := Xt.refl (V := pl G A L P) (A := A)
  show wp E d M_X3_letters 4 [some (vj x0), none, some (vi x2), some (vj x3), none] [] G _
  refine v_X3_letters_4 ?_
  refine ⟨fun hc => ?_, fun hc => ?_⟩
  · have h := h.1 hc
    exact qx_i hS hx h
  · have h := h.2 hc
    refine ⟨fun hc => ?_, fun hc => ?_⟩
    · have h := h.1 hc
      exact qx_i hS hx h
    · have h := h.2 hc
      exact wp.mono (h G A ⟨L, P, rfl, hS⟩) (fun r G' q => qx_trans hx q)
theorem w_X3_moveTo_0 {E : EE} {d : Nat} {V : VH} {K : Int32 → VH → Prop} {g : Nat} {x1 : Int32} (hg : PG (vL V) g) (h : ∀ V1 : VH, V1 = wrI V g 0 8 x1 → K 1 V1) : vMI E d M_X3_moveTo [sl g 0, wi x1] V K := by
  intro G A hR
  obtain ⟨L, P, rfl, hS⟩ := hR
  have hx := Xt.refl (V := pl G A L P) (A := A)
  show wpM E d M_X3_moveTo [vr (A g 0), vi x1] G _
  refine wpM_of mk_X3_moveTo (Nat.le_of_ble_eq_true rfl) ?_
  refine v_X3_moveTo_0 ?_
  refine ⟨hS.o (sP_0 hg), ?_⟩
  have hS1 : Sh E (sI G (A g 0) 8 x1) A L P := Sh_sI (rfl : sI G (A g 0) 8 x1 = sI G (A g 0) 8 x1) hS (sP_0 hg) (okT_0 rfl)
  have h := h (pl (sI G (A g 0) 8 x1) A L P) (pl_sI (rfl : sI G (A g 0) 8 x1 = sI G (A g 0) 8 x1) hS (sP_0 hg))
  have hx1 : Xt (pl G A L P) A (pl (sI G (A g 0) 8 x1) A L P) A := Xt_sI (rfl : sI G (A g 0) 8 x1 = sI G (A g 0) 8 x1) hx
  exact qx_i hS1 hx1 h
theorem w_X3_regretIn_0 {E : EE} {d : Nat} {V : VH} {K : Int64 → VH → Prop} {g : Nat} {x1 : Int32} {x2 : Int32} (hg : PG (vL V) g) (h0 : 0 < d) (h : vMR E (d - 1) M_X3_factsIn [sl g 0, wi x1] V (fun g1 f1 V1 => (g1 = g ∧ f1 = 30) ∧ (vMI E (d - 1) M_X7_lowest [sl g 5, wi (vI V1 g 0 8), wi (vI V1 g 0 9)] V1 (fun r4 V4 => vwp E d M_X3_regretIn 31 [some (sl g 0), some (wi x1), some (wi x2), some (sl g 30), some (wj (-9223372036854775808)), none, some (wi r4), some (wi 0), none] [] V4 (zj K))))) : vMJ E d M_X3_regretIn [sl g 0, wi x1, wi x2] V K := by
  intro G A hR
  obtain ⟨L, P, rfl, hS⟩ := hR
  have hx := Xt.refl (V := pl G A L P) (A := A)
  show wpM E d M_X3_regretIn [vr (A g 0), vi x1, vi x2] G _
  refine wpM_of mk_X3_regretIn (Nat.le_of_ble_eq_true rfl) ?_
  refine v_X3_regretIn_0 h0 ?_
  refine ⟨hS.o (sP_0 hg), ?_⟩
  refine wpM.mono (h G A ⟨L, P, rfl, hS⟩) (fun rr1 G1 hr => ?_)
  obtain ⟨A1, W1, w1, ⟨L1, P1, rfl, hS1⟩, hy1, rfl, g1, f1, rfl, h⟩ := hr
  refine ⟨A1 g1 f1, rfl, ?_⟩
  have hx1 := Xt.trans hx hy1
  have hg2 : PG L1 g := PG.up hy1 hg
  have ee3 : A1 g 0 = A g 0 := hy1.2 _ _ hg.1 (((nP_0 hS1 hg2)).trans ((nP_0 hS hg)).symm)
  try rw [← ee3]
  obtain ⟨⟨eg1, ef1⟩, h⟩ := h
  have eg1 := eg1.symm
  have ef1 := ef1.symm
  subst eg1
  subst ef1
  refine ⟨hS1.o (sP_0 hg2), ?_⟩
  rw [lP_0_4 hS1 hg2]
  refine ⟨hS1.o (sP_5 hg2), ?_⟩
  refine wpM.mono (h G1 A1 ⟨L1, P1, rfl, hS1⟩) (fun rr4 G4 hr => ?_)
  obtain ⟨A4, W4, w4, ⟨L4, P4, rfl, hS4⟩, hy4, rfl, r4, rfl, h⟩ := hr
  refine ⟨r4, rfl, ?_⟩
  have hx4 := Xt.trans hx1 hy4
  have hg5 : PG L4 g := PG.up hy4 hg2
  have ee6 : A4 g 0 = A1 g 0 := hy4.2 _ _ hg2.1 (((nP_0 hS4 hg5)).trans ((nP_0 hS1 hg2)).symm)
  try rw [← ee6]
  have ee7 : A4 g 30 = A1 g 30 := hy4.2 _ _ hg2.1 (((nP_30 hS4 hg5)).trans ((nP_30 hS1 hg2)).symm)
  try rw [← ee7]
  exact wp.mono (h G4 A4 ⟨L4, P4, rfl, hS4⟩) (fun r G' q => qx_trans hx4 q)
theorem w_X3_regretIn_31 {E : EE} {d : Nat} {V : VH} {K : Int64 → VH → Prop} {g : Nat} {x1 : Int32} {x2 : Int32} {a3 f3 : Nat} {x4 : Int64} {x6 : Int32} {x7 : Int32} (hg : PG (vL V) g) (hA3 : SL (vL V) a3 f3 14) (h0 : 0 < d) (h : ((vI V g 5 1) ≤ x7 → vwp E d M_X3_regretIn 132 [some (sl g 0), some (wi x1), some (wi x2), some (sl a3 f3), some (wj x4), none, some (wi x6), some (wi x7), none] [] V (zj K)) ∧ (¬ ((vI V g 5 1) ≤ x7) → (x6 < 0 → vwp E d M_X3_regretIn 132 [some (sl g 0), some (wi x1), some (wi x2), some (sl a3 f3), some (wj x4), none, some (wi x6), some (wi x7), none] [] V (zj K)) ∧ (¬ (x6 < 0) → vMI E (d - 1) M_X2_weighAll [sl g 9, sl g 5, wi x6, sl a3 f3, sl g 27, wi 0] V (fun r1 V1 => vN V1 a3 f3 = vN V a3 f3 ∧ ((¬ (r1 &&& (vI V1 g 9 0)) = 0 → vwp E d M_X3_regretIn 111 [some (sl g 0), some (wi x1), some (wi x2), some (sl a3 f3), some (wj x4), none, some (wi x6), some (wi x7), some (wi r1)] [] V1 (zj K)) ∧ ((r1 &&& (vI V1 g 9 0)) = 0 → (x4 = (-9223372036854775808) → vwp E d M_X3_regretIn 103 [some (sl g 0), some (wi x1), some (wi x2), some (sl a3 f3), some (wj x4), none, some (wi x6), some (wi x7), some (wi r1)] [] V1 (zj K)) ∧ (¬ (x4 = (-9223372036854775808)) → vp_in x2 3 ∧ ((x4 ≤ (vJ V1 g 27 (Int32.toNatClampNeg x2)) → vwp E d M_X3_regretIn 111 [some (sl g 0), some (wi x1), some (wi x2), some (sl a3 f3), some (wj x4), none, some (wi x6), some (wi x7), some (wi r1)] [] V1 (zj K)) ∧ (¬ (x4 ≤ (vJ V1 g 27 (Int32.toNatClampNeg x2))) → vwp E d M_X3_regretIn 103 [some (sl g 0), some (wi x1), some (wi x2), some (sl a3 f3), some (wj x4), none, some (wi x6), some (wi x7), some (wi r1)] [] V1 (zj K)))))))))) : vwp E d M_X3_regretIn 31 [some (sl g 0), some (wi x1), some (wi x2), some (sl a3 f3), some (wj x4), none, some (wi x6), some (wi x7), none] [] V (zj K) := by
  intro G A hR
  obtain ⟨L, P, rfl, hS⟩ := hR
  have hx := Xt.refl (V := pl G A L P) (A := A)
  show wp E d M_X3_regretIn 31 [some (vr (A g 0)), some (vi x1), some (vi x2), some (vr (A a3 f3)), some (vj x4), none, some (vi x6), some (vi x7), none] [] G _
  refine v_X3_regretIn_31 h0 ?_
  refine ⟨hS.o (sP_0 hg), ?_⟩
  rw [lP_0_4 hS hg]
  refine ⟨hS.o (sP_5 hg), ?_⟩
  refine ⟨fun hc => ?_, fun hc => ?_⟩
  · have h := h.1 hc
    exact wp.mono (h G A ⟨L, P, rfl, hS⟩) (fun r G' q => qx_trans hx q)
  · have h := h.2 hc
    refine ⟨fun hc => ?_, fun hc => ?_⟩
    · have h := h.1 hc
      exact wp.mono (h G A ⟨L, P, rfl, hS⟩) (fun r G' q => qx_trans hx q)
    · have h := h.2 hc
      rw [lP_0_5 hS hg]
      rw [lP_0_14 hS hg]
      refine ⟨hS.o (sP_9 hg), ?_⟩
      refine wpM.mono (h G A ⟨L, P, rfl, hS⟩) (fun rr1 G1 hr => ?_)
      obtain ⟨A1, W1, w1, ⟨L1, P1, rfl, hS1⟩, hy1, rfl, r1, rfl, h⟩ := hr
      refine ⟨r1, rfl, ?_⟩
      have hx1 := Xt.trans hx hy1
      have hg2 : PG L1 g := PG.up hy1 hg
      have hg3 : SL L1 a3 f3 14 := SL.ux hy1 hA3
      obtain ⟨hv5, h⟩ := h
      have ee4 : A1 a3 f3 = A a3 f3 := hy1.2 _ _ hA3.1 hv5
      try rw [← ee4]
      have ee6 : A1 g 0 = A g 0 := hy1.2 _ _ hg.1 (((nP_0 hS1 hg2)).trans ((nP_0 hS hg)).symm)
      try rw [← ee6]
      refine ⟨hS1.o (sP_0 hg2), ?_⟩
      rw [lP_0_5 hS1 hg2]
      refine ⟨hS1.o (sP_9 hg2), ?_⟩
      refine ⟨fun hc => ?_, fun hc => ?_⟩
      · have h := h.1 hc
        exact wp.mono (h G1 A1 ⟨L1, P1, rfl, hS1⟩) (fun r G' q => qx_trans hx1 q)
      · have h := h.2 hc
        refine ⟨fun hc => ?_, fun hc => ?_⟩
        · have h := h.1 hc
          exact wp.mono (h G1 A1 ⟨L1, P1, rfl, hS1⟩) (fun r G' q => qx_trans hx1 q)
        · have h := h.2 hc
          rw [lP_0_14 hS1 hg2]
          refine ⟨hS1.o (sP_27 hg2), ?_⟩
          obtain ⟨hi7, h⟩ := h
          refine ⟨by first | (rw [(nP_27 hS1 hg2)]; exact hi7) | exact (congrArg (vp_in _) (nP_27 hS1 hg2)).mpr hi7 | exact hi7, ?_⟩
          refine ⟨fun hc => ?_, fun hc => ?_⟩
          · have h := h.1 hc
            exact wp.mono (h G1 A1 ⟨L1, P1, rfl, hS1⟩) (fun r G' q => qx_trans hx1 q)
          · have h := h.2 hc
            exact wp.mono (h G1 A1 ⟨L1, P1, rfl, hS1⟩) (fun r G' q => qx_trans hx1 q)
theorem w_X3_regretIn_103 {E : EE} {d : Nat} {V : VH} {K : Int64 → VH → Prop} {g : Nat} {x1 : Int32} {x2 : Int32} {a3 f3 : Nat} {x4 : Int64} {x6 : Int32} {x7 : Int32} {x8 : Int32} (hg : PG (vL V) g) (hA3 : SL (vL V) a3 f3 14) (h : vp_in x2 3 ∧ (vwp E d M_X3_regretIn 111 [some (sl g 0), some (wi x1), some (wi x2), some (sl a3 f3), some (wj (vJ V g 27 (Int32.toNatClampNeg x2))), none, some (wi x6), some (wi x7), some (wi x8)] [] V (zj K))) : vwp E d M_X3_regretIn 103 [some (sl g 0), some (wi x1), some (wi x2), some (sl a3 f3), some (wj x4), none, some (wi x6), some (wi x7), some (wi x8)] [] V (zj K) := by
  intro G A hR
  obtain ⟨L, P, rfl, hS⟩ := hR
  have hx := Xt.refl (V := pl G A L P) (A := A)
  show wp E d M_X3_regretIn 103 [some (vr (A g 0)), some (vi x1), some (vi x2), some (vr (A a3 f3)), some (vj x4), none, some (vi x6), some (vi x7), some (vi x8)] [] G _
  refine v_X3_regretIn_103 ?_
  refine ⟨hS.o (sP_0 hg), ?_⟩
  rw [lP_0_14 hS hg]
  refine ⟨hS.o (sP_27 hg), ?_⟩
  obtain ⟨hi1, h⟩ := h
  refine ⟨by first | (rw [(nP_27 hS hg)]; exact hi1) | exact (congrArg (vp_in _) (nP_27 hS hg)).mpr hi1 | exact hi1, ?_⟩
  exact wp.mono (h G A ⟨L, P, rfl, hS⟩) (fun r G' q => qx_trans hx q)
theorem w_X3_regretIn_111 {E : EE} {d : Nat} {V : VH} {K : Int64 → VH → Prop} {g : Nat} {x1 : Int32} {x2 : Int32} {a3 f3 : Nat} {x4 : Int64} {x6 : Int32} {x7 : Int32} {x8 : Int32} (hg : PG (vL V) g) (hA3 : SL (vL V) a3 f3 14) (h0 : 0 < d) (h : vMI E (d - 1) M_X7_following [sl g 5, wi x6, wi (vI V g 0 9)] V (fun r1 V1 => vN V1 a3 f3 = vN V a3 f3 ∧ (vwp E d M_X3_regretIn 31 [some (sl g 0), some (wi x1), some (wi x2), some (sl a3 f3), some (wj x4), none, some (wi r1), some (wi (x7 + 1)), none] [] V1 (zj K)))) : vwp E d M_X3_regretIn 111 [some (sl g 0), some (wi x1), some (wi x2), some (sl a3 f3), some (wj x4), none, some (wi x6), some (wi x7), some (wi x8)] [] V (zj K) := by
  intro G A hR
  obtain ⟨L, P, rfl, hS⟩ := hR
  have hx := Xt.refl (V := pl G A L P) (A := A)
  show wp E d M_X3_regretIn 111 [some (vr (A g 0)), some (vi x1), some (vi x2), some (vr (A a3 f3)), some (vj x4), none, some (vi x6), some (vi x7), some (vi x8)] [] G _
  refine v_X3_regretIn_111 h0 ?_
  refine ⟨hS.o (sP_0 hg), ?_⟩
  rw [lP_0_4 hS hg]
  refine ⟨hS.o (sP_5 hg), ?_⟩
  refine wpM.mono (h G A ⟨L, P, rfl, hS⟩) (fun rr1 G1 hr => ?_)
  obtain ⟨A1, W1, w1, ⟨L1, P1, rfl, hS1⟩, hy1, rfl, r1, rfl, h⟩ := hr
  refine ⟨r1, rfl, ?_⟩
  have hx1 := Xt.trans hx hy1
  have hg2 : PG L1 g := PG.up hy1 hg
  have hg3 : SL L1 a3 f3 14 := SL.ux hy1 hA3
  obtain ⟨hv5, h⟩ := h
  have ee4 : A1 a3 f3 = A a3 f3 := hy1.2 _ _ hA3.1 hv5
  try rw [← ee4]
  have ee6 : A1 g 0 = A g 0 := hy1.2 _ _ hg.1 (((nP_0 hS1 hg2)).trans ((nP_0 hS hg)).symm)
  try rw [← ee6]
  exact wp.mono (h G1 A1 ⟨L1, P1, rfl, hS1⟩) (fun r G' q => qx_trans hx1 q)
theorem w_X3_regretIn_132 {E : EE} {d : Nat} {V : VH} {K : Int64 → VH → Prop} {g : Nat} {x1 : Int32} {x2 : Int32} {a3 f3 : Nat} {x4 : Int64} {x6 : Int32} {x7 : Int32} (hg : PG (vL V) g) (hA3 : SL (vL V) a3 f3 14) (h0 : 0 < d) (h : (¬ x4 = (-9223372036854775808) → vMI E (d - 1) M_X2_weighAll [sl g 9, sl g 5, wi (vI V g 0 8), sl a3 f3, sl g 27, wi 0] V (fun r1 V1 => vN V1 a3 f3 = vN V a3 f3 ∧ (vp_in x2 3 ∧ (K ((vJ V1 g 27 (Int32.toNatClampNeg x2)) - x4) V1)))) ∧ (x4 = (-9223372036854775808) → K (-9223372036854775808) V)) : vwp E d M_X3_regretIn 132 [some (sl g 0), some (wi x1), some (wi x2), some (sl a3 f3), some (wj x4), none, some (wi x6), some (wi x7), none] [] V (zj K) := by
  intro G A hR
  obtain ⟨L, P, rfl, hS⟩ := hR
  have hx := Xt.refl (V := pl G A L P) (A := A)
  show wp E d M_X3_regretIn 132 [some (vr (A g 0)), some (vi x1), some (vi x2), some (vr (A a3 f3)), some (vj x4), none, some (vi x6), some (vi x7), none] [] G _
  refine v_X3_regretIn_132 h0 ?_
  refine ⟨fun hc => ?_, fun hc => ?_⟩
  · have h := h.1 hc
    refine ⟨hS.o (sP_0 hg), ?_⟩
    rw [lP_0_5 hS hg]
    rw [lP_0_4 hS hg]
    rw [lP_0_14 hS hg]
    refine ⟨hS.o (sP_9 hg), ?_⟩
    refine wpM.mono (h G A ⟨L, P, rfl, hS⟩) (fun rr1 G1 hr => ?_)
    obtain ⟨A1, W1, w1, ⟨L1, P1, rfl, hS1⟩, hy1, rfl, r1, rfl, h⟩ := hr
    refine ⟨r1, rfl, ?_⟩
    have hx1 := Xt.trans hx hy1
    have hg2 : PG L1 g := PG.up hy1 hg
    have hg3 : SL L1 a3 f3 14 := SL.ux hy1 hA3
    obtain ⟨hv5, h⟩ := h
    have ee4 : A1 a3 f3 = A a3 f3 := hy1.2 _ _ hA3.1 hv5
    try rw [← ee4]
    have ee6 : A1 g 0 = A g 0 := hy1.2 _ _ hg.1 (((nP_0 hS1 hg2)).trans ((nP_0 hS hg)).symm)
    try rw [← ee6]
    refine ⟨hS1.o (sP_0 hg2), ?_⟩
    rw [lP_0_14 hS1 hg2]
    refine ⟨hS1.o (sP_27 hg2), ?_⟩
    obtain ⟨hi7, h⟩ := h
    refine ⟨by first | (rw [(nP_27 hS1 hg2)]; exact hi7) | exact (congrArg (vp_in _) (nP_27 hS1 hg2)).mpr hi7 | exact hi7, ?_⟩
    exact qx_j hS1 hx1 h
  · have h := h.2 hc
    exact qx_j hS hx h
theorem w_X3_factsIn_0 {E : EE} {d : Nat} {V : VH} {K : Nat → Nat → VH → Prop} {g : Nat} {x1 : Int32} (hg : PG (vL V) g) (h : vwp E d M_X3_factsIn 2 [some (sl g 0), some (wi x1), some (wi 0), none] [] V (zr K)) : vMR E d M_X3_factsIn [sl g 0, wi x1] V K := by
  intro G A hR
  obtain ⟨L, P, rfl, hS⟩ := hR
  have hx := Xt.refl (V := pl G A L P) (A := A)
  show wpM E d M_X3_factsIn [vr (A g 0), vi x1] G _
  refine wpM_of mk_X3_factsIn (Nat.le_of_ble_eq_true rfl) ?_
  refine v_X3_factsIn_0 ?_
  exact wp.mono (h G A ⟨L, P, rfl, hS⟩) (fun r G' q => qx_trans hx q)
theorem w_X3_factsIn_2 {E : EE} {d : Nat} {V : VH} {K : Nat → Nat → VH → Prop} {g : Nat} {x1 : Int32} {x2 : Int32} (hg : PG (vL V) g) (h : ((vI V g 4 (Int32.toNatClampNeg 0)) ≤ x2 → K g 30 V) ∧ (¬ ((vI V g 4 (Int32.toNatClampNeg 0)) ≤ x2) → vp_in x1 6 ∧ (((((vI V g 25 (Int32.toNatClampNeg x1)) >>> (x2 &&& 31)) &&& 1) = 0 → vwp E d M_X3_factsIn 30 [some (sl g 0), some (wi x1), some (wi x2), none] [wi 0] V (zr K)) ∧ (¬ ((((vI V g 25 (Int32.toNatClampNeg x1)) >>> (x2 &&& 31)) &&& 1) = 0) → vwp E d M_X3_factsIn 30 [some (sl g 0), some (wi x1), some (wi x2), none] [wi 1] V (zr K))))) : vwp E d M_X3_factsIn 2 [some (sl g 0), some (wi x1), some (wi x2), none] [] V (zr K) := by
  intro G A hR
  obtain ⟨L, P, rfl, hS⟩ := hR
  have hx := Xt.refl (V := pl G A L P) (A := A)
  show wp E d M_X3_factsIn 2 [some (vr (A g 0)), some (vi x1), some (vi x2), none] [] G _
  refine v_X3_factsIn_2 ?_
  refine ⟨hS.o (sP_0 hg), ?_⟩
  rw [lP_0_3 hS hg]
  refine ⟨hS.o (sP_4 hg), ?_⟩
  refine ⟨by first | (rw [(nP_4 hS hg)]; unfold vp_in; decide) | exact (congrArg (vp_in _) (nP_4 hS hg)).mpr (by unfold vp_in; decide) | (unfold vp_in; decide), ?_⟩
  refine ⟨fun hc => ?_, fun hc => ?_⟩
  · have h := h.1 hc
    rw [lP_0_17 hS hg]
    exact qx_r hS hx h
  · have h := h.2 hc
    rw [lP_0_12 hS hg]
    refine ⟨hS.o (sP_25 hg), ?_⟩
    obtain ⟨hi2, h⟩ := h
    refine ⟨by first | (rw [(nP_25 hS hg)]; exact hi2) | exact (congrArg (vp_in _) (nP_25 hS hg)).mpr hi2 | exact hi2, ?_⟩
    refine ⟨fun hc => ?_, fun hc => ?_⟩
    · have h := h.1 hc
      exact wp.mono (h G A ⟨L, P, rfl, hS⟩) (fun r G' q => qx_trans hx q)
    · have h := h.2 hc
      exact wp.mono (h G A ⟨L, P, rfl, hS⟩) (fun r G' q => qx_trans hx q)
theorem w_X3_factsIn_30 {E : EE} {d : Nat} {V : VH} {K : Nat → Nat → VH → Prop} {g : Nat} {x1 : Int32} {x2 : Int32} {t0 : Int32} (hg : PG (vL V) g) (h : (t0 = 0 → vp_in x2 16 ∧ (vwp E d M_X3_factsIn 60 [some (sl g 0), some (wi x1), some (wi x2), some (wi t0)] [wi (vI V g 23 (Int32.toNatClampNeg x2)), wi x2, sl g 30] V (zr K))) ∧ (¬ (t0 = 0) → vp_in ((x1 * 16) + x2) 96 ∧ (vwp E d M_X3_factsIn 60 [some (sl g 0), some (wi x1), some (wi x2), some (wi t0)] [wi (vI V g 26 (Int32.toNatClampNeg ((x1 * 16) + x2))), wi x2, sl g 30] V (zr K)))) : vwp E d M_X3_factsIn 30 [some (sl g 0), some (wi x1), some (wi x2), none] [wi t0] V (zr K) := by
  intro G A hR
  obtain ⟨L, P, rfl, hS⟩ := hR
  have hx := Xt.refl (V := pl G A L P) (A := A)
  show wp E d M_X3_factsIn 30 [some (vr (A g 0)), some (vi x1), some (vi x2), none] [vi t0] G _
  refine v_X3_factsIn_30 ?_
  refine ⟨hS.o (sP_0 hg), ?_⟩
  rw [lP_0_17 hS hg]
  refine ⟨fun hc => ?_, fun hc => ?_⟩
  · have h := h.1 hc
    rw [lP_0_7 hS hg]
    refine ⟨hS.o (sP_23 hg), ?_⟩
    obtain ⟨hi1, h⟩ := h
    refine ⟨by first | (rw [(nP_23 hS hg)]; exact hi1) | exact (congrArg (vp_in _) (nP_23 hS hg)).mpr hi1 | exact hi1, ?_⟩
    exact wp.mono (h G A ⟨L, P, rfl, hS⟩) (fun r G' q => qx_trans hx q)
  · have h := h.2 hc
    rw [lP_0_13 hS hg]
    refine ⟨hS.o (sP_26 hg), ?_⟩
    obtain ⟨hi2, h⟩ := h
    refine ⟨by first | (rw [(nP_26 hS hg)]; exact hi2) | exact (congrArg (vp_in _) (nP_26 hS hg)).mpr hi2 | exact hi2, ?_⟩
    exact wp.mono (h G A ⟨L, P, rfl, hS⟩) (fun r G' q => qx_trans hx q)
theorem w_X3_factsIn_60 {E : EE} {d : Nat} {V : VH} {K : Nat → Nat → VH → Prop} {g : Nat} {x1 : Int32} {x2 : Int32} {x3 : Int32} {a90 f90 : Nat} {t1 : Int32} {t2 : Int32} (hg : PG (vL V) g) (hA90 : SL (vL V) a90 f90 14) (h : vp_in t1 (vN V a90 f90) ∧ (∀ V2 : VH, V2 = wrI V a90 f90 (Int32.toNatClampNeg t1) t2 → vwp E d M_X3_factsIn 2 [some (sl g 0), some (wi x1), some (wi (x2 + 1)), none] [] V2 (zr K))) : vwp E d M_X3_factsIn 60 [some (sl g 0), some (wi x1), some (wi x2), some (wi x3)] [wi t2, wi t1, sl a90 f90] V (zr K) := by
  intro G A hR
  obtain ⟨L, P, rfl, hS⟩ := hR
  have hx := Xt.refl (V := pl G A L P) (A := A)
  show wp E d M_X3_factsIn 60 [some (vr (A g 0)), some (vi x1), some (vi x2), some (vi x3)] [vi t2, vi t1, vr (A a90 f90)] G _
  refine v_X3_factsIn_60 ?_
  refine ⟨hS.o hA90, ?_⟩
  obtain ⟨hi1, h⟩ := h
  refine ⟨hi1, ?_⟩
  have hS2 : Sh E (sI G (A a90 f90) (Int32.toNatClampNeg t1) t2) A L P := Sh_sI (rfl : sI G (A a90 f90) (Int32.toNatClampNeg t1) t2 = sI G (A a90 f90) (Int32.toNatClampNeg t1) t2) hS hA90 (okT_0 rfl)
  have h := h (pl (sI G (A a90 f90) (Int32.toNatClampNeg t1) t2) A L P) (pl_sI (rfl : sI G (A a90 f90) (Int32.toNatClampNeg t1) t2 = sI G (A a90 f90) (Int32.toNatClampNeg t1) t2) hS hA90)
  have hx2 : Xt (pl G A L P) A (pl (sI G (A a90 f90) (Int32.toNatClampNeg t1) t2) A L P) A := Xt_sI (rfl : sI G (A a90 f90) (Int32.toNatClampNeg t1) t2 = sI G (A a90 f90) (Int32.toNatClampNeg t1) t2) hx
  exact wp.mono (h (sI G (A a90 f90) (Int32.toNatClampNeg t1) t2) A ⟨L, P, rfl, hS2⟩) (fun r G' q => qx_trans hx2 q)
theorem w_X3_sumOverFutures_0 {E : EE} {d : Nat} {V : VH} {K : Int32 → VH → Prop} {g : Nat} {x1 : Int32} (hg : PG (vL V) g) (h0 : 0 < d) (h : vMV E (d - 1) M_J7_fill_d0a16 [sl g 28, wj 0] V (fun V1 => vwp E d M_X3_sumOverFutures 12 [some (sl g 0), some (wi x1), some (wi 1), some (wi 0), none, none] [] V1 (zi K))) : vMI E d M_X3_sumOverFutures [sl g 0, wi x1] V K := by
  intro G A hR
  obtain ⟨L, P, rfl, hS⟩ := hR
  have hx := Xt.refl (V := pl G A L P) (A := A)
  show wpM E d M_X3_sumOverFutures [vr (A g 0), vi x1] G _
  refine wpM_of mk_X3_sumOverFutures (Nat.le_of_ble_eq_true rfl) ?_
  refine v_X3_sumOverFutures_0 h0 ?_
  refine ⟨hS.o (sP_0 hg), ?_⟩
  rw [lP_0_15 hS hg]
  refine wpM.mono (h G A ⟨L, P, rfl, hS⟩) (fun rr1 G1 hr => ?_)
  obtain ⟨A1, W1, w1, ⟨L1, P1, rfl, hS1⟩, hy1, rfl, rfl, h⟩ := hr
  refine ⟨rfl, ?_⟩
  have hx1 := Xt.trans hx hy1
  have hg2 : PG L1 g := PG.up hy1 hg
  have ee3 : A1 g 0 = A g 0 := hy1.2 _ _ hg.1 (((nP_0 hS1 hg2)).trans ((nP_0 hS hg)).symm)
  try rw [← ee3]
  exact wp.mono (h G1 A1 ⟨L1, P1, rfl, hS1⟩) (fun r G' q => qx_trans hx1 q)
