/-! the regions that make tables and problems, over the view -/
theorem w_tab {g f m n : Nat} (hg : g ≠ 0) (hf : f = 20 ∨ f = 22) (h1 : m < n) (h2 : n ≤ 20000) (h3 : 2 * m ≤ n ∨ n = 20000) : w64 g f m + 64 ≤ w64 g f n ∧ w2 g f m + n ≤ w2 g f n := by
  have q1 : g ≠ 0 ∧ (f = 20 ∨ f = 21 ∨ f = 22) := ⟨hg, by omega⟩
  have q2 : g ≠ 0 ∧ (f = 20 ∨ f = 22) := ⟨hg, hf⟩
  unfold w64 w2
  rw [if_pos q1, if_pos q1, if_pos q2, if_pos q2, if_pos (show m < 20000 by omega)]
  refine ⟨by omega, ?_⟩
  split <;> omega
theorem w_tab3 {g m n : Nat} (hg : g ≠ 0) (h1 : m < n) (h2 : n ≤ 20000) (h3 : 2 * m ≤ n ∨ n = 20000) : w64 g 21 (3 * m) + 64 ≤ w64 g 21 (3 * n) ∧ w2 g 21 (3 * m) + 3 * n ≤ w2 g 21 (3 * n) := by
  have q1 : g ≠ 0 ∧ (21 = 20 ∨ 21 = 21 ∨ 21 = 22) := ⟨hg, by omega⟩
  have q2 : ¬ (g ≠ 0 ∧ (21 = 20 ∨ 21 = 22)) := fun q => by omega
  have q3 : g ≠ 0 ∧ 21 = 21 := ⟨hg, rfl⟩
  unfold w64 w2
  rw [if_pos q1, if_pos q1, if_neg q2, if_neg q2, if_pos q3, if_pos q3, if_pos (show 3 * m < 60000 by omega)]
  refine ⟨by omega, ?_⟩
  split <;> omega
section
variable {E : EE} {d : Nat} {V : VH} {g : Nat}
theorem w_X9_renew_0 {pl0 cap n : Nat} {K : VH → Prop} (h0 : 1 < d) (hg : PG (vL V) g) (hp : vI V g 5 1 = nI pl0) (hp2 : pl0 ≤ 20000) (hcap : cap ≤ 1000000) (n22 : vN V g 22 = cap) (n20 : vN V g 20 = cap) (n21 : vN V g 21 = 3 * cap) (hn : n = max pl0 (min 20000 (2 * cap)))
    (h1 : ¬ vI V g 19 0 = 0 → K V)
    (h2 : vI V g 19 0 = 0 → pl0 ≤ cap → vwp E d M_X9_renew 66 [some (sl g 19), some (sl g 0), some (wi (nI pl0)), none] [] V (zv K))
    (h3 : vI V g 19 0 = 0 → cap < pl0 → vwp E d M_X9_renew 66 [some (sl g 19), some (sl g 0), some (wi (nI pl0)), none] [] (gr0 (gr0 (gr0 V g 22 n) g 20 n) g 21 (3 * n)) (zv K)) : vMV E d M_X9_renew [sl g 19, sl g 0] V K := by
  intro G A hR
  obtain ⟨L, P, rfl, hS⟩ := hR
  show wpM E d M_X9_renew [vr (A g 19), vr (A g 0)] G _
  refine wpM_of mk_X9_renew (Nat.le_of_ble_eq_true rfl) ?_
  have n22 : gN G (A g 22) = cap := n22
  have n20 : gN G (A g 20) = cap := n20
  have n21 : gN G (A g 21) = 3 * cap := n21
  have hp : gI G (A g 5) 1 = nI pl0 := hp
  refine v_X9_renew_0 (by omega) ⟨hS.o (sP_19 hg), fun hf => ⟨hS.o (sP_0 hg), ?_⟩, fun hf => qx_v hS Xt.refl (h1 hf)⟩
  rw [lP_0_4 hS hg, lP_19_7 hS hg, n22, hp]
  by_cases hlt : pl0 ≤ cap
  · exact ⟨hS.o (sP_5 hg), hS.o (sP_22 hg), fun hc => h2 hf hlt G A ⟨L, P, rfl, hS⟩, fun hc => absurd (nI_le hlt (by omega)) hc⟩
  · refine ⟨hS.o (sP_5 hg), hS.o (sP_22 hg), fun hc => absurd ((nI_leI (by omega) (by omega)).mp hc) hlt, fun hc => ?_⟩
    have en : imax (nI pl0) (imin 20000 (2 * nI cap)) = nI n := by
      rw [nI_2]
      have : (20000 : Int32) = nI 20000 := rfl
      rw [this]
      by_cases c : 2 * cap ≤ 20000
      · rw [imin_nI' c (by omega), imax_nI (by omega) (by omega), hn, Nat.min_eq_right c]
      · rw [imin_nI (by omega) (by omega), imax_nI (by omega) (by omega), hn, Nat.min_eq_left (by omega)]
    have hn2 : n ≤ 20000 := by omega
    have hn3 : cap < n := by omega
    have hn4 : 2 * cap ≤ n ∨ n = 20000 := by omega
    have en3 : (3 : Int32) * nI n = nI (3 * n) := nI_mul 3 n
    rw [en, en3, nI_clamp (show n < 2 ^ 31 by omega), nI_clamp (show 3 * n < 2 ^ 31 by omega)]
    refine ⟨hS.2.2.2.2.2.2.2.2.2, nI_pos (by omega), by omega, fun G14 e14 G19 e19 => ⟨nI_pos (by omega), by omega, fun G29 e29 G34 e34 => ⟨nI_pos (by omega), by omega, fun G44 e44 G49 e49 => ?_⟩⟩⟩
    have hg0 : g ≠ 0 := hg.2.1
    subst e14
    obtain ⟨A1, hS1, hq1, hx1, hA1⟩ := Sh_gr0 (n := n) hS (go_sets hS.1.2.2 hg) (by rw [n22]; exact (w_tab hg0 (Or.inr rfl) hn3 hn2 hn4).1) (by rw [n22]; exact (w_tab hg0 (Or.inr rfl) hn3 hn2 hn4).2) (by omega) (Or.inl rfl) e19
    have a1 : A1 g 19 = A g 19 := hA1 g 19 (fun q => by omega)
    have m20 : gN G19 (A1 g 20) = cap := ((congrFun (congrFun (congrArg vN hq1) g) 20).trans (if_neg (fun q => by omega))).trans n20
    have m21 : gN G19 (A1 g 21) = 3 * cap := ((congrFun (congrFun (congrArg vN hq1) g) 21).trans (if_neg (fun q => by omega))).trans n21
    rw [← a1] at e34 e49
    subst e29
    obtain ⟨A2, hS2, hq2, hx2, hA2⟩ := Sh_gr0 (n := n) hS1 (go_list hS1.1.2.2 hg) (by rw [m20]; exact (w_tab hg0 (Or.inl rfl) hn3 hn2 hn4).1) (by rw [m20]; exact (w_tab hg0 (Or.inl rfl) hn3 hn2 hn4).2) (by omega) (Or.inl rfl) e34
    have a2 : A2 g 19 = A1 g 19 := hA2 g 19 (fun q => by omega)
    have k21 : gN G34 (A2 g 21) = 3 * cap := ((congrFun (congrFun (congrArg vN hq2) g) 21).trans (if_neg (fun q => by omega))).trans m21
    rw [← a2] at e49
    subst e44
    obtain ⟨A3, hS3, hq3, hx3, hA3⟩ := Sh_gr0 (n := 3 * n) hS2 (go_scores hS2.1.2.2 hg) (by rw [k21]; exact (w_tab3 hg0 hn3 hn2 hn4).1) (by rw [k21]; exact (w_tab3 hg0 hn3 hn2 hn4).2) (by omega) (Or.inr (Or.inl rfl)) e49
    have a3 : A3 g 19 = A2 g 19 := hA3 g 19 (fun q => by omega)
    have b3 : A3 g 0 = A g 0 := (hA3 g 0 (fun q => by omega)).trans ((hA2 g 0 (fun q => by omega)).trans (hA1 g 0 (fun q => by omega)))
    have q : wp E d M_X9_renew 66 [some (vr (A3 g 19)), some (vr (A3 g 0)), some (vi (nI pl0)), none] [] _ _ := h3 hf (by omega) G49 A3 ⟨L, P, by rw [hq3, hq2, hq1], hS3⟩
    rw [a3, a2, a1, b3] at q
    have hx := hx1.trans (hx2.trans hx3)
    rw [hq3, hq2, hq1] at hx
    exact wp.mono q (fun r G' z => qx_trans hx z)
theorem w_X1_lookAtSets_0 {K : Int32 → VH → Prop} (h0 : 0 < d) (hg : PG (vL V) g) (h : vMV E (d - 1) M_X1_listRules [sl 0 10, sl g 0] V (fun V1 => vN V1 0 15 < 2 ^ 31 ∧ (vN V1 0 15 ≠ 0 → vwp E d M_X1_lookAtSets 22 [some (sl 0 10), some (sl g 0), none, none, none, none] [] V1 (zi K)) ∧ (vN V1 0 15 = 0 → vwp E d M_X1_lookAtSets 22 [some (sl 0 10), some (sl g 0), none, none, none, none] [] (gr0 V1 0 15 4096) (zi K)))) : vMI E d M_X1_lookAtSets [sl 0 10, sl g 0] V K := by
  intro G A hR
  obtain ⟨L, P, rfl, hS⟩ := hR
  show wpM E d M_X1_lookAtSets [vr (A 0 10), vr (A g 0)] G _
  refine wpM_of mk_X1_lookAtSets (Nat.le_of_ble_eq_true rfl) ?_
  refine v_X1_lookAtSets_0 h0 ⟨hS.o (s0_10 hS), ?_⟩
  refine wpM.mono (h G A ⟨L, P, rfl, hS⟩) (fun rr G1 hr => ?_)
  obtain ⟨A1, W1, w1, ⟨L1, P1, rfl, hS1⟩, hy, rfl, rfl, h31, h1, h2⟩ := hr
  refine ⟨rfl, ?_⟩
  have h31 : gN G1 (A1 0 15) < 2 ^ 31 := h31
  have hg1 : PG L1 g := PG.up hy hg
  have e10 : A1 0 10 = A 0 10 := hy.2 _ _ hS.1.1 ((n0_10 hS1).trans (n0_10 hS).symm)
  have eg : A1 g 0 = A g 0 := hy.2 _ _ hg.1 ((nP_0 hS1 hg1).trans (nP_0 hS hg).symm)
  show isO E G1 (A 0 10) 1 ∧ _
  rw [← e10, ← eg, l0_10_5 hS1]
  refine ⟨hS1.o (s0_10 hS1), hS1.o (s0_15 hS1), fun hc => ?_, fun hc => ?_⟩
  · have hz : gN G1 (A1 0 15) ≠ 0 := fun q => hc (by rw [q]; rfl)
    exact wp.mono (h1 hz G1 A1 ⟨L1, P1, rfl, hS1⟩) (fun r G' z => qx_trans hy z)
  · have hz : gN G1 (A1 0 15) = 0 := by
      have e : nI (gN G1 (A1 0 15)) = nI 0 := hc
      exact (nI_eq h31 (by decide)).mp e
    refine ⟨hS1.2.2.2.2.2.2.2.2.2, fun G9 e9 G13 e13 => ?_⟩
    subst e9
    have ec : Int32.toNatClampNeg 4096 = 4096 := rfl
    rw [ec] at e13
    obtain ⟨A2, hS2, hq2, hx2, hA2⟩ := Sh_gr0 (n := 4096) hS1 (go_suff hS1.1.1) (by rw [hz]; decide) (by rw [hz]; decide) (by omega) (Or.inr (Or.inr rfl)) e13
    have b1 : A2 0 10 = A1 0 10 := hA2 0 10 (fun q => by omega)
    have b2 : A2 g 0 = A1 g 0 := hA2 g 0 (fun q => by omega)
    have q : wp E d M_X1_lookAtSets 22 [some (vr (A2 0 10)), some (vr (A2 g 0)), none, none, none, none] [] _ _ := h2 hz G13 A2 ⟨L1, P1, hq2.symm, hS2⟩
    rw [b1, b2] at q
    rw [hq2] at hx2
    exact wp.mono q (fun r G' z => qx_trans (hy.trans hx2) z)
theorem w_X11_roomFor {p : Nat} {K : Nat → VH → Prop} (h0 : 2 < d) (hp : p < 4) (hP : ¬ vL V (p + 1) = true → vP V ≠ p + 1 ∧ vQ V ≠ p + 1) (h1 : vL V (p + 1) = true → K (p + 1) V) (h2 : ¬ vL V (p + 1) = true → ∀ V', NewP V V' (p + 1) → K (p + 1) V') : vMP E d M_X11_roomFor [sl 0 28, wi (nI p)] V K := by
  intro G A hR
  obtain ⟨L, P, rfl, hS⟩ := hR
  show wpM E d M_X11_roomFor [vr (A 0 28), vi (nI p)] G _
  refine wpM_of mk_X11_roomFor (Nat.le_of_ble_eq_true rfl) ?_
  refine v_X11_roomFor_0 (by omega) ⟨hS.o (s0_28 hS), ?_⟩
  have ep : Int32.toNatClampNeg (nI p) = p := nI_clamp (by omega)
  have lk : gR G (A 0 9) p = A (p + 1) 0 := hS.2.2.2.2.2.1.1 p hp
  rw [l0_28_3 hS, ep, lk, n0_9 hS]
  refine ⟨hS.o (s0_9 hS), vp_in_nI hp (by decide), fun hc => ?_, fun hc => ?_⟩
  · have hn : ¬ L (p + 1) = true := (hS.null (nf_pos _)).mp hc
    refine ⟨hS.2.2.2.2.2.2.2.2.2, fun G9 e9 => ?_⟩
    have hb := hS.2.2.2.2.2.2.2.2.2
    refine wpM.mono (c_X3_init (by omega) (isO_newE e9 hb) (base_nwE e9 hb)) (fun rr G13 hr => ?_)
    obtain ⟨rfl, u, kd0, ln, cI, cJ, cR, tI, tJ, tR, hc, hs⟩ := hr
    refine ⟨rfl, ?_⟩
    have t9 : gT G9 = gT G + 1 := by rw [e9]; rfl
    have keep : ∀ b c, b < 29 → kd 0 b = c → isO E G13 (A 0 b) c ∧ gR G13 (A 0 b) = gR G (A 0 b) ∧ gN G13 (A 0 b) = gN G (A 0 b) := fun b c hb hk => by
      have o := hS.2.1 0 b hS.1.1 hb
      have l1 := hc.2.2.1 (A 0 b) (by rw [t9]; have := o.2.1; omega)
      have l2 := hc.2.2.2.1 (A 0 b) (by rw [t9]; have := o.2.1; omega) (Nat.ne_of_lt o.2.1)
      have k1 : gK G9 (A 0 b) = gK G (A 0 b) := by rw [e9]; exact if_neg (Nat.ne_of_lt o.2.1)
      have k2 : gR G9 (A 0 b) = gR G (A 0 b) := by rw [e9]; exact if_neg (Nat.ne_of_lt o.2.1)
      have k3 : gN G9 (A 0 b) = gN G (A 0 b) := by rw [e9]; exact if_neg (Nat.ne_of_lt o.2.1)
      exact ⟨⟨o.1, by rw [hc.1, t9]; have := o.2.1; omega, l1.1.trans (k1.trans (o.2.2.trans hk))⟩, l2.2.2.trans k2, l1.2.trans k3⟩
    have k28 := keep 28 11 (by decide) rfl
    have k9 := keep 9 17 (by decide) rfl
    show isO E G13 (A 0 28) 11 ∧ _
    rw [k28.2.1, l0_28_3 hS, k9.2.2, n0_9 hS]
    have o3 : isO E G13 (gT G) 3 := ⟨hb, by rw [hc.1, t9]; omega, (hc.2.2.1 (gT G) (by rw [t9]; omega)).1.trans (by rw [e9]; exact if_pos rfl)⟩
    refine ⟨k28.1, k9.1, vp_in_nI hp (by decide), o3, fun G18 e18 => ?_⟩
    obtain ⟨A', V', hR', hx, hN, hA0, hA'⟩ := Sh_newP (o := 9) (k := p) hS hn (by omega) (hP hn) e9 hc hs (Or.inl ⟨by omega, rfl, rfl⟩) e18
    refine ⟨A', V', some (sl (p + 1) 0), hR', hx, ?_, p + 1, rfl, h2 hn V' hN⟩
    show some (vr (gT G)) = some (vr (A' (p + 1) 0))
    rw [hA0]
  · exact qx_p hS Xt.refl (h1 (hS.lv0 hc))
theorem w_X11_bring_0 {K : Int32 → VH → Prop} (h0 : 2 < d) (h : vMI E (d - 1) M_X8_announced [sl 0 23, sl 0 0] V (fun r V1 => (¬ 0 ≤ r → K (-1) V1) ∧ (0 ≤ r → (vL V1 5 = true → vwp E d M_X11_bring 36 [some (sl 0 28), some (wi r), none, none, none] [] V1 (zi K)) ∧ (¬ vL V1 5 = true → (vP V1 ≠ 5 ∧ vQ V1 ≠ 5) ∧ ∀ V', NewP V1 V' 5 → vwp E d M_X11_bring 36 [some (sl 0 28), some (wi r), none, none, none] [] V' (zi K))))) : vMI E d M_X11_bring [sl 0 28] V K := by
  intro G A hR
  obtain ⟨L, P, rfl, hS⟩ := hR
  show wpM E d M_X11_bring [vr (A 0 28)] G _
  refine wpM_of mk_X11_bring (Nat.le_of_ble_eq_true rfl) ?_
  refine v_X11_bring_0 (by omega) ⟨hS.o (s0_28 hS), ?_⟩
  rw [l0_28_7 hS, l0_28_0 hS]
  refine ⟨hS.o (s0_23 hS), ?_⟩
  refine wpM.mono (h G A ⟨L, P, rfl, hS⟩) (fun rr G3 hr => ?_)
  obtain ⟨A1, W1, w1, ⟨L1, P1, rfl, hS1⟩, hy, rfl, r, rfl, h1, h2⟩ := hr
  refine ⟨r, rfl, fun hr => ?_, fun hr => ?_⟩
  · have e28 : A1 0 28 = A 0 28 := hy.2 _ _ hS.1.1 ((n0_28 hS1).trans (n0_28 hS).symm)
    rw [← e28, l0_28_8 hS1]
    refine ⟨hS1.o (s0_28 hS1), fun hc => ?_, fun hc => ?_⟩
    · exact wp.mono ((h2 hr).1 (hS1.lv0 hc) G3 A1 ⟨L1, P1, rfl, hS1⟩) (fun r G' z => qx_trans hy z)
    · have hn : ¬ L1 5 = true := (hS1.null (nf_pos _)).mp hc
      have hb := hS1.2.2.2.2.2.2.2.2.2
      refine ⟨hb, fun G9 e9 => ?_⟩
      refine wpM.mono (c_X3_init (by omega) (isO_newE e9 hb) (base_nwE e9 hb)) (fun rr G13 hr => ?_)
      obtain ⟨rfl, u, kd0, ln, cI, cJ, cR, tI, tJ, tR, hc, hs⟩ := hr
      refine ⟨rfl, ?_⟩
      have t9 : gT G9 = gT G3 + 1 := by rw [e9]; rfl
      have o := hS1.2.1 0 28 hS1.1.1 (by decide)
      have l1 := hc.2.2.1 (A1 0 28) (by rw [t9]; have := o.2.1; omega)
      have k1 : gK G9 (A1 0 28) = gK G3 (A1 0 28) := by rw [e9]; exact if_neg (Nat.ne_of_lt o.2.1)
      refine ⟨⟨o.1, by rw [hc.1, t9]; have := o.2.1; omega, l1.1.trans (k1.trans o.2.2)⟩, fun G15 e15 => ?_⟩
      obtain ⟨A', V', hR', hx, hN, hA0, hA'⟩ := Sh_newP (o := 28) (k := 8) hS1 hn (by decide) ((h2 hr).2 hn).1 e9 hc hs (Or.inr ⟨rfl, rfl, rfl⟩) e15
      have b1 : A' 0 28 = A1 0 28 := hA' 0 28 (by decide)
      have q : wp E d M_X11_bring 36 [some (vr (A' 0 28)), some (vi r), none, none, none] [] _ _ := ((h2 hr).2 hn).2 V' hN G15 A' hR'
      rw [b1] at q
      exact wp.mono q (fun r G' z => qx_trans (hy.trans hx) z)
  · exact ⟨A1, _, some (wi (-1)), ⟨L1, P1, rfl, hS1⟩, hy, rfl, -1, rfl, h1 hr⟩
end
