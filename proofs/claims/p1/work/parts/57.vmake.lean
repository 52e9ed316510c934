section
variable {E : EE} {d : Nat} {V : VH} {g : Nat}
theorem w_X11_roomFor {p : Nat} {K : Nat → VH → Prop} (h0 : 2 < d) (hp : p < 4) (hP : ¬ vL V (p + 1) = true → vP V ≠ p + 1 ∧ vQ V ≠ p + 1) (h1 : vL V (p + 1) = true → K (p + 1) V) (h2 : ¬ vL V (p + 1) = true → ∀ V', NewP V V' (p + 1) → K (p + 1) V') : vMP E d M_X11_roomFor [sl 0 28, wi (nI p)] V K := by
  intro G A hR
  obtain ⟨L, P, rfl, hS⟩ := hR
  show wpM E d M_X11_roomFor [vr (A 0 28), vi (nI p)] G _
  refine wpM_of mk_X11_roomFor (Nat.le_of_ble_eq_true rfl) ?_
  refine v_X11_roomFor_0 (by omega) ⟨hS.o (s0_28 hS), ?_⟩
  have ep : Int32.toNatClampNeg (nI p) = p := nI_clamp (by omega)
  have lk : gR G (A 0 9) p = A (p + 1) 0 := hS.2.2.2.2.2.1.1 p hp
  rw [l0_28_3 hS, ep, lk, n0_9 hS]
  refine ⟨hS.o (s0_9 hS), vp_in_nI hp (by decide), fun hc => ?_, fun hc => ?_⟩
  · have hn : ¬ L (p + 1) = true := (hS.null (nf_pos _)).mp hc
    refine ⟨hS.2.2.2.2.2.2.2.2.2, fun G9 e9 => ?_⟩
    have hb := hS.2.2.2.2.2.2.2.2.2
    refine wpM.mono (c_X3_init (by omega) (isO_newE e9 hb) (base_nwE e9 hb)) (fun rr G13 hr => ?_)
    obtain ⟨rfl, u, kd0, ln, cI, cJ, cR, tI, tJ, tR, hc, hs⟩ := hr
    refine ⟨rfl, ?_⟩
    have t9 : gT G9 = gT G + 1 := by rw [e9]; rfl
    have keep : ∀ b c, b < 29 → kd 0 b = c → isO E G13 (A 0 b) c ∧ gR G13 (A 0 b) = gR G (A 0 b) ∧ gN G13 (A 0 b) = gN G (A 0 b) := fun b c hb hk => by
      have o := hS.2.1 0 b hS.1.1 hb
      have l1 := hc.2.2.1 (A 0 b) (by rw [t9]; have := o.2.1; omega)
      have l2 := hc.2.2.2.1 (A 0 b) (by rw [t9]; have := o.2.1; omega) (Nat.ne_of_lt o.2.1)
      have k1 : gK G9 (A 0 b) = gK G (A 0 b) := by rw [e9]; exact if_neg (Nat.ne_of_lt o.2.1)
      have k2 : gR G9 (A 0 b) = gR G (A 0 b) := by rw [e9]; exact if_neg (Nat.ne_of_lt o.2.1)
      have k3 : gN G9 (A 0 b) = gN G (A 0 b) := by rw [e9]; exact if_neg (Nat.ne_of_lt o.2.1)
      exact ⟨⟨o.1, by rw [hc.1, t9]; have := o.2.1; omega, l1.1.trans (k1.trans (o.2.2.trans hk))⟩, l2.2.2.trans k2, l1.2.trans k3⟩
    have k28 := keep 28 11 (by decide) rfl
    have k9 := keep 9 17 (by decide) rfl
    show isO E G13 (A 0 28) 11 ∧ _
    rw [k28.2.1, l0_28_3 hS, k9.2.2, n0_9 hS]
    have o3 : isO E G13 (gT G) 3 := ⟨hb, by rw [hc.1, t9]; omega, (hc.2.2.1 (gT G) (by rw [t9]; omega)).1.trans (by rw [e9]; exact if_pos rfl)⟩
    refine ⟨k28.1, k9.1, vp_in_nI hp (by decide), o3, fun G18 e18 => ?_⟩
    obtain ⟨A', V', hR', hx, hN, hA0, hA'⟩ := Sh_newP (o := 9) (k := p) hS hn (by omega) (hP hn) e9 hc hs (Or.inl ⟨by omega, rfl, rfl⟩) e18
    refine ⟨A', V', some (sl (p + 1) 0), hR', hx, ?_, p + 1, rfl, h2 hn V' hN⟩
    show some (vr (gT G)) = some (vr (A' (p + 1) 0))
    rw [hA0]
  · exact qx_p hS Xt.refl (h1 (hS.lv0 hc))
theorem w_X11_bring_0 {K : Int32 → VH → Prop} (h0 : 2 < d) (h : vMI E (d - 1) M_X8_announced [sl 0 23, sl 0 0] V (fun r V1 => (¬ 0 ≤ r → K (-1) V1) ∧ (0 ≤ r → (vL V1 5 = true → vwp E d M_X11_bring 36 [some (sl 0 28), some (wi r), none, none, none] [] V1 (zi K)) ∧ (¬ vL V1 5 = true → (vP V1 ≠ 5 ∧ vQ V1 ≠ 5) ∧ ∀ V', NewP V1 V' 5 → vwp E d M_X11_bring 36 [some (sl 0 28), some (wi r), none, none, none] [] V' (zi K))))) : vMI E d M_X11_bring [sl 0 28] V K := by
  intro G A hR
  obtain ⟨L, P, rfl, hS⟩ := hR
  show wpM E d M_X11_bring [vr (A 0 28)] G _
  refine wpM_of mk_X11_bring (Nat.le_of_ble_eq_true rfl) ?_
  refine v_X11_bring_0 (by omega) ⟨hS.o (s0_28 hS), ?_⟩
  rw [l0_28_7 hS, l0_28_0 hS]
  refine ⟨hS.o (s0_23 hS), ?_⟩
  refine wpM.mono (h G A ⟨L, P, rfl, hS⟩) (fun rr G3 hr => ?_)
  obtain ⟨A1, W1, w1, ⟨L1, P1, rfl, hS1⟩, hy, rfl, r, rfl, h1, h2⟩ := hr
  refine ⟨r, rfl, fun hr => ?_, fun hr => ?_⟩
  · have e28 : A1 0 28 = A 0 28 := hy.2 _ _ hS.1.1 ((n0_28 hS1).trans (n0_28 hS).symm)
    rw [← e28, l0_28_8 hS1]
    refine ⟨hS1.o (s0_28 hS1), fun hc => ?_, fun hc => ?_⟩
    · exact wp.mono ((h2 hr).1 (hS1.lv0 hc) G3 A1 ⟨L1, P1, rfl, hS1⟩) (fun r G' z => qx_trans hy z)
    · have hn : ¬ L1 5 = true := (hS1.null (nf_pos _)).mp hc
      have hb := hS1.2.2.2.2.2.2.2.2.2
      refine ⟨hb, fun G9 e9 => ?_⟩
      refine wpM.mono (c_X3_init (by omega) (isO_newE e9 hb) (base_nwE e9 hb)) (fun rr G13 hr => ?_)
      obtain ⟨rfl, u, kd0, ln, cI, cJ, cR, tI, tJ, tR, hc, hs⟩ := hr
      refine ⟨rfl, ?_⟩
      have t9 : gT G9 = gT G3 + 1 := by rw [e9]; rfl
      have o := hS1.2.1 0 28 hS1.1.1 (by decide)
      have l1 := hc.2.2.1 (A1 0 28) (by rw [t9]; have := o.2.1; omega)
      have k1 : gK G9 (A1 0 28) = gK G3 (A1 0 28) := by rw [e9]; exact if_neg (Nat.ne_of_lt o.2.1)
      refine ⟨⟨o.1, by rw [hc.1, t9]; have := o.2.1; omega, l1.1.trans (k1.trans o.2.2)⟩, fun G15 e15 => ?_⟩
      obtain ⟨A', V', hR', hx, hN, hA0, hA'⟩ := Sh_newP (o := 28) (k := 8) hS1 hn (by decide) ((h2 hr).2 hn).1 e9 hc hs (Or.inr ⟨rfl, rfl, rfl⟩) e15
      have b1 : A' 0 28 = A1 0 28 := hA' 0 28 (by decide)
      have q : wp E d M_X11_bring 36 [some (vr (A' 0 28)), some (vi r), none, none, none] [] _ _ := ((h2 hr).2 hn).2 V' hN G15 A' hR'
      rw [b1] at q
      exact wp.mono q (fun r G' z => qx_trans (hy.trans hx) z)
  · exact ⟨A1, _, some (wi (-1)), ⟨L1, P1, rfl, hS1⟩, hy, rfl, -1, rfl, h1 hr⟩
end
