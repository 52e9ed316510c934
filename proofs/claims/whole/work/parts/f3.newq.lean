/-! bring: a new spare problem has an empty text -/
section
variable {E : EE} {d : Nat} {V : VH}
theorem w_X11_bring_0t {K : Int32 → VH → Prop} (h0 : 2 < d) (h : vMI E (d - 1) M_X8_announced [sl 0 23, sl 0 0] V (fun r V1 => (¬ 0 ≤ r → K (-1) V1) ∧ (0 ≤ r → (vL V1 5 = true → vwp E d M_X11_bring 36 [some (sl 0 28), some (wi r), none, none, none] [] V1 (zi K)) ∧ (¬ vL V1 5 = true → (vP V1 ≠ 5 ∧ vQ V1 ≠ 5) ∧ ∀ V', NewP V1 V' 5 → vI V' 5 1 1 = 0 → vwp E d M_X11_bring 36 [some (sl 0 28), some (wi r), none, none, none] [] V' (zi K))))) : vMI E d M_X11_bring [sl 0 28] V K := by
  intro G A hR
  obtain ⟨L, P, rfl, hS⟩ := hR
  show wpM E d M_X11_bring [vr (A 0 28)] G _
  refine wpM_of mk_X11_bring (Nat.le_of_ble_eq_true rfl) ?_
  refine v_X11_bring_0 (by omega) ⟨hS.o (s0_28 hS), ?_⟩
  rw [l0_28_7 hS, l0_28_0 hS]
  refine ⟨hS.o (s0_23 hS), ?_⟩
  refine wpM.mono (h G A ⟨L, P, rfl, hS⟩) (fun rr G3 hr => ?_)
  obtain ⟨A1, W1, w1, ⟨L1, P1, rfl, hS1⟩, hy, rfl, r, rfl, h1, h2⟩ := hr
  refine ⟨r, rfl, fun hr => ?_, fun hr => ?_⟩
  · have e28 : A1 0 28 = A 0 28 := hy.2 _ _ hS.1.1 ((n0_28 hS1).trans (n0_28 hS).symm)
    rw [← e28, l0_28_8 hS1]
    refine ⟨hS1.o (s0_28 hS1), fun hc => ?_, fun hc => ?_⟩
    · exact wp.mono ((h2 hr).1 (hS1.lv0 hc) G3 A1 ⟨L1, P1, rfl, hS1⟩) (fun r G' z => qx_trans hy z)
    · have hn : ¬ L1 5 = true := (hS1.null (nf_pos _)).mp hc
      have hb := hS1.2.2.2.2.2.2.2.2.2
      refine ⟨hb, fun G9 e9 => ?_⟩
      refine wpM.mono (c_X3_init (by omega) (isO_newE e9 hb) (base_nwE e9 hb)) (fun rr G13 hr => ?_)
      obtain ⟨rfl, u, kd0, ln, cI, cJ, cR, tI, tJ, tR, hc, hs⟩ := hr
      refine ⟨rfl, ?_⟩
      have t9 : gT G9 = gT G3 + 1 := by rw [e9]; rfl
      have o := hS1.2.1 0 28 hS1.1.1 (by decide)
      have l1 := hc.2.2.1 (A1 0 28) (by rw [t9]; have := o.2.1; omega)
      have k1 : gK G9 (A1 0 28) = gK G3 (A1 0 28) := by rw [e9]; exact if_neg (Nat.ne_of_lt o.2.1)
      refine ⟨⟨o.1, by rw [hc.1, t9]; have := o.2.1; omega, l1.1.trans (k1.trans o.2.2)⟩, fun G15 e15 => ?_⟩
      obtain ⟨A', V', hR', hx, hN, hA0, hA'⟩ := Sh_newP (o := 28) (k := 8) hS1 hn (by decide) ((h2 hr).2 hn).1 e9 hc hs (Or.inr ⟨rfl, rfl, rfl⟩) e15
      have b1 : A' 0 28 = A1 0 28 := hA' 0 28 (by decide)
      have tl : vI V' 5 1 1 = 0 := by
        obtain ⟨L', P', rfl, hS'⟩ := hR'
        have l5 : L' 5 = true := by
          have : (pl G15 A' L' P').2.1 5 = _ := congrFun hN.1 5
          exact this.trans (if_pos rfl)
        have lk : gR G15 (A' 5 0) 1 = A' 5 1 := hS'.2.2.2.2.1 5 l5 (0, 1, 1) (by decide)
        have ne : gT G3 ≠ A1 0 28 := Nat.ne_of_gt o.2.1
        have cc := hs
        unfold cs_X3_init at cc
        have t1 : tR 1 = gT G9 + 0 := cc.2.2.2.2.2.1
        have c01 : cI 0 1 = 0 := cc.2.2.2.2.2.2.2.2.2.2.2.2.2.2.2.2.2.2.2.2.2.2.1
        have r1 : gR G15 (gT G3) 1 = tR 1 := by
          rw [e15]
          show (if gT G3 = A1 0 28 ∧ 1 = 8 then gT G3 else gR G13 (gT G3) 1) = _
          rw [if_neg (fun w => ne w.1)]
          exact congrFun hc.2.2.2.2.2.2.1 1
        show gI G15 (A' 5 1) 1 = 0
        rw [← lk, hA0, r1, t1, e15]
        show gI G13 (gT G9 + 0) 1 = 0
        rw [(hc.2.2.2.2.2.2.2 0 (by decide)).2.2.1]
        exact c01
      have q : wp E d M_X11_bring 36 [some (vr (A' 0 28)), some (vi r), none, none, none] [] _ _ := ((h2 hr).2 hn).2 V' hN tl G15 A' hR'
      rw [b1] at q
      exact wp.mono q (fun r G' z => qx_trans (hy.trans hx) z)
  · exact ⟨A1, _, some (wi (-1)), ⟨L1, P1, rfl, hS1⟩, hy, rfl, -1, rfl, h1 hr⟩
end
