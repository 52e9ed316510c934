/-! the regions that make rows, over the view -/
section
variable {E : EE} {d : Nat} {V : VH} {g : Nat}
theorem w_X0_makeRoom {b c n : Nat} {K : VH → Prop} (h0 : 1 < d) (hB : BS (vL V) b c) (hcap : 64 ≤ vN V b (c + 1)) (hcap2 : vN V b (c + 1) ≤ 1000000) (hn : n ≤ 1000000)
    (h1 : n ≤ vN V b (c + 1) → K V) (h2 : vN V b (c + 1) < n → K (grI V b (c + 1) (max n (2 * vN V b (c + 1))))) : vMV E d M_X0_makeRoom [sl b c, wi (nI n)] V K := by
  intro G A hR
  obtain ⟨L, P, rfl, hS⟩ := hR
  show wpM E d M_X0_makeRoom [vr (A b c), vi (nI n)] G _
  refine wpM_of mk_X0_makeRoom (Nat.le_of_ble_eq_true rfl) ?_
  have hcap : 64 ≤ gN G (A b (c + 1)) := hcap
  have hcap2 : gN G (A b (c + 1)) ≤ 1000000 := hcap2
  have hp : ¬ (b ≠ 0 ∧ (c + 1 = 20 ∨ c + 1 = 21 ∨ c + 1 = 22)) := by
    obtain ⟨_, ⟨rfl, rfl | rfl⟩ | ⟨_, _, rfl⟩⟩ := hB <;> omega
  refine v_X0_makeRoom_0 (by omega) ⟨hS.o (BS.o hB), ?_⟩
  rw [BS.l hB hS]
  refine ⟨hS.o (BS.a hB), fun hc => ?_, fun hc => ?_⟩
  · exact qx_v hS Xt.refl (h1 ((nI_leI (by omega) (by omega)).mp hc))
  · have hlt : gN G (A b (c + 1)) < n := by
      have := mt (nI_leI (a := n) (b := gN G (A b (c + 1))) (by omega) (by omega)).mpr hc
      omega
    rw [nI_2, imax_nI (by omega) (by omega)]
    refine wpM.mono (c_copyB (by omega) (hS.o (BS.a hB)) hS.2.2.2.2.2.2.2.2.2 (by omega) (by omega) (fun i => hS.fit (BS.a hB) i)) (fun r G4 q => ?_)
    obtain ⟨r', rfl, rfl, rfl⟩ := q
    obtain ⟨A', hS', hq, hx, hA'⟩ := Sh_grI (n := max n (2 * gN G (A b (c + 1)))) hS (go_bytes hS.1.2.2 hB) (Or.inl rfl) hp (by omega) (by omega) rfl
    refine ⟨_, rfl, isO_cpI rfl (isO_nw (hS.o (BS.o hB))), ?_⟩
    exact ⟨A', _, none, ⟨L, P, rfl, hS'⟩, hx, rfl, rfl, by rw [hq]; exact h2 hlt⟩
theorem w_X10_write_0 {x1 x4 x5 : Int32} {x2 : Int64} {cnt cap : Nat} {K : Int32 → VH → Prop} (h0 : 1 < d) (hcnt : vI V 0 2 5 = nI cnt) (hcnt2 : cnt ≤ 1000000) (hcap : 64 ≤ cap) (hcap2 : cap ≤ 1000000)
    (n3 : vN V 0 3 = cap) (n4 : vN V 0 4 = cap) (n5 : vN V 0 5 = cap) (n6 : vN V 0 6 = cap)
    (h1 : cnt < cap → vwp E d M_X10_write 80 [some (sl 0 2), some (wi x1), some (wj x2), none, some (wi x4), some (wi x5)] [] V (zi K))
    (h2 : cap ≤ cnt → vwp E d M_X10_write 80 [some (sl 0 2), some (wi x1), some (wj x2), none, some (wi x4), some (wi x5)] [] (grI (grI (grJ (grI V 0 3 (2 * cnt)) 0 4 (2 * cnt)) 0 5 (2 * cnt)) 0 6 (2 * cnt)) (zi K)) : vMI E d M_X10_write [sl 0 2, wi x1, wj x2, wi x4, wi x5] V K := by
  intro G A hR
  obtain ⟨L, P, rfl, hS⟩ := hR
  show wpM E d M_X10_write [vr (A 0 2), vi x1, vj x2, vi x4, vi x5] G _
  refine wpM_of mk_X10_write (Nat.le_of_ble_eq_true rfl) ?_
  have n3 : gN G (A 0 3) = cap := n3
  have n4 : gN G (A 0 4) = cap := n4
  have n5 : gN G (A 0 5) = cap := n5
  have n6 : gN G (A 0 6) = cap := n6
  have hcnt : gI G (A 0 2) 5 = nI cnt := hcnt
  refine v_X10_write_0 (by omega) ⟨hS.o (s0_2 hS), ?_⟩
  rw [l0_2_0 hS, n3, hcnt]
  refine ⟨hS.o (s0_3 hS), fun hc => ?_, fun hc => ?_⟩
  · exact h1 ((nI_ltI (by omega) (by omega)).mp hc) G A ⟨L, P, rfl, hS⟩
  · have hle : cap ≤ cnt := by
      have := mt (nI_ltI (a := cnt) (b := cap) (by omega) (by omega)).mpr hc
      omega
    rw [nI_2]
    refine wpM.mono (c_copyI (by omega) (hS.o (s0_3 hS)) hS.2.2.2.2.2.2.2.2.2 (by omega) (by omega)) (fun r G4 q => ?_)
    obtain ⟨r', rfl, rfl, rfl⟩ := q
    refine ⟨_, rfl, isO_cpI rfl (isO_nw (hS.o (s0_2 hS))), fun G6 e6 => ?_⟩
    obtain ⟨A1, hS1, hq1, hx1, hA1⟩ := Sh_grI (n := 2 * cnt) hS (go_kinds hS.1.1) (Or.inr rfl) (by omega) (by omega) (by omega) e6
    have a1 : A1 0 2 = A 0 2 := hA1 0 2 (fun q => by omega)
    have a2 : A1 0 4 = A 0 4 := hA1 0 4 (fun q => by omega)
    have m4 : gN G6 (A1 0 4) = cap := (congrFun (congrFun (congrArg vN hq1) 0) 4).trans n4
    have m5 : gN G6 (A1 0 5) = cap := (congrFun (congrFun (congrArg vN hq1) 0) 5).trans n5
    have m6 : gN G6 (A1 0 6) = cap := (congrFun (congrFun (congrArg vN hq1) 0) 6).trans n6
    have mc : gI G6 (A1 0 2) 5 = nI cnt := (congrFun (congrFun (congrFun (congrArg vI hq1) 0) 2) 5).trans hcnt
    rw [← a1, mc, nI_2, l0_2_1 hS1]
    refine wpM.mono (c_copyJ (by omega) (hS1.o (s0_4 hS1)) hS1.2.2.2.2.2.2.2.2.2 (by omega) (by omega)) (fun r G9 q => ?_)
    obtain ⟨r', rfl, rfl, rfl⟩ := q
    refine ⟨_, rfl, isO_cpJ rfl (isO_nw (hS1.o (s0_2 hS1))), fun G11 e11 => ?_⟩
    obtain ⟨A2, hS2, hq2, hx2, hA2⟩ := Sh_grJ (n := 2 * cnt) hS1 (go_keys hS1.1.1) (by omega) (by omega) (by omega) e11
    have b1 : A2 0 2 = A1 0 2 := hA2 0 2 (fun q => by omega)
    have k5 : gN G11 (A2 0 5) = cap := (congrFun (congrFun (congrArg vN hq2) 0) 5).trans m5
    have k6 : gN G11 (A2 0 6) = cap := (congrFun (congrFun (congrArg vN hq2) 0) 6).trans m6
    have kc : gI G11 (A2 0 2) 5 = nI cnt := (congrFun (congrFun (congrFun (congrArg vI hq2) 0) 2) 5).trans mc
    rw [← b1, kc, nI_2, l0_2_2 hS2]
    refine wpM.mono (c_copyI (by omega) (hS2.o (s0_5 hS2)) hS2.2.2.2.2.2.2.2.2.2 (by omega) (by omega)) (fun r G14 q => ?_)
    obtain ⟨r', rfl, rfl, rfl⟩ := q
    refine ⟨_, rfl, isO_cpI rfl (isO_nw (hS2.o (s0_2 hS2))), fun G16 e16 => ?_⟩
    obtain ⟨A3, hS3, hq3, hx3, hA3⟩ := Sh_grI (n := 2 * cnt) hS2 (go_places hS2.1.1) (Or.inr rfl) (by omega) (by omega) (by omega) e16
    have c1 : A3 0 2 = A2 0 2 := hA3 0 2 (fun q => by omega)
    have j6 : gN G16 (A3 0 6) = cap := (congrFun (congrFun (congrArg vN hq3) 0) 6).trans k6
    have jc : gI G16 (A3 0 2) 5 = nI cnt := (congrFun (congrFun (congrFun (congrArg vI hq3) 0) 2) 5).trans kc
    rw [← c1, jc, nI_2, l0_2_3 hS3]
    refine wpM.mono (c_copyI (by omega) (hS3.o (s0_6 hS3)) hS3.2.2.2.2.2.2.2.2.2 (by omega) (by omega)) (fun r G19 q => ?_)
    obtain ⟨r', rfl, rfl, rfl⟩ := q
    refine ⟨_, rfl, isO_cpI rfl (isO_nw (hS3.o (s0_2 hS3))), fun G21 e21 => ?_⟩
    obtain ⟨A4, hS4, hq4, hx4, hA4⟩ := Sh_grI (n := 2 * cnt) hS3 (go_ends hS3.1.1) (Or.inr rfl) (by omega) (by omega) (by omega) e21
    have d1 : A4 0 2 = A3 0 2 := hA4 0 2 (fun q => by omega)
    have q : wp E d M_X10_write 80 [some (vr (A4 0 2)), some (vi x1), some (vj x2), none, some (vi x4), some (vi x5)] [] _ _ := h2 hle G21 A4 ⟨L, P, by rw [hq4, hq3, hq2, hq1], hS4⟩
    rw [d1] at q
    have hx := hx1.trans (hx2.trans (hx3.trans hx4))
    rw [hq4, hq3, hq2, hq1] at hx
    exact wp.mono q (fun r G' z => qx_trans hx z)
end
