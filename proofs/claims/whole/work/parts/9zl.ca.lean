/-! calls: problems, facts, plans at hand -/
section
variable {V V' : VH} {q : Nat} {t : Nat → Int32} {n : Nat} {R : List SR} {nt fa : Nat → Int32} {h : Nat} {x : Int32} {cs : Nat → Int32}
theorem TabC.ex {g : Nat} (hT : TabC V g R nt fa) (hn : ∀ f, f = 20 ∨ f = 21 ∨ f = 22 → vN V' g f = vN V g f) (hi : ∀ f j, f = 19 ∨ f = 22 → vI V' g f j = vI V g f j) (hj : ∀ j, vJ V' g 21 j = vJ V g 21 j) : TabC V' g R nt fa := by
  rcases hT with z | ⟨z1, z2⟩
  · exact Or.inl (by rw [hi 19 0 (by omega)]; exact z)
  · exact Or.inr ⟨z1.ex hn (fun j => hi 22 j (by omega)) hj, by rw [hi 19 1 (by omega)]; exact z2⟩
theorem CchM.ex (hT : CchM V q R nt fa) (h0 : vI V' 6 0 62 = vI V 6 0 62) (h1 : vI V' 6 0 63 = vI V 6 0 63) (h2 : vI V' 6 33 q = vI V 6 33 q) (hi : ∀ f j, f = 43 ∨ f = 44 → vI V' 6 f j = vI V 6 f j) (hj : ∀ j, vJ V' 6 45 j = vJ V 6 45 j) : CchM V' q R nt fa := fun e1 e2 => Wq.ex (hT (by rw [← h0]; exact e1) (by rw [← h1, ← h2]; exact e2)) hi hj
/-- hand, pins and costs of problem q -/
def hxS (q a f j : Nat) : Prop := a = q + 1 ∧ (f = 0 ∧ (j = 8 ∨ j = 9) ∨ f = 24) ∨ a = 6 ∧ ofQ q f j ∧ (f = 19 ∨ f = 20 ∨ f = 21)
theorem hxS_sc {a f j : Nat} (y : hxS q a f j) : Sc1 q a f j := by
  rcases y with ⟨y1, y2⟩ | ⟨y1, y2, y3⟩
  · exact Or.inl ⟨y1, by omega⟩
  · exact Or.inr ⟨y1, Or.inl ⟨y2, by omega⟩⟩
theorem PbI.hxc {h' : Nat} {x' : Int32} {cs' : Nat → Int32} (hI : PbI V q t n R nt fa h x cs) (k : Fc V V' (hxS q)) (d2 : vI V' (q + 1) 0 8 = nI h' ∧ h' < plR R) (d3 : vI V' (q + 1) 0 9 = x') (d4 : ∀ v, v < 12 → vI V' (q + 1) 24 v = cs' v ∧ ∃ c, cs' v = nI c ∧ c ≤ 1000) (m2 : Hq V' q (tcR R 1) (szR R) h') (m3 : Pq V' q (tcR R 1) (tst x')) (m4 : ∀ v, v < tcR R 1 → vI V' 6 20 (12 * q + v) = cs' v) (px : ∀ v, tcR R 1 ≤ v → tst x' v = false) : PbI V' q t n R nt fa h' x' cs' := by
  have hq6 : q + 1 ≠ 6 := hI.2.1.1.2.2
  have c : ∀ f j, ¬ (f = 0 ∧ (j = 8 ∨ j = 9) ∨ f = 24) → vI V' (q + 1) f j = vI V (q + 1) f j := fun f j z => k.i (fun y => by rcases y with y | y; exact z y.2; exact hq6 y.1)
  have cj : ∀ f j, ¬ (f = 0 ∧ (j = 8 ∨ j = 9) ∨ f = 24) → vJ V' (q + 1) f j = vJ V (q + 1) f j := fun f j z => k.j (fun y => by rcases y with y | y; exact z y.2; exact hq6 y.1)
  have m : ∀ f j, f ≠ 19 → f ≠ 20 → f ≠ 21 → vI V' 6 f j = vI V 6 f j := fun f j z1 z2 z3 => k.i (fun y => by rcases y with y | y; exact hq6 y.1.symm; have := y.2.2; omega)
  have mj : ∀ f j, f ≠ 19 → f ≠ 20 → f ≠ 21 → vJ V' 6 f j = vJ V 6 f j := fun f j z1 z2 z3 => k.j (fun y => by rcases y with y | y; exact hq6 y.1.symm; have := y.2.2; omega)
  obtain ⟨d1, _⟩ := hI.2.1.2.2.2.2.2.2.2
  refine ⟨hI.1, hI.2.1.up (by rw [k.l]) (fun f _ => by rw [k.n]) (fun f j z => c f j (by unfold kpD at z; omega)) (fun j => cj 3 j (by omega)) ⟨fun i hi => by rw [c 23 i (by omega)]; exact d1.1 i hi, d1.2⟩ d2 d3 d4, hI.2.2.1.up hI.1 (fun f j _ _ _ z1 z2 z3 => m f j z1 z2 z3) (fun i hi => by rw [m 15 _ (by omega) (by omega) (by omega)]; exact hI.2.2.1.2.2.2.2.2.2.2.1 i hi) m2 m3 m4, ⟨by rw [c 0 0 (by omega)]; exact hI.2.2.2.1.1, by rw [m 2 q (by omega) (by omega) (by omega)]; exact hI.2.2.2.1.2⟩, hI.2.2.2.2.1.ex hI.f16 (fun f j z => c f j (by omega)) (fun f j _ _ _ => m f j (by omega) (by omega) (by omega)), hI.2.2.2.2.2.1.ex (fun f _ => by rw [k.n]) (fun f j z => c f j (by omega)) (fun j => cj 21 j (by omega)), hI.2.2.2.2.2.2.1.ex (m 0 62 (by omega) (by omega) (by omega)) (m 0 63 (by omega) (by omega) (by omega)) (m 33 q (by omega) (by omega) (by omega)) (fun f j z => m f j (by omega) (by omega) (by omega)) (fun j => mj 45 j (by omega) (by omega) (by omega)), px⟩
end
section
variable {E : EE} {d x B B' : Nat}
theorem o_drop (h0 : 3 < d) (hB : B ≤ B') : VO_drop E d (JA x B) (JA x B') := fun V a0 hJ => liftI hJ (fun hW hS => by
  rcases hS.inQ a0 with ⟨hP, hM⟩ | ⟨q, t, n, R, nt, fa, h, px, cs, hq, rfl, hI⟩
  · exact nul_drop (J := fun V2 => WF V2 → JS B' V2) (by omega) hW hP hM (fun _ => hS.mono hB)
  · refine w_X11_drop_0 (by omega) (c_known_y hI hq ⟨fun _ => ⟨hI.2.1.1.2, fun V4 e4 => ?_⟩, fun z => absurd hI.2.1.1.1 z⟩)
    refine w_X12_drop_0 (by omega) (c_isProblem (fun z => absurd ⟨q, hq, rfl, by rw [e4, wrI_ne (fun y => by omega)]; exact hI.2.2.2.1.2⟩ z) (fun q' h1 h2 _ => ⟨fun _ => ?_, fun z => absurd z (by decide)⟩))
    rw [nI_clamp (show q < 2 ^ 31 by omega)]
    refine ⟨vp_in_nI (by omega) (by decide), fun V7 e7 => ⟨rfl, fun _ => JS.mono (JS.sc hS hq ?_ (Or.inl ⟨?_, fun _ => ?_⟩)) hB⟩⟩
    · rw [e7, e4]; exact (Fc_wrI (Or.inl ⟨rfl, by decide⟩)).trans (Fc_wrI (Or.inr ⟨rfl, Or.inr ⟨rfl, rfl⟩⟩))
    · rw [e7, wrI_at]; rfl
    · rw [e7, wrI_ne (fun y => by omega), e4, wrI_at])
theorem o_range (h0 : 3 < d) (hB : B ≤ B') : VO_range E d (JA x B) (JA x B') := fun V a0 a1 a2 hJ => liftJ hJ (fun hW hS => by
  rcases hS.inQ a0 with ⟨hP, hM⟩ | ⟨q, t, n, R, nt, fa, h, px, cs, hq, rfl, hI⟩
  · exact nul_range (J := fun V2 => WF V2 → JS B' V2) (by omega) hW hP hM (fun _ => hS.mono hB)
  · have fin : ∀ (r : Int64), r = r ∧ (WF V → JS B' V) := fun r => ⟨rfl, fun _ => hS.mono hB⟩
    refine w_X11_range_0 (by omega) (c_known_y hI hq ⟨fun z => absurd hI.2.1.1.1 z, fun _ => ⟨hI.2.1.1.2, c_isVar hI.sp (fun hn => ⟨fun _ => ?_, fun z => absurd rfl z⟩) (fun u hu e => ⟨fun z => absurd z (by decide), fun _ => ?_⟩)⟩⟩)
    · exact w_X12_range_0 (by omega) (c_isVarM (by omega) hI.1 hI.mi hq (fun _ => ⟨fun _ => w_X12_range_28 (fin _), fun z => absurd rfl z⟩) (fun u hu e => absurd e (hn u hu)))
    · subst e
      obtain ⟨s1, s2, s3, s4, s5⟩ := hI.sp.2.2.2.2.2 u hu
      obtain ⟨m1, m2, m3, m4, m5⟩ := hI.sq.2.2.2.2.2 u hu
      have v12 := hI.v12
      have e12 : (12 : Int32) * nI q + nI u = nI (12 * q + u) := by rw [show (12 : Int32) = nI 12 from rfl, nI_mul, nI_add]
      have ref : ∀ (K : Int64 → VH → Prop), (a2 < 0 → K (-9223372036854775808) V) → (¬ a2 < 0 → ¬ a2 < nI (szR R u) → K (-9223372036854775808) V) → (∀ k, k < szR R u → a2 = nI k → K (Int32.toInt64 (vlR R u k)) V) → vMJ E d M_X12_range [sl 6 0, wi (nI q), wi (nI u), wi a2] V K := by
        intro K k1 k2 k3
        refine w_X12_range_0 (by omega) (c_isVarM (by omega) hI.1 hI.mi hq (fun z => absurd rfl (z u hu)) (fun u' hu' e' => ⟨fun z => absurd z (by decide), fun _ => ⟨fun z => w_X12_range_28 (k1 z), fun z => ?_⟩⟩))
        rw [e12, nI_clamp (show 12 * q + u < 2 ^ 31 by omega), m1]
        refine ⟨vp_in_nI (by omega) (by decide), fun y => ?_, fun y => w_X12_range_28 (k2 z y)⟩
        obtain ⟨k, hk, ek⟩ := i_ex z (Int32.not_le.mpr y) (by omega)
        subst ek
        have e20 : (20 : Int32) * nI (12 * q + u) + nI k = nI (20 * (12 * q + u) + k) := by rw [show (20 : Int32) = nI 20 from rfl, nI_mul, nI_add]
        rw [e20, nI_clamp (show 20 * (12 * q + u) + k < 2 ^ 31 by omega), m5 k hk]
        exact ⟨vp_in_nI (by omega) (by decide), k3 k hk rfl⟩
      refine ⟨fun z => ref _ (fun _ => fin _) (fun y => absurd z y) (fun k hk e => by rw [e] at z; exact absurd z (nI_pos (by omega))), fun z => ?_⟩
      rw [nI_clamp (show u < 2 ^ 31 by omega), s1]
      refine ⟨vp_in_nI (by omega) (by decide), fun y => ?_, fun y => ref _ (fun w => absurd w z) (fun _ _ => fin _) (fun k hk e => by rw [e] at y; exact absurd ((nI_ltI (by omega) (by omega)).mpr hk) y)⟩
      obtain ⟨k, hk, ek⟩ := i_ex z (Int32.not_le.mpr y) (by omega)
      subst ek
      have e20 : nI u * 20 + nI k = nI (20 * u + k) := by rw [show (20 : Int32) = nI 20 from rfl, nI_mul, nI_add, Nat.mul_comm]
      rw [e20, nI_clamp (show 20 * u + k < 2 ^ 31 by omega), s5 k hk]
      refine ⟨vp_in_nI (by omega) (by decide), ref _ (fun w => absurd w z) (fun _ w => absurd y w) (fun k' hk' e => ?_)⟩
      have : k = k' := (nI_eq (by omega) (by omega)).mp e
      subst this
      exact fin _)
theorem o_fact (h0 : 3 < d) (hB : B ≤ B') : VO_fact E d (JA x B) (JA x B') := fun V a0 a1 hJ => liftJ hJ (fun hW hS => by
  rcases hS.inQ a0 with ⟨hP, hM⟩ | ⟨q, t, n, R, nt, fa, h, px, cs, hq, rfl, hI⟩
  · exact nul_fact (J := fun V2 => WF V2 → JS B' V2) (by omega) hW hP hM (fun _ => hS.mono hB)
  · have fin : ∀ (r : Int64), r = r ∧ (WF V → JS B' V) := fun r => ⟨rfl, fun _ => hS.mono hB⟩
    have f16 := hI.f16
    refine w_X11_fact_0 (by omega) (c_known_y hI hq ⟨fun z => absurd hI.2.1.1.1 z, fun _ => ⟨hI.2.1.1.2, c_isFactC hI (fun hn => ⟨fun z => absurd rfl z, fun _ => w_X11_fact_18 hI.2.1.1 ?_⟩) (fun u hu e => ⟨fun _ => ?_, fun z => absurd z (by decide)⟩)⟩⟩)
    · exact w_X12_fact_0 (by omega) (c_isFactM (by omega) hI.1 hI.mi hq (fun _ => ⟨fun _ => fin _, fun z => absurd rfl z⟩) (fun u hu e => absurd e (hn u hu)))
    · subst e
      have e16 : (16 : Int32) * nI q + nI u = nI (16 * q + u) := by rw [show (16 : Int32) = nI 16 from rfl, nI_mul, nI_add]
      rw [nI_clamp (show u < 2 ^ 31 by omega), hI.2.1.2.2.2.2.2.2.2.1.1 u hu]
      refine ⟨vp_in_nI (by omega) (by decide), w_X12_fact_0 (by omega) (c_isFactM (by omega) hI.1 hI.mi hq (fun z => absurd rfl (z u hu)) (fun u' hu' e' => ⟨fun z => absurd z (by decide), fun _ => ?_⟩))⟩
      rw [e16, nI_clamp (show 16 * q + u < 2 ^ 31 by omega), hI.2.2.1.2.2.2.2.2.2.2.1 u hu]
      exact ⟨vp_in_nI (by omega) (by decide), fin _⟩)
theorem o_value (h0 : 3 < d) (hB : B ≤ B') : VO_value E d (JA x B) (JA x B') := fun V a0 a1 hJ => liftJ hJ (fun hW hS => by
  rcases hS.inQ a0 with ⟨hP, hM⟩ | ⟨q, t, n, R, nt, fa, h, px, cs, hq, rfl, hI⟩
  · exact nul_value (J := fun V2 => WF V2 → JS B' V2) (by omega) hW hP hM (fun _ => hS.mono hB)
  · have fin : ∀ (r : Int64), r = r ∧ (WF V → JS B' V) := fun r => ⟨rfl, fun _ => hS.mono hB⟩
    have v12 := hI.v12
    have p20 := hI.p20
    refine w_X11_value_0 (by omega) (c_known_y hI hq ⟨fun z => absurd hI.2.1.1.1 z, fun _ => ⟨hI.2.1.1.2, c_isVar hI.sp (fun hn => ⟨fun z => absurd rfl z, fun _ => w_X11_value_21 hI.2.1.1 ?_⟩) (fun u hu e => ⟨fun _ => ?_, fun z => absurd z (by decide)⟩)⟩⟩)
    · exact w_X12_value_0 (by omega) (c_isVarM (by omega) hI.1 hI.mi hq (fun _ => ⟨fun _ => fin _, fun z => absurd rfl z⟩) (fun u hu e => absurd e (hn u hu)))
    · subst e
      have hh := hI.hnd
      rw [hh.1]
      refine c_valueOf hI.sp hu (by omega) ?_
      have e12 : (12 : Int32) * nI q + nI u = nI (12 * q + u) := by rw [show (12 : Int32) = nI 12 from rfl, nI_mul, nI_add]
      obtain ⟨m1, m2, m3, m4, m5⟩ := hI.sq.2.2.2.2.2 u hu
      have dl := Dg_lt hI.sq.pos (p := h) hu
      have e20 : (20 : Int32) * nI (12 * q + u) + nI (Dg (szR R) (tcR R 1) u h) = nI (20 * (12 * q + u) + Dg (szR R) (tcR R 1) u h) := by rw [show (20 : Int32) = nI 20 from rfl, nI_mul, nI_add]
      refine w_X12_value_0 (by omega) (c_isVarM (by omega) hI.1 hI.mi hq (fun z => absurd rfl (z u hu)) (fun u' hu' e' => ⟨fun z => absurd z (by decide), fun _ => ?_⟩))
      rw [e12, nI_clamp (show 12 * q + u < 2 ^ 31 by omega), hI.hq.2 u hu, e20, nI_clamp (show 20 * (12 * q + u) + Dg (szR R) (tcR R 1) u h < 2 ^ 31 by omega), m5 _ dl]
      exact ⟨vp_in_nI (by omega) (by decide), vp_in_nI (by omega) (by decide), fin _⟩)
theorem o_weigh (h0 : 3 < d) (hB : B ≤ B') : VO_weigh E d (JA x B) (JA x B') := fun V a0 a1 a2 hJ => liftI hJ (fun hW hS => by
  rcases hS.inQ a0 with ⟨hP, hM⟩ | ⟨q, t, n, R, nt, fa, h, px, cs, hq, rfl, hI⟩
  · exact nul_weigh (J := fun V2 => WF V2 → JS B' V2) (by omega) hW hP hM (fun _ => hS.mono hB)
  · have fin : ∀ (r : Int32), r = r ∧ (WF V → JS B' V) := fun r => ⟨rfl, fun _ => hS.mono hB⟩
    have v12 := hI.v12
    refine w_X11_weigh_0 (by omega) (c_known_y hI hq ⟨fun z => absurd hI.2.1.1.1 z, fun _ => ⟨hI.2.1.1.2, c_isVar hI.sp (fun hn => ⟨fun _ => ?_, fun z => absurd rfl z⟩) (fun u hu e => ⟨fun z => absurd z (by decide), fun _ => ?_⟩)⟩⟩)
    · exact w_X12_weigh_0 (by omega) (c_isVarM (by omega) hI.1 hI.mi hq (fun _ => ⟨fun _ => fin _, fun z => absurd rfl z⟩) (fun u hu e => absurd e (hn u hu)))
    · subst e
      have e12 : (12 : Int32) * nI q + nI u = nI (12 * q + u) := by rw [show (12 : Int32) = nI 12 from rfl, nI_mul, nI_add]
      refine ⟨fun z => w_X12_weigh_0 (by omega) (c_isVarM (by omega) hI.1 hI.mi hq (fun w => absurd rfl (w u hu)) (fun _ _ _ => ⟨fun w => absurd w (by decide), fun _ => ⟨fun _ => fin _, fun w => absurd z w⟩⟩)), fun z => ⟨fun y => ?_, fun y => w_X12_weigh_0 (by omega) (c_isVarM (by omega) hI.1 hI.mi hq (fun w => absurd rfl (w u hu)) (fun _ _ _ => ⟨fun w => absurd w (by decide), fun _ => ⟨fun w => absurd w z, fun _ => ⟨fun w => absurd w y, fun _ => fin _⟩⟩⟩))⟩⟩
      obtain ⟨c, hc, ec⟩ := i_ex (n := 1001) z (fun w => absurd (Int32.le_trans w y) (by decide)) (by decide)
      subst ec
      rw [nI_clamp (show u < 2 ^ 31 by omega)]
      refine ⟨vp_in_nI (by omega) (by decide), vp_in_nI (by omega) (by decide), fun V10 e10 => ?_⟩
      have c10 : Fc V V10 (fun a f j => a = q + 1 ∧ f = 24 ∧ j = u) := by rw [e10]; exact Fc_wrI ⟨rfl, rfl, rfl⟩
      obtain ⟨d1, d2, d3, d4⟩ := hI.2.1.2.2.2.2.2.2.2
      have mi := hI.mi.fc hI.1 c10 (fun f j y => by omega)
      refine w_X12_weigh_0 (by omega) (c_isVarM (by omega) hI.1 mi hq (fun w => absurd rfl (w u hu)) (fun _ _ _ => ⟨fun w => absurd w (by decide), fun _ => ⟨fun w => absurd w z, fun _ => ⟨fun _ => ?_, fun w => absurd y w⟩⟩⟩))
      rw [e12, nI_clamp (show 12 * q + u < 2 ^ 31 by omega), mi.1.2.2.2.2.2.2.2.2.2.2 u hu, (d4 u (by omega)).1]
      refine ⟨vp_in_nI (by omega) (by decide), vp_in_nI (by omega) (by decide), fun V5 e5 => ⟨rfl, fun _ => ?_⟩⟩
      have k5 : Fc V V5 (hxS q) := by
        rw [e5]
        exact (c10.mono (fun a f j w => Or.inl ⟨w.1, Or.inr w.2.1⟩)).trans (Fc_wrI (Or.inr ⟨rfl, ⟨by decide, by decide, by show 12 * q ≤ _; omega, by show _ < 12 * q + 12; omega⟩, by decide⟩))
      refine JS.mono (hS.sc hq (k5.mono (fun a f j w => hxS_sc w)) (Or.inr ⟨t, n, R, nt, fa, h, px, fun v => if v = u then nI c else cs v, hI.hxc k5 ?_ ?_ ?_ ?_ ?_ ?_ hI.2.2.2.2.2.2.2⟩)) hB
      · rw [e5, wrI_ne (fun w => by omega), c10.i (fun w => by omega)]; exact d2
      · rw [e5, wrI_ne (fun w => by omega), c10.i (fun w => by omega)]; exact d3
      · intro v hv
        by_cases w : v = u
        · subst w; rw [e5, wrI_ne (fun w => by omega), e10, wrI_at, if_pos rfl]; exact ⟨rfl, c, rfl, by omega⟩
        · rw [e5, wrI_ne (fun w => by omega), e10, wrI_ne (fun y => w y.2.2), if_neg w]; exact d4 v hv
      · exact ⟨hI.hq.1, fun v hv => by rw [e5, wrI_ne (fun w => by omega), c10.i (fun w => by omega)]; exact hI.hq.2 v hv⟩
      · intro v hv; rw [e5, wrI_ne (fun w => by omega), c10.i (fun w => by omega)]; exact hI.pq v hv
      · intro v hv
        by_cases w : v = u
        · subst w; rw [e5, wrI_at, if_pos rfl]
        · rw [e5, wrI_ne (fun y => by omega), if_neg w]; exact mi.1.2.2.2.2.2.2.2.2.2.2 v hv)
/-- a place by its value -/
theorem fsb_pl {sz : Nat} {vl : Nat → Int32} {y : Int32} : (fsb (fun k => decide (vl k = y)) sz = none ∧ ∀ k, k < sz → vl k ≠ y) ∨ ∃ k, k < sz ∧ vl k = y ∧ (∀ j, j < k → vl j ≠ y) ∧ fsb (fun k => decide (vl k = y)) sz = some k := by
  cases w : fsb (fun k => decide (vl k = y)) sz with
  | none => exact Or.inl ⟨rfl, fun k hk => of_decide_eq_false (fsb_all w k hk)⟩
  | some k => exact Or.inr ⟨k, fsb_lt w, of_decide_eq_true (fsb_true w), fun j hj => of_decide_eq_false (fsb_min w j hj), rfl⟩
theorem o_put (h0 : 4 < d) (hB : B ≤ B') : VO_put E d (JA x B) (JA x B') := fun V a0 a1 a2 hJ => liftI hJ (fun hW hS => by
  rcases hS.inQ a0 with ⟨hP, hM⟩ | ⟨q, t, n, R, nt, fa, h, px, cs, hq, rfl, hI⟩
  · exact nul_put (J := fun V2 => WF V2 → JS B' V2) (by omega) hW hP hM (fun _ => hS.mono hB)
  · have fin : ∀ (r : Int32), r = r ∧ (WF V → JS B' V) := fun r => ⟨rfl, fun _ => hS.mono hB⟩
    have v12 := hI.v12
    have p20 := hI.p20
    have hh := hI.hnd
    have pos := hI.sq.pos
    refine w_X11_put_0 (by omega) (c_known_y hI hq ⟨fun _ => ⟨hI.2.1.1.2, c_placeOfValue hI.sp (fun hn => ⟨fun z => absurd z (by decide), fun _ => ?_⟩) (fun u k hu e hk ev hl => ⟨fun _ => ?_, fun z => absurd (nI_le (a := 0) (Nat.zero_le _) (by have := (hI.sp.2.2.2.2.2 u hu).2.2.1; omega)) z⟩)⟩, fun z => absurd hI.2.1.1.1 z⟩)
    · refine w_X12_put_0 (by omega) (c_isVarM (by omega) hI.1 hI.mi hq (fun _ => ⟨fun _ => fin _, fun z => absurd rfl z⟩) (fun u hu e => ⟨fun z => absurd z (by decide), fun _ => ?_⟩))
      subst e
      refine c_placeOfM hI.sq hu ?_
      rcases fsb_pl (sz := szR R u) (vl := vlR R u) (y := a2) with ⟨w, _⟩ | ⟨k, hk, ek, _⟩
      · rw [w]; exact ⟨fun z => absurd z (by decide), fun _ => fin _⟩
      · exact absurd ek (hn u hu rfl k hk)
    · subst e
      have s20 := (hI.sp.2.2.2.2.2 u hu).2.2.1
      rw [hh.1]
      refine c_moved (by omega) hI.sp hu (by omega) (fun V12 e12 => ?_)
      have c12 : Fc V V12 (fun a f j => a = q + 1 ∧ f = 0 ∧ j = 8) := by rw [e12]; exact Fc_wrI ⟨rfl, rfl, rfl⟩
      have mi := hI.mi.fc hI.1 c12 (fun f j y => by omega)
      have sq := mi.1.2.2.2.2.1
      have em : (12 : Int32) * nI q + nI u = nI (12 * q + u) := by rw [show (12 : Int32) = nI 12 from rfl, nI_mul, nI_add]
      have ef : fsb (fun k => decide (vlR R u k = a2)) (szR R u) = some k := fsb_some (by exact decide_eq_true ev) (fun j hj => decide_eq_false (hl j hj)) hk
      refine w_X12_put_0 (by omega) (c_isVarM (by omega) hI.1 mi hq (fun w => absurd rfl (w u hu)) (fun _ _ _ => ⟨fun w => absurd w (by decide), fun _ => c_placeOfM sq hu ?_⟩))
      rw [ef]
      refine ⟨fun _ => c_placeOfM sq hu ?_, fun z => absurd (nI_le (a := 0) (Nat.zero_le _) (by omega)) z⟩
      rw [ef, em, nI_clamp (show 12 * q + u < 2 ^ 31 by omega)]
      refine ⟨vp_in_nI (by omega) (by decide), fun V9 e9 => ⟨rfl, fun _ => ?_⟩⟩
      have e9 : V9 = wrI V12 6 19 (12 * q + u) (nI k) := e9
      have k9 : Fc V V9 (hxS q) := by
        rw [e9]
        exact (c12.mono (fun a f j w => Or.inl ⟨w.1, Or.inl ⟨w.2.1, Or.inl w.2.2⟩⟩)).trans (Fc_wrI (Or.inr ⟨rfl, ⟨by decide, by decide, by show 12 * q ≤ _; omega, by show _ < 12 * q + 12; omega⟩, by decide⟩))
      obtain ⟨d1, d2, d3, d4⟩ := hI.2.1.2.2.2.2.2.2.2
      refine JS.mono (hS.sc hq (k9.mono (fun a f j w => hxS_sc w)) (Or.inr ⟨t, n, R, nt, fa, mvd (szR R) (tcR R 1) u k h, px, cs, hI.hxc k9 ?_ ?_ ?_ ?_ ?_ ?_ hI.2.2.2.2.2.2.2⟩)) hB
      · rw [e9, wrI_ne (fun w => by omega), e12, wrI_at]; exact ⟨rfl, mvd_lt pos hu hk hh.2⟩
      · rw [e9, wrI_ne (fun w => by omega), c12.i (fun w => by omega)]; exact d3
      · intro v hv; rw [e9, wrI_ne (fun w => by omega), c12.i (fun w => by omega)]; exact d4 v hv
      · refine ⟨mvd_lt pos hu hk hh.2, fun v hv => ?_⟩
        by_cases w : v = u
        · subst w; rw [e9, wrI_at, mvd_at pos hu hk]
        · rw [e9, wrI_ne (fun y => by omega), c12.i (fun w => by omega), mvd_ne pos hu hk hv w]; exact hI.hq.2 v hv
      · intro v hv; rw [e9, wrI_ne (fun w => by omega), c12.i (fun w => by omega)]; exact hI.pq v hv
      · intro v hv; rw [e9, wrI_ne (fun w => by omega)]; exact mi.1.2.2.2.2.2.2.2.2.2.2 v hv)
end
