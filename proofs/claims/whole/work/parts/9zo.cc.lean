/-! calls: what the plan at hand is worth -/
section
variable {E : EE} {d : Nat} {V V' : VH} {q B : Nat} {t : Nat → Int32} {n : Nat} {R : List SR} {nt fa : Nat → Int32} {h : Nat} {x : Int32} {cs : Nat → Int32}
theorem c_lvlC {v : Int32} {K : Int32 → VH → Prop} (hn : (∀ l, l < 3 → v ≠ nI l) → K 0 V) (hy : ∀ l, l < 3 → v = nI l → K 1 V) : vMI E d M_X11_isLevel [wi v] V K := by
  refine w_X11_isLevel_0 ⟨fun z => hn (fun u hu e => by rw [e] at z; exact absurd z (nI_pos (by omega))), fun z => ⟨fun y => hn (fun u hu e => by rw [e] at y; exact absurd y (nI_ge (b := 3) hu (by decide))), fun y => ?_⟩⟩
  obtain ⟨u, hu, e⟩ := i_ex (n := 3) z y (by decide)
  exact hy u hu e
theorem c_lvlM {v : Int32} {K : Int32 → VH → Prop} (hn : (∀ l, l < 3 → v ≠ nI l) → K 0 V) (hy : ∀ l, l < 3 → v = nI l → K 1 V) : vMI E d M_X12_isLevel [wi v] V K := by
  refine w_X12_isLevel_0 ⟨fun z => hn (fun u hu e => by rw [e] at z; exact absurd z (nI_pos (by omega))), fun z => ⟨fun y => hn (fun u hu e => by rw [e] at y; exact absurd y (nI_ge (b := 3) hu (by decide))), fun y => ?_⟩⟩
  obtain ⟨u, hu, e⟩ := i_ex (n := 3) z y (by decide)
  exact hy u hu e
/-- the class looks; then the reference knows -/
theorem PbI.bd (hI : PbI V q t n R nt fa h x cs) : (∀ k, k < tcR R 0 → vI V (q + 1) 23 k = fa k) ∧ Bds (tcR R 0) fa := hI.2.1.2.2.2.2.2.2.2.1
theorem CchM.cl {S : Nat → Nat → Nat → Prop} (hT : CchM V q R nt fa) (k : Fc V V' S) (c : ∀ f j, ¬ S 6 f j) : CchM V' q R nt fa := hT.ex (k.i (c _ _)) (k.i (c _ _)) (k.i (c _ _)) (fun f j _ => k.i (c _ _)) (fun j => k.j (c _ _))
/-- class scratch of problem q -/
def csS (q a f j : Nat) : Prop := a = q + 1 ∧ (f = 9 ∧ j = 13 ∨ f = 17 ∨ f = 18 ∨ f = 27 ∨ f = 28 ∨ f = 30 ∨ f = 31 ∨ f = 19 ∧ 2 < j ∨ f = 20)
theorem csS_6 (hI : PbI V q t n R nt fa h x cs) (f j : Nat) : ¬ csS q 6 f j := fun y => hI.2.1.1.2.2 y.1.symm
/-- behind the class's part, which changed scratch alone: the reference knows, and stays -/
theorem know_end {K : VH → Prop} (h0 : 170 < d) (hq : q < 4) (hJ : JS B V) (hI : PbI V q t n R nt fa h x cs) (k : Fc V V' (csS q)) (hk : ∀ V2, Fc V' V2 waS → WqR V2 R nt fa → MiQ V2 q t n R fa h x cs → PbI V2 q t n R nt fa h x cs → JS B V2 → K V2) : vMV E d M_X12_know [sl 6 0, wi (nI q)] V' K := by
  have mi := hI.mi.fc hI.1 k (fun f j y => absurd y (csS_6 hI f j))
  have ch := hI.2.2.2.2.2.2.1.cl k (csS_6 hI)
  refine k_know h0 hI.1 mi hI.bd.2 ch (fun V2 f2 w e1 e2 => ?_)
  have kk : Fc V V2 (qrS q) := (k.mono (fun a f j y => Or.inl y)).trans (f2.mono (fun a f j y => waS_qr y))
  have hI2 := hI.kn kk w
  exact hk V2 f2 w hI2.mi hI2 (hJ.kn hq kk e1 (by rw [e2, k.i (csS_6 hI _ _)]) (Or.inr ⟨t, n, R, nt, fa, h, x, cs, hI2⟩))
end
section
variable {E : EE} {d x B B' : Nat}
theorem o_broken (h0 : 180 < d) (hB : B ≤ B') : VO_broken E d (JA x B) (JA x B') := fun V a0 a1 hJ => liftI hJ (fun hW hS => by
  rcases hS.inQ a0 with ⟨hP, hM⟩ | ⟨q, t, n, R, nt, fa, h, px, cs, hq, rfl, hI⟩
  · exact nul_broken (J := fun V2 => WF V2 → JS B' V2) (by omega) hW hP hM (fun _ => hS.mono hB)
  · have r24 : tcR R 2 ≤ 24 := hI.1.2.2.2.1.1 2 (by decide)
    have p20 := hI.p20
    have hh := hI.hnd
    refine w_X11_broken_0 (by omega) (c_known_y hI hq ⟨fun z => absurd hI.2.1.1.1 z, fun _ => ⟨hI.2.1.1.2, c_isRuleC hI (fun hn => ⟨fun z => absurd rfl z, fun _ => ?_⟩) (fun u hu e => ⟨fun _ => ?_, fun z => absurd z (by decide)⟩)⟩⟩)
    · exact w_X12_broken_0 (by omega) (c_isRuleM (by omega) hI.1 hI.mi hq (fun _ => ⟨fun z => absurd rfl z, fun _ => ⟨rfl, fun _ => hS.mono hB⟩⟩) (fun u hu e => absurd e (hn u hu)))
    · subst e
      rw [hh.1]
      refine c_look (by omega) hI.sp (by omega) (fun V8 f8 s8 => ?_)
      have rl := (hI.2.1.rl (E := E) (d := d - 1) hI.1 (by omega)).2.2.2.2.2.1 u hu
      refine rl.2.2.2 V8 (q + 1) 23 _ (f8.jr (fun f i z => by have := z.2; omega)) (by rw [f8.l]; exact sP_23 hI.2.1.1) (by rw [f8.n]; exact vnP hW hI.2.1.1 (by decide)) (fun z => by omega) (fun V12 f12 => ?_)
      have dv : DR R nt u (vI V8 (q + 1) 23) (vI V8 (q + 1) 18) = DR R nt u fa (sn (szR R) (tcR R 1) (vlR R) h) := PrS.dx u _ _ _ _ (fun f hf => by rw [f8.i (fun y => by have := y.2; omega)]; exact hI.bd.1 f hf) (fun v hv => s8 v hv)
      rw [dv]
      have k12 : Fc V V12 (csS q) := (f8.mono (fun a f j y => ⟨y.1, by have := y.2; omega⟩)).trans (f12.mono (fun a f j y => ⟨y.1, by have := y.2; omega⟩))
      have mi := hI.mi.fc hI.1 k12 (fun f j y => absurd y (csS_6 hI f j))
      refine w_X12_broken_0 (by omega) (c_isRuleM (by omega) hI.1 mi hq (fun w => absurd rfl (w u hu)) (fun _ _ _ => ⟨fun _ => know_end (by omega) hq hS hI k12 (fun V2 f2 w mi2 hI2 hS2 => ?_), fun w => absurd w (by decide)⟩))
      refine c_handOf (by omega) hI2.sq hI2.hq ?_
      rw [i20k, nI_clamp (show 20000 * u + h < 2 ^ 31 by omega), (w h hh.2).1 u hu]
      exact ⟨vp_in_nI (by omega) (by decide), rfl, fun _ => hS2.mono hB⟩)
theorem o_aim (h0 : 180 < d) (hB : B ≤ B') : VO_aim E d (JA x B) (JA x B') := fun V a0 a1 hJ => liftJ hJ (fun hW hS => by
  rcases hS.inQ a0 with ⟨hP, hM⟩ | ⟨q, t, n, R, nt, fa, h, px, cs, hq, rfl, hI⟩
  · exact nul_aim (J := fun V2 => WF V2 → JS B' V2) (by omega) hW hP hM (fun _ => hS.mono hB)
  · have a6 : tcR R 3 ≤ 6 := hI.1.2.2.2.1.1 3 (by decide)
    have p20 := hI.p20
    have hh := hI.hnd
    have n4 : vI V (q + 1) 4 3 = nI (tcR R 3) := (hI.2.1.2.2.1.1 3 (by decide)).1
    have n14 : vI V 6 14 (4 * q + 3) = nI (tcR R 3) := (hI.2.2.1.2.2.1.1 3 (by decide)).1
    have fin : ∀ (r : Int64), r = r ∧ (WF V → JS B' V) := fun r => ⟨rfl, fun _ => hS.mono hB⟩
    refine w_X11_aim_0 (by omega) (c_known_y hI hq ⟨fun z => absurd hI.2.1.1.1 z, fun _ => ⟨hI.2.1.1.2, ?_⟩⟩)
    rw [show Int32.toNatClampNeg 3 = 3 from rfl, n4]
    refine ⟨fun z => w_X12_aim_0 (by omega) (c_isProblem_y hI.mi hq ⟨fun w => absurd w (by decide), fun _ => ⟨fun _ => fin _, fun w => absurd z w⟩⟩), fun z => ⟨fun y => ?_, fun y => w_X12_aim_0 (by omega) (c_isProblem_y hI.mi hq ⟨fun w => absurd w (by decide), fun _ => ⟨fun w => absurd w z, fun _ => c_aimsOf (by omega) n14 ⟨fun w => absurd w y, fun _ => fin _⟩⟩⟩)⟩⟩
    obtain ⟨u, hu, e⟩ := i_ex z (Int32.not_le.mpr y) (by omega)
    subst e
    rw [hh.1]
    refine c_look (by omega) hI.sp (by omega) (fun V8 f8 s8 => ?_)
    have rl := (hI.2.1.rl (E := E) (d := d - 1) hI.1 (by omega)).2.2.2.2.2.2 u hu
    rw [show (24 : Int32) + nI u = nI (24 + u) from nI_add 24 u]
    refine rl.2.2 V8 (q + 1) 23 _ (f8.jr (fun f i z => by have := z.2; omega)) (by rw [f8.l]; exact sP_23 hI.2.1.1) (by rw [f8.n]; exact vnP hW hI.2.1.1 (by decide)) (fun z => by omega) (fun V12 f12 => ?_)
    have dv : DRa R nt u (vI V8 (q + 1) 23) (vI V8 (q + 1) 18) = DRa R nt u fa (sn (szR R) (tcR R 1) (vlR R) h) := PrS.dxa u _ _ _ _ (fun f hf => by rw [f8.i (fun y => by have := y.2; omega)]; exact hI.bd.1 f hf) (fun v hv => s8 v hv)
    rw [dv]
    have k12 : Fc V V12 (csS q) := (f8.mono (fun a f j y => ⟨y.1, by have := y.2; omega⟩)).trans (f12.mono (fun a f j y => ⟨y.1, by have := y.2; omega⟩))
    have mi := hI.mi.fc hI.1 k12 (fun f j y => absurd y (csS_6 hI f j))
    refine w_X12_aim_0 (by omega) (c_isProblem_y mi hq ⟨fun w => absurd w (by decide), fun _ => ⟨fun w => absurd w z, fun _ => c_aimsOf (by omega) (mi.1.2.2.1.1 3 (by decide)).1 ⟨fun _ => know_end (by omega) hq hS hI k12 (fun V2 f2 w mi2 hI2 hS2 => ?_), fun w => absurd y w⟩⟩⟩)
    refine c_handOf (by omega) hI2.sq hI2.hq ?_
    rw [i20k, nI_clamp (show 20000 * u + h < 2 ^ 31 by omega), (w h hh.2).2.1 u hu]
    exact ⟨vp_in_nI (by omega) (by decide), rfl, fun _ => hS2.mono hB⟩)
/-- the class weighs the plan at hand -/
theorem c_weighHand {V : VH} {q : Nat} {t : Nat → Int32} {n : Nat} {R : List SR} {nt fa : Nat → Int32} {h : Nat} {px : Int32} {cs : Nat → Int32} {K : Int32 → VH → Prop} (h0 : 10 < d) (hW : WF V) (hI : PbI V q t n R nt fa h px cs) (hk : ∀ V', Fc V V' (csS q) → (∀ l, l < 3 → vJ V' (q + 1) 27 l = scP (szR R) (tcR R 1) (vlR R) (DR R nt) (DRa R nt) (lvn R) (aln R) (wtR R) (tcR R 2) (tcR R 3) fa h l) → K (stP (szR R) (tcR R 1) (vlR R) (DR R nt) (tcR R 2) fa h) V') : vMI E d M_X2_weighAll [sl (q + 1) 9, sl (q + 1) 5, wi (nI h), sl (q + 1) 23, sl (q + 1) 27, wi 0] V K := by
  have p20 := hI.p20
  have hh := hI.hnd
  have n27 : vN V (q + 1) 27 = 3 := vnP hW hI.2.1.1 (by decide)
  refine c_weighAll (i0 := 0) (by omega) hI.sp (hI.2.1.rl hI.1 (by omega)) (by omega) (sP_23 hI.2.1.1) (sP_27 hI.2.1.1) (vnP hW hI.2.1.1 (by decide)) (fun z => by omega) (by rw [n27]; decide) (by rw [n27]; decide) (fun z => by omega) (fun z => by omega) (fun V' f s e => ?_)
  have ext : ∀ (D : Den), Dx (tcR R 1) (tcR R 0) D → D (vI V (q + 1) 23) (vI V' (q + 1) 18) = D fa (sn (szR R) (tcR R 1) (vlR R) h) := fun D hD => hD _ _ _ _ (fun f hf => hI.bd.1 f hf) (fun v hv => s v hv)
  have k := hk V' (f.mono (fun a f j y => by
    rcases y with ⟨y1, y2⟩ | ⟨y1, y2, _⟩
    · exact ⟨y1, by omega⟩
    · exact ⟨y1, by omega⟩)) (fun l hl => by
      have := e l hl
      rw [Nat.zero_add] at this
      rw [this, wsR_ext (fa' := fa) (se' := sn (szR R) (tcR R 1) (vlR R) h) _ (fun r _ => ext _ (PrS.dx r)), wsA_ext (fa' := fa) (se' := sn (szR R) (tcR R 1) (vlR R) h) _ (fun a _ => ext _ (PrS.dxa a))]
      rfl)
  rw [wst_ext (fa' := fa) (se' := sn (szR R) (tcR R 1) (vlR R) h) _ (fun r _ => ext _ (PrS.dx r))]
  exact k
theorem o_score (h0 : 180 < d) (hB : B ≤ B') : VO_score E d (JA x B) (JA x B') := fun V a0 a1 hJ => liftJ hJ (fun hW hS => by
  rcases hS.inQ a0 with ⟨hP, hM⟩ | ⟨q, t, n, R, nt, fa, h, px, cs, hq, rfl, hI⟩
  · exact nul_score (J := fun V2 => WF V2 → JS B' V2) (by omega) hW hP hM (fun _ => hS.mono hB)
  · have p20 := hI.p20
    have hh := hI.hnd
    have fin : ∀ (r : Int64), r = r ∧ (WF V → JS B' V) := fun r => ⟨rfl, fun _ => hS.mono hB⟩
    refine w_X11_score_0 (by omega) (c_known_y hI hq ⟨fun z => absurd hI.2.1.1.1 z, fun _ => ⟨hI.2.1.1.2, c_lvlC (fun hn => ⟨fun z => absurd rfl z, fun _ => ?_⟩) (fun u hu e => ⟨fun _ => ?_, fun z => absurd z (by decide)⟩)⟩⟩)
    · exact w_X12_score_0 (by omega) (c_isProblem_y hI.mi hq ⟨fun w => absurd w (by decide), fun _ => c_lvlM (fun _ => ⟨fun z => absurd rfl z, fun _ => fin _⟩) (fun u hu e => absurd e (hn u hu))⟩)
    · subst e
      rw [hh.1]
      refine c_weighHand (by omega) hW hI (fun V8 k8 s8 => ?_)
      have mi := hI.mi.fc hI.1 k8 (fun f j y => absurd y (csS_6 hI f j))
      rw [nI_clamp (show u < 2 ^ 31 by omega), s8 u hu]
      refine ⟨vp_in_nI hu (by decide), w_X12_score_0 (by omega) (c_isProblem_y mi hq ⟨fun w => absurd w (by decide), fun _ => c_lvlM (fun w => absurd rfl (w u hu)) (fun _ _ _ => ⟨fun _ => know_end (by omega) hq hS hI k8 (fun V2 f2 w mi2 hI2 hS2 => ?_), fun w => absurd w (by decide)⟩)⟩)⟩
      refine c_handOf (by omega) hI2.sq hI2.hq ?_
      rw [i20k, nI_clamp (show 20000 * u + h < 2 ^ 31 by omega), (w h hh.2).2.2 u hu]
      exact ⟨vp_in_nI (by omega) (by decide), rfl, fun _ => hS2.mono hB⟩)
theorem o_feasible (h0 : 180 < d) (hB : B ≤ B') : VO_feasible E d (JA x B) (JA x B') := fun V a0 hJ => liftI hJ (fun hW hS => by
  rcases hS.inQ a0 with ⟨hP, hM⟩ | ⟨q, t, n, R, nt, fa, h, px, cs, hq, rfl, hI⟩
  · exact nul_feasible (J := fun V2 => WF V2 → JS B' V2) (by omega) hW hP hM (fun _ => hS.mono hB)
  · have p20 := hI.p20
    have hh := hI.hnd
    refine w_X11_feasible_0 (by omega) (c_known_y hI hq ⟨fun _ => ⟨hI.2.1.1.2, ?_⟩, fun z => absurd hI.2.1.1.1 z⟩)
    rw [hh.1]
    refine c_weighHand (by omega) hW hI (fun V8 k8 s8 => ?_)
    have mi := hI.mi.fc hI.1 k8 (fun f j y => absurd y (csS_6 hI f j))
    have e9 : vI V8 (q + 1) 9 0 = vI V (q + 1) 9 0 := k8.i (fun y => by have := y.2; omega)
    rw [e9]
    have fs := fea_sc E hI.1 hI.bd.2 hI.2.1.2.2.2.2.1.1 h
    have ref : ∀ (c : Int32), (c = 1 ↔ scP (szR R) (tcR R 1) (vlR R) (DR R nt) (DRa R nt) (lvn R) (aln R) (wtR R) (tcR R 2) (tcR R 3) fa h 0 = 0) → (c = 0 ∨ c = 1) → vMI E d M_X12_feasible [sl 6 0, wi (nI q)] V8 (fun r' V2 => c = r' ∧ (WF V2 → JS B' V2)) := by
      intro c hc hc2
      refine w_X12_feasible_0 (by omega) (c_isProblem_y mi hq ⟨fun _ => know_end (by omega) hq hS hI k8 (fun V2 f2 w mi2 hI2 hS2 => ?_), fun w => absurd w (by decide)⟩)
      refine c_handOf (by omega) hI2.sq hI2.hq (w_X12_isFeasible_0 ?_)
      have wz := (w h hh.2).2.2 0 (by decide)
      rw [Nat.mul_zero, Nat.zero_add] at wz
      rw [nI_clamp (show h < 2 ^ 31 by omega), wz]
      refine ⟨vp_in_nI (by omega) (by decide), fun z => ⟨Or.inl rfl, ?_, fun _ => hS2.mono hB⟩, fun z => ⟨Or.inr rfl, hc.mpr z, fun _ => hS2.mono hB⟩⟩
      rcases hc2 with y | y
      · exact y
      · exact absurd (hc.mp y) z
    exact ⟨fun z => ref 0 ⟨fun y => absurd y (by decide), fun y => absurd (fs.mpr y) z⟩ (Or.inl rfl), fun z => ref 1 ⟨fun _ => fs.mp z, fun _ => rfl⟩ (Or.inr rfl)⟩)
end
