/-! solve, best, bests, bestAt, feasibles, feasibleAt -/
section
variable {E : EE} {d : Nat} {V V' V2 : VH} {q B : Nat} {t : Nat → Int32} {n : Nat} {R : List SR} {nt fa : Nat → Int32} {h h' : Nat} {x b : Int32} {cs : Nat → Int32}
theorem waS_ek {a f j : Nat} (y : waS a f j) : enK q a f j := by
  rcases y with ⟨y1, y2⟩ | ⟨y1, y2⟩
  · exact ⟨Or.inr (Or.inl ⟨y1, by omega⟩), fun z => by omega, fun z => by omega⟩
  · exact ⟨Or.inr (Or.inl ⟨y1, by omega⟩), fun z => by omega, fun z => by omega⟩
theorem lsS_ek {a f j : Nat} (y : lsS (q + 1) a f j) : enK q a f j := ⟨Or.inl ⟨y.1, by have := y.2; omega⟩, fun z => by have := y.1; omega, fun z => by have := y.2; omega⟩
theorem lsS_cs {a f j : Nat} (y : lsS (q + 1) a f j) : csS q a f j := ⟨y.1, by have := y.2; omega⟩
theorem hnS_ek {a f j : Nat} (y : hnS q a f j) : enK q a f j := ⟨Or.inr (Or.inl ⟨y.1, by have := y.2; omega⟩), fun z => by have := y.1; omega, fun z => by have := y.2; omega⟩
theorem WqR.fc {S : Nat → Nat → Nat → Prop} (w : WqR V R nt fa) (k : Fc V V' S) (c : ∀ f j, f = 43 ∨ f = 44 ∨ f = 45 → ¬ S 6 f j) : WqR V' R nt fa := Wq.ex w (fun f j z => k.i (c f j (by omega))) (fun j => k.j (c 45 j (by omega)))
/-- element i of the class's list -/
theorem ls_at {i : Nat} {L : List Nat} (s : Scd V q R nt fa) (k : Fc V V' (lsS (q + 1))) (l : Ls V' (q + 1) L) (hl : L.length ≤ plR R) (hi : i < L.length) : vp_in (nI i) (vN V' (q + 1) 20) ∧ vI V' (q + 1) 20 (Int32.toNatClampNeg (nI i)) = nI (L.getD i 0) := by
  obtain ⟨t1, t2, t3, _⟩ := s.1
  rw [nI_clamp (show i < 2 ^ 31 by omega), k.n]
  exact ⟨vp_in_nI (by omega) (by omega), l.2 i hi⟩
theorem gL_le : (gL b R nt fa h x).length ≤ plR R := by rw [gL_len]; exact cnL_le _ _
/-- both have moved to plan p -/
theorem mv_end {p : Nat} {V1 V4 V9 V2 V3 : VH} (hq : q < 4) (hS : JS B V1) (hI : PbI V1 q t n R nt fa h x cs) (f4 : Fc V1 V4 (lsS (q + 1))) (e9 : V9 = wrI V4 (q + 1) 0 8 (nI p)) (hp : p < plR R) (f2 : Fc V9 V2 waS) (w : WqR V2 R nt fa) (e1 : vI V2 6 0 62 = nI q) (e2 : vI V2 6 0 63 = vI V1 6 33 q) (f3 : Fc V2 V3 (hnS q)) (hh : Hq V3 q (tcR R 1) (szR R) p) : JS B V3 := by
  have hq6 : q + 1 ≠ 6 := by omega
  have k9 : Fc V4 V9 (enK q) := by rw [e9]; exact Fc_wrI ⟨Or.inl ⟨rfl, by omega⟩, fun z => by omega, fun z => by omega⟩
  have k : Fc V1 V3 (enK q) := (((f4.mono (fun a f j y => lsS_ek y)).trans k9).trans (f2.mono (fun a f j y => waS_ek y))).trans (f3.mono (fun a f j y => hnS_ek y))
  refine (hS.ek hI hq k (w.fc f3 (fun f j z y => by have := y.2.1; omega)) (by rw [f3.i (fun y => by have := y.2.1; omega)]; exact e1) (by rw [f3.i (fun y => by have := y.2.1; omega)]; exact e2) ⟨?_, hp⟩ hh).1
  rw [f3.i (fun y => by have := y.1; omega), f2.i (fun y => by rcases y with ⟨y, _⟩ | ⟨y, _⟩ <;> omega), e9]
  exact wrI_at
end
section
variable {E : EE} {d x B B' : Nat}
theorem o_solve (h0 : 180 < d) (hB : B ≤ B') : VO_solve E d (JA x B) (JA x B') := fun V a0 hJ => liftI hJ (fun hW hS => by
  rcases hS.inQ a0 with ⟨hP, hM⟩ | ⟨q, t, n, R, nt, fa, h, px, cs, hq, rfl, hI⟩
  · exact nul_solve (J := fun V2 => WF V2 → JS B' V2) (by omega) hW hP hM (fun _ => hS.mono hB)
  · refine w_X11_solve_0 (by omega) (c_scoredQ (by omega) hW hq hS hI (fun V1 hS1 hI1 s1 => ⟨fun _ => ⟨hI1.2.1.1.2, c_gatherFor (b := 1) (by omega) hI1 s1 (fun V4 f4 l4 => ⟨fun z => ?_, fun z => ?_⟩)⟩, fun z => absurd hI1.2.1.1.1 z⟩))
    · have p20 := hI.p20
      have gl := gL_le (b := 1) (R := R) (nt := nt) (fa := fa) (h := h) (x := px)
      have e0 : (gL 1 R nt fa h px).length = 0 := by
        by_cases c : (gL 1 R nt fa h px).length = 0
        · exact c
        · exact absurd z (nI_ge (b := (gL 1 R nt fa h px).length) (a := 0) (by omega) (by omega))
      have g0 : gdR R nt fa h px = [] := by
        by_cases c : gdR R nt fa h px = []
        · exact c
        · obtain ⟨L, e⟩ := bsts_0 (sc := scQ R nt fa) c
          have : gL 1 R nt fa h px = bst (scQ R nt fa) (gdR R nt fa h px) :: L := e
          rw [this] at e0; exact absurd e0 (by simp)
      have mi := hI1.mi.fc hI1.1 f4 (fun f j y => by have := y.1; omega)
      refine w_X12_solve_0 (by omega) (c_isProblem_y mi hq ⟨fun _ => know_end (by omega) hq hS1 hI1 (f4.mono (fun a f j y => lsS_cs y)) (fun V2 f2 w mi2 hI2 hS2 => c_fb (by omega) ⟨mi2, w⟩ ?_), fun w => absurd w (by decide)⟩)
      unfold fbI
      rw [if_pos g0]
      exact ⟨fun z => absurd z (by decide), fun _ => ⟨rfl, fun _ => hS2.mono hB⟩⟩
    · have p20 := hI.p20
      have gl := gL_le (b := 1) (R := R) (nt := nt) (fa := fa) (h := h) (x := px)
      have g0 : gdR R nt fa h px ≠ [] := fun c => z (by
        have : gL 1 R nt fa h px = [] := by show bsts _ _ = _; rw [c]; rfl
        rw [this]; decide)
      obtain ⟨L, e⟩ := bsts_0 (sc := scQ R nt fa) g0
      have eL : gL 1 R nt fa h px = bst (scQ R nt fa) (gdR R nt fa h px) :: L := e
      have hi : 0 < (gL 1 R nt fa h px).length := by rw [eL]; simp
      obtain ⟨a1, a2⟩ := ls_at (i := 0) s1 f4 l4 gl hi
      have hp : bst (scQ R nt fa) (gdR R nt fa h px) < plR R := gd_lt (bst_mem g0)
      refine ⟨a1, ?_⟩
      have a2' : vI V4 (q + 1) 20 (Int32.toNatClampNeg 0) = nI (bst (scQ R nt fa) (gdR R nt fa h px)) := by
        have : (gL 1 R nt fa h px).getD 0 0 = bst (scQ R nt fa) (gdR R nt fa h px) := by rw [eL]; rfl
        rw [← this]; exact a2
      rw [a2']
      refine w_X3_moveTo_0 (by rw [f4.l]; exact hI1.2.1.1) (fun V9 e9 => ⟨fun y => absurd y (by decide), fun _ => ?_⟩)
      have k9 : Fc V1 V9 (fun a f j => a = q + 1) := (f4.mono (fun a f j y => y.1)).trans (by rw [e9]; exact Fc_wrI rfl)
      have mi := hI1.mi.fc hI1.1 k9 (fun f j y => by have y : 6 = q + 1 := y; omega)
      refine w_X12_solve_0 (by omega) (c_isProblem_y mi hq ⟨fun _ => know_go (by omega) hI1 k9 (fun f j y => by have y : 6 = q + 1 := y; omega) (fun V2 f2 w mi2 e1 e2 => c_fb (by omega) ⟨mi2, w⟩ ?_), fun w => absurd w (by decide)⟩)
      unfold fbI
      rw [if_neg g0]
      refine ⟨fun _ => c_putAtHand (by omega) mi2.1.2.2.2.2.1 hp (fun V3 f3 hh => ⟨rfl, fun _ => (mv_end hq hS1 hI1 f4 e9 hp f2 w e1 e2 (f3.mono (fun a f j y => ⟨y.1, y.2.1, y.2.2.1, by have := y.2.2.2; have := hI.v12; omega⟩)) hh).mono hB⟩), fun z => absurd (nI_le (a := 0) (Nat.zero_le _) (by omega)) z⟩)
theorem o_best (h0 : 180 < d) (hB : B ≤ B') : VO_best E d (JA x B) (JA x B') := fun V a0 a1 hJ => liftJ hJ (fun hW hS => by
  rcases hS.inQ a0 with ⟨hP, hM⟩ | ⟨q, t, n, R, nt, fa, h, px, cs, hq, rfl, hI⟩
  · exact nul_best (J := fun V2 => WF V2 → JS B' V2) (by omega) hW hP hM (fun _ => hS.mono hB)
  · have p20 := hI.p20
    refine w_X11_best_0 (by omega) (c_scoredQ (by omega) hW hq hS hI (fun V1 hS1 hI1 s1 => ⟨fun z => absurd hI1.2.1.1.1 z, fun _ => ⟨hI1.2.1.1.2, c_lvlC (fun hn => ⟨fun _ => ?_, fun z => absurd rfl z⟩) (fun u hu e => ⟨fun z => absurd z (by decide), fun _ => ?_⟩)⟩⟩))
    · exact w_X12_best_0 (by omega) (c_isProblem_y hI1.mi hq ⟨fun w => absurd w (by decide), fun _ => c_lvlM (fun _ => ⟨fun z => absurd rfl z, fun _ => ⟨rfl, fun _ => hS1.mono hB⟩⟩) (fun u hu e => absurd e (hn u hu))⟩)
    · subst e
      refine c_gatherFor (b := 1) (by omega) hI1 s1 (fun V4 f4 l4 => ?_)
      have gl := gL_le (b := 1) (R := R) (nt := nt) (fa := fa) (h := h) (x := px)
      have mi := hI1.mi.fc hI1.1 f4 (fun f j y => by have := y.1; omega)
      have ref : ∀ (r : Int64), (gdR R nt fa h px = [] → r = -9223372036854775808) → (gdR R nt fa h px ≠ [] → r = scQ R nt fa (bst (scQ R nt fa) (gdR R nt fa h px)) u) → vMJ E d M_X12_best [sl 6 0, wi (nI q), wi (nI u)] V4 (fun r' V2 => r = r' ∧ (WF V2 → JS B' V2)) := fun r h1 h2 => by
        refine w_X12_best_0 (by omega) (c_isProblem_y mi hq ⟨fun w => absurd w (by decide), fun _ => c_lvlM (fun w => absurd rfl (w u hu)) (fun _ _ _ => ⟨fun _ => know_end (by omega) hq hS1 hI1 (f4.mono (fun a f j y => lsS_cs y)) (fun V2 f2 w mi2 hI2 hS2 => c_fb (by omega) ⟨mi2, w⟩ ?_), fun w => absurd w (by decide)⟩)⟩)
        refine fb_neg (R := R) (nt := nt) (fa := fa) (h := h) (x := px) p20 (fun c e => ?_) (fun c e hlt => ?_)
        · rw [e]
          exact ⟨fun z => absurd z (by decide), fun _ => ⟨h1 c, fun _ => hS2.mono hB⟩⟩
        · rw [e]
          refine ⟨fun _ => ?_, fun z => absurd (nI_le (a := 0) (Nat.zero_le _) (by omega)) z⟩
          rw [i20k, nI_clamp (show 20000 * u + bst (scQ R nt fa) (gdR R nt fa h px) < 2 ^ 31 by omega), (w _ hlt).2.2 u hu]
          exact ⟨vp_in_nI (by omega) (by decide), h2 c, fun _ => hS2.mono hB⟩
      refine ⟨fun z => ?_, fun z => ref _ (fun _ => rfl) (fun c => ?_)⟩
      · have g0 : gdR R nt fa h px ≠ [] := fun c => z (by
          have : gL 1 R nt fa h px = [] := by show bsts _ _ = _; rw [c]; rfl
          rw [this]; decide)
        obtain ⟨L, e⟩ := bsts_0 (sc := scQ R nt fa) g0
        have eL : gL 1 R nt fa h px = bst (scQ R nt fa) (gdR R nt fa h px) :: L := e
        have hi : 0 < (gL 1 R nt fa h px).length := by rw [eL]; simp
        obtain ⟨a1, a2⟩ := ls_at (i := 0) s1 f4 l4 gl hi
        have hp : bst (scQ R nt fa) (gdR R nt fa h px) < plR R := gd_lt (bst_mem g0)
        have a2' : vI V4 (q + 1) 20 (Int32.toNatClampNeg 0) = nI (bst (scQ R nt fa) (gdR R nt fa h px)) := by
          have : (gL 1 R nt fa h px).getD 0 0 = bst (scQ R nt fa) (gdR R nt fa h px) := by rw [eL]; rfl
          rw [← this]; exact a2
        rw [a2']
        exact ⟨a1, c_scoreOf (by rw [f4.l]; exact hI1.2.1.1) (s1.1.fc f4 (fun i => ⟨fun y => by have := y.2; omega, fun y => by have := y.2; omega⟩)) hp hu (ref _ (fun c => absurd c g0) (fun _ => rfl))⟩
      · obtain ⟨L, e⟩ := bsts_0 (sc := scQ R nt fa) c
        have eL : gL 1 R nt fa h px = bst (scQ R nt fa) (gdR R nt fa h px) :: L := e
        have l0 : (gL 1 R nt fa h px).length = 0 := (nI_eq (b := 0) (by omega) (by decide)).mp z
        rw [eL] at l0
        exact absurd l0 (by simp))
theorem o_bests (h0 : 180 < d) (hB : B ≤ B') : VO_bests E d (JA x B) (JA x B') := fun V a0 hJ => liftI hJ (fun hW hS => by
  rcases hS.inQ a0 with ⟨hP, hM⟩ | ⟨q, t, n, R, nt, fa, h, px, cs, hq, rfl, hI⟩
  · exact nul_bests (J := fun V2 => WF V2 → JS B' V2) (by omega) hW hP hM (fun _ => hS.mono hB)
  · refine w_X11_bests_0 (by omega) (c_scoredQ (by omega) hW hq hS hI (fun V1 hS1 hI1 s1 => ⟨fun _ => ⟨hI1.2.1.1.2, c_gatherFor (b := 1) (by omega) hI1 s1 (fun V4 f4 l4 => ?_)⟩, fun z => absurd hI1.2.1.1.1 z⟩))
    have mi := hI1.mi.fc hI1.1 f4 (fun f j y => by have := y.1; omega)
    refine w_X12_bests_0 (by omega) (c_isProblem_y mi hq ⟨fun _ => know_end (by omega) hq hS1 hI1 (f4.mono (fun a f j y => lsS_cs y)) (fun V2 f2 w mi2 hI2 hS2 => c_fb (by omega) ⟨mi2, w⟩ ?_), fun w => absurd w (by decide)⟩)
    have go := bests_go (E := E) (d := d) (V := V2) (K := fun r' V2 => nI (gL 1 R nt fa h px).length = r' ∧ (WF V2 → JS B' V2)) (by omega) ⟨mi2, w⟩ ⟨rfl, fun _ => hS2.mono hB⟩ (plR R) 0 (Nat.zero_add _)
    exact go)
theorem o_feasibles (h0 : 180 < d) (hB : B ≤ B') : VO_feasibles E d (JA x B) (JA x B') := fun V a0 hJ => liftI hJ (fun hW hS => by
  rcases hS.inQ a0 with ⟨hP, hM⟩ | ⟨q, t, n, R, nt, fa, h, px, cs, hq, rfl, hI⟩
  · exact nul_feasibles (J := fun V2 => WF V2 → JS B' V2) (by omega) hW hP hM (fun _ => hS.mono hB)
  · refine w_X11_feasibles_0 (by omega) (c_scoredQ (by omega) hW hq hS hI (fun V1 hS1 hI1 s1 => ⟨fun _ => ⟨hI1.2.1.1.2, c_gatherFor (b := 0) (by omega) hI1 s1 (fun V4 f4 l4 => ?_)⟩, fun z => absurd hI1.2.1.1.1 z⟩))
    have mi := hI1.mi.fc hI1.1 f4 (fun f j y => by have := y.1; omega)
    refine w_X12_feasibles_0 (by omega) (c_isProblem_y mi hq ⟨fun _ => know_end (by omega) hq hS1 hI1 (f4.mono (fun a f j y => lsS_cs y)) (fun V2 f2 w mi2 hI2 hS2 => ?_), fun w => absurd w (by decide)⟩)
    exact feas_go (E := E) (d := d) (V := V2) (K := fun r' V2 => nI (gL 0 R nt fa h px).length = r' ∧ (WF V2 → JS B' V2)) (by omega) ⟨mi2, w⟩ ⟨rfl, fun _ => hS2.mono hB⟩ (plR R) 0 (Nat.zero_add _))
/-- the class has gathered: both move to the plan of that number, or not -/
theorem at_end {V1 V4 : VH} {q : Nat} {t : Nat → Int32} {n : Nat} {R : List SR} {nt fa : Nat → Int32} {h : Nat} {px b : Int32} {cs : Nat → Int32} {a1 : Int32} (K : Int32 → VH → Prop) (h0 : 180 < d) (hB : B ≤ B') (hq : q < 4) (hS1 : JS B V1) (hI1 : PbI V1 q t n R nt fa h px cs) (s1 : Scd V1 q R nt fa) (f4 : Fc V1 V4 (lsS (q + 1))) (l4 : Ls V4 (q + 1) (gL b R nt fa h px)) (z1 : ¬ a1 < 0) (hK : ∀ r V', vMI E d M_X12_planAt [sl 6 0, wi (nI q), wi a1, wi b] V' (fun r1 V2 => bz r1 ∧ r = r1 ∧ (WF V2 → JS B' V2)) → K r V') : (nI (gL b R nt fa h px).length ≤ a1 → K 0 V4) ∧ (¬ (nI (gL b R nt fa h px).length ≤ a1) → vp_in a1 (vN V4 (q + 1) 20) ∧ vMI E d M_X3_moveTo [sl (q + 1) 0, wi (vI V4 (q + 1) 20 (Int32.toNatClampNeg a1))] V4 (fun r9 V9 => (r9 = 0 → K 0 V9) ∧ (¬ (r9 = 0) → K 1 V9))) := by
  have p20 := hI1.p20
  have gl := gL_le (b := b) (R := R) (nt := nt) (fa := fa) (h := h) (x := px)
  have ea : ∃ i, i < 2 ^ 31 ∧ a1 = nI i := by
    refine ⟨a1.toInt.toNat, ?_, ?_⟩
    · have := a1.toInt_lt; omega
    · have a : 0 ≤ a1.toInt := by have := mt Int32.lt_iff_toInt_lt.mpr z1; rw [show (0 : Int32).toInt = 0 from by decide] at this; omega
      refine Int32.toInt_inj.mp ?_
      rw [show (nI a1.toInt.toNat).toInt = (a1.toInt.toNat : Int) from Int32.toInt_ofNat_of_lt (by have := a1.toInt_lt; omega)]
      omega
  obtain ⟨i, hi, rfl⟩ := ea
  refine ⟨fun z => hK 0 V4 ?_, fun z => ?_⟩
  · have le : (gL b R nt fa h px).length ≤ i := by
      by_cases c : (gL b R nt fa h px).length ≤ i
      · exact c
      · exact absurd z (nI_ge (by omega) (by omega))
    refine c_planAt h0 hi hq hI1 f4 (fun f j y => by have := y.1; omega) (fun _ V2 f2 kn e1 e2 => ⟨Or.inl rfl, rfl, fun _ => ?_⟩) (fun y => absurd y (by omega))
    have k : Fc V1 V2 (enK q) := (f4.mono (fun a f j y => lsS_ek y)).trans (f2.mono (fun a f j y => waS_ek y))
    refine (hS1.ek hI1 hq k kn.2 e1 e2 ⟨?_, hI1.hnd.2⟩ kn.hq).1.mono hB
    rw [f2.i (fun y => by rcases y with ⟨y, _⟩ | ⟨y, _⟩ <;> omega), f4.i (fun y => by have := y.2; omega)]
    exact hI1.hnd.1
  · have lt : i < (gL b R nt fa h px).length := by
      by_cases c : (gL b R nt fa h px).length ≤ i
      · exact absurd (nI_le c hi) z
      · omega
    obtain ⟨a1, a2⟩ := ls_at (i := i) s1 f4 l4 gl lt
    refine ⟨a1, ?_⟩
    rw [a2]
    refine w_X3_moveTo_0 (by rw [f4.l]; exact hI1.2.1.1) (fun V9 e9 => ⟨fun y => absurd y (by decide), fun _ => hK 1 V9 ?_⟩)
    have k9 : Fc V1 V9 (fun a f j => a = q + 1) := (f4.mono (fun a f j y => y.1)).trans (by rw [e9]; exact Fc_wrI rfl)
    exact c_planAt h0 hi hq hI1 k9 (fun f j y => by have y : 6 = q + 1 := y; omega) (fun y => absurd y (by omega)) (fun _ V2 V3 f2 w e1 e2 f3 hh => ⟨Or.inr rfl, rfl, fun _ => (mv_end hq hS1 hI1 f4 e9 (gL_lt (getD_mem lt)) f2 w e1 e2 f3 hh).mono hB⟩)
theorem o_bestAt (h0 : 190 < d) (hB : B ≤ B') : VO_bestAt E d (JA x B) (JA x B') := fun V a0 a1 hJ => liftI hJ (fun hW hS => by
  rcases hS.inQ a0 with ⟨hP, hM⟩ | ⟨q, t, n, R, nt, fa, h, px, cs, hq, rfl, hI⟩
  · exact nul_bestAt (J := fun V2 => WF V2 → JS B' V2) (by omega) hW hP hM (fun _ => hS.mono hB)
  · refine w_X11_bestAt_0 (by omega) (c_scoredQ (by omega) hW hq hS hI (fun V1 hS1 hI1 s1 => ⟨fun z => absurd hI1.2.1.1.1 z, fun _ => ⟨hI1.2.1.1.2, fun z => ?_, fun z => c_gatherFor (b := 1) (by omega) hI1 s1 (fun V4 f4 l4 => ?_)⟩⟩))
    · exact w_X12_bestAt_0 (by omega) (w_X12_planAt_0 (by omega) (c_isProblem_y hI1.mi hq ⟨fun w => absurd w (by decide), fun _ => ⟨fun y => absurd z (Int32.not_lt.mpr y), fun _ => ⟨Or.inl rfl, rfl, fun _ => hS1.mono hB⟩⟩⟩))
    · exact at_end (E := E) (d := d - 1) (fun r V' => vMI E d M_X12_bestAt [sl 6 0, wi (nI q), wi a1] V' (fun r' V2 => r = r' ∧ (WF V2 → JS B' V2))) (by omega) hB hq hS1 hI1 s1 f4 l4 z (fun r V' hv => w_X12_bestAt_0 (by omega) hv))
theorem o_feasibleAt (h0 : 190 < d) (hB : B ≤ B') : VO_feasibleAt E d (JA x B) (JA x B') := fun V a0 a1 hJ => liftI hJ (fun hW hS => by
  rcases hS.inQ a0 with ⟨hP, hM⟩ | ⟨q, t, n, R, nt, fa, h, px, cs, hq, rfl, hI⟩
  · exact nul_feasibleAt (J := fun V2 => WF V2 → JS B' V2) (by omega) hW hP hM (fun _ => hS.mono hB)
  · refine w_X11_feasibleAt_0 (by omega) (c_scoredQ (by omega) hW hq hS hI (fun V1 hS1 hI1 s1 => ⟨fun z => absurd hI1.2.1.1.1 z, fun _ => ⟨hI1.2.1.1.2, fun z => ?_, fun z => c_gatherFor (b := 0) (by omega) hI1 s1 (fun V4 f4 l4 => ?_)⟩⟩))
    · exact w_X12_feasibleAt_0 (by omega) (w_X12_planAt_0 (by omega) (c_isProblem_y hI1.mi hq ⟨fun w => absurd w (by decide), fun _ => ⟨fun y => absurd z (Int32.not_lt.mpr y), fun _ => ⟨Or.inl rfl, rfl, fun _ => hS1.mono hB⟩⟩⟩))
    · exact at_end (E := E) (d := d - 1) (fun r V' => vMI E d M_X12_feasibleAt [sl 6 0, wi (nI q), wi a1] V' (fun r' V2 => r = r' ∧ (WF V2 → JS B' V2))) (by omega) hB hq hS1 hI1 s1 f4 l4 z (fun r V' hv => w_X12_feasibleAt_0 (by omega) hv))
end
