/-! whyNot, because -/
theorem vMP.up {E : EE} {d : Nat} {N : MD} {as : List WV} {V : VH} {K : Nat → VH → Prop} (h : vMP E d N as V K) : vMP E d N as V (fun x V' => K x V' ∧ WF V' ∧ Xl V V') := vM.mono (vM.up h) (fun _ V' ⟨⟨x, e, q⟩, u⟩ => ⟨x, e, q, u⟩)
section
variable {E : EE} {d : Nat} {V V' V1 V2 : VH} {q B : Nat} {t : Nat → Int32} {n : Nat} {R : List SR} {nt fa : Nat → Int32} {h h' : Nat} {x b : Int32} {cs : Nat → Int32}
theorem c_scoredW {K : Nat → VH → Prop} (h0 : 7 < d) (hW : WF V) (hq : q < 4) (hJ : JS B V) (hI : PbI V q t n R nt fa h x cs) (hk : ∀ V1, WF V1 → JS B V1 → PbI V1 q t n R nt fa h x cs → Scd V1 q R nt fa → K (q + 1) V1) : vMP E d M_X11_scored [sl 0 28, wi (nI q)] V K :=
  vMP.mono (vMP.up (c_scoredQ (K := fun g V1 => g = q + 1 ∧ JS B V1 ∧ PbI V1 q t n R nt fa h x cs ∧ Scd V1 q R nt fa) h0 hW hq hJ hI (fun V1 a b c => ⟨rfl, a, b, c⟩))) (fun g V1 ⟨⟨e, a, b, c⟩, w, _⟩ => by rw [e]; exact hk V1 w a b c)
theorem PbI.csq (hI : PbI V q t n R nt fa h x cs) (k : Fc V V' (csS q)) : PbI V' q t n R nt fa h x cs := hI.en (k.mono (fun a f j y => Or.inl ⟨y.1, by have := y.2; omega⟩)) (hI.2.2.2.2.2.2.1.cl k (csS_6 hI)) ⟨by rw [k.i (fun y => by have := y.2; omega)]; exact hI.hnd.1, hI.hnd.2⟩ ⟨hI.hq.1, fun v hv => by rw [k.i (csS_6 hI _ _)]; exact hI.hq.2 v hv⟩
theorem Scd.fc (s : Scd V q R nt fa) (k : Fc V V' (csS q)) : Scd V' q R nt fa := ⟨s.1.fc k (fun i => ⟨fun y => by have := y.2; omega, fun y => by have := y.2; omega⟩), by rw [k.i (fun y => by have := y.2; omega)]; exact s.2⟩
/-- the class looks at a plan -/
theorem c_lookQ {p : Nat} {K : VH → Prop} (h0 : 0 < d) (hI : PbI V q t n R nt fa h x cs) (f1 : Fc V V1 (csS q)) (hp : p < 2 ^ 31) (hk : ∀ V2, Fc V V2 (csS q) → Fc V1 V2 (fun a f _ => a = q + 1 ∧ f = 18) → (∀ v, v < tcR R 1 → vI V2 (q + 1) 18 v = sn (szR R) (tcR R 1) (vlR R) p v) → K V2) : vMV E d M_X2_look [sl (q + 1) 9, sl (q + 1) 5, wi (nI p)] V1 K :=
  c_look h0 (hI.sp.fc f1 (fun f i z y => by have := y.2; omega)) hp (fun V2 f2 s2 => hk V2 (f1.trans (f2.mono (fun a f j y => ⟨y.1, by have := y.2; omega⟩))) (f2.mono (fun a f j y => ⟨y.1, y.2.1⟩)) s2)
/-- the class runs rule r at the plan it has looked at -/
theorem c_runQ {p r : Nat} {K : Int32 → VH → Prop} (h0 : 4 < d) (hW : WF V) (hI : PbI V q t n R nt fa h x cs) (f2 : Fc V V2 (csS q)) (s2 : ∀ v, v < tcR R 1 → vI V2 (q + 1) 18 v = sn (szR R) (tcR R 1) (vlR R) p v) (hr : r < tcR R 2) (hk : ∀ V3, Fc V V3 (csS q) → Fc V2 V3 (fun a f j => a = q + 1 ∧ (f = 9 ∧ j = 13 ∨ f = 17)) → K (DR R nt r fa (sn (szR R) (tcR R 1) (vlR R) p)) V3) : vMI E d M_X2_run [sl (q + 1) 9, wi (nI r), sl (q + 1) 23] V2 K := by
  have rl := (hI.2.1.rl (E := E) (d := d) hI.1 (by omega)).2.2.2.2.2.1 r hr
  refine rl.2.2.2 V2 (q + 1) 23 _ (f2.jr (fun f i z => by have := z.2; omega)) (by rw [f2.l]; exact sP_23 hI.2.1.1) (by rw [f2.n]; exact vnP hW hI.2.1.1 (by decide)) (fun z => by omega) (fun V12 f12 => ?_)
  have dv : DR R nt r (vI V2 (q + 1) 23) (vI V2 (q + 1) 18) = DR R nt r fa (sn (szR R) (tcR R 1) (vlR R) p) := PrS.dx r _ _ _ _ (fun f hf => by rw [f2.i (fun y => by have := y.2; omega)]; exact hI.bd.1 f hf) (fun v hv => s2 v hv)
  rw [dv]
  exact hk V12 (f2.trans (f12.mono (fun a f j y => ⟨y.1, by have := y.2; omega⟩))) (f12.mono (fun a f j y => ⟨y.1, by have := y.2; omega⟩))
/-- good plans with a value -/
def wbL (R : List SR) (nt fa : Nat → Int32) (h : Nat) (x : Int32) (u : Nat) (w : Int32) : List Nat := (gdR R nt fa h x).filter (qVl R u w)
def wbI (R : List SR) (nt fa : Nat → Int32) (h : Nat) (x : Int32) (u : Nat) (w : Int32) : Int32 := if wbL R nt fa h x u w = [] then -1 else nI (bst (scQ R nt fa) (wbL R nt fa h x u w))
theorem wb_lt {u : Nat} {w : Int32} {p : Nat} (hp : p ∈ wbL R nt fa h x u w) : p ∈ gdR R nt fa h x ∧ p < plR R := ⟨(List.mem_filter.mp hp).1, gd_lt (List.mem_filter.mp hp).1⟩
theorem wb_neg {u : Nat} {w : Int32} {P : Prop} (h1 : wbI R nt fa h x u w = -1 → P) (h2 : ∀ p, p ∈ gdR R nt fa h x → p < plR R → wbI R nt fa h x u w = nI p → P) : P := by
  by_cases c : wbL R nt fa h x u w = []
  · exact h1 (by unfold wbI; rw [if_pos c])
  · have m := bst_mem (sc := scQ R nt fa) c
    exact h2 _ (wb_lt m).1 (wb_lt m).2 (by unfold wbI; rw [if_neg c])
theorem c_firstBestWith {v y : Int32} {K : Int32 → VH → Prop} (h0 : 3 < d) (hI : PbI V q t n R nt fa h x cs) (s : Scd V q R nt fa) (hn : (∀ u, u < tcR R 1 → v = nI u → ∀ k, k < szR R u → vlR R u k ≠ y) → K (-1) V) (hy : ∀ u k, u < tcR R 1 → v = nI u → k < szR R u → vlR R u k = y → (∀ j, j < k → vlR R u j ≠ y) → ∀ V', Fc V V' (lsS (q + 1)) → K (wbI R nt fa h x u (nI k)) V') : vMI E d M_X3_firstBestWith [sl (q + 1) 0, wi v, wi y] V K := by
  have p20 := hI.p20
  refine w_X3_firstBestWith_0 hI.2.1.1 (by omega) (c_placeOfValue hI.sp (fun z => ⟨fun w => absurd w (by decide), fun _ => hn z⟩) (fun u k hu eu hk ek mn => ⟨fun _ => ?_, fun w => absurd (nI_le (a := 0) (Nat.zero_le _) (by have := (hI.sp.2.2.2.2.2 u hu).2.2.1; omega)) w⟩))
  rw [hI.2.1.2.2.2.2.2.2.2.2.2.1, eu]
  refine c_gatherQ (by omega) hI s (fun V4 f4 l4 => ?_)
  obtain ⟨t1, t2, t3, _⟩ := s.1
  have gl : (gdR R nt fa h x).length ≤ plR R := Nat.le_trans (List.length_filter_le _ _) (by rw [List.length_range]; exact Nat.le_refl _)
  have S4 : Sp V4 (q + 1) (tcR R 1) (szR R) (vlR R) := hI.sp.fc f4 (fun f i z y => by have := y.2; omega)
  refine c_keepValue (m := plR R) (R := R) (by omega) S4 hu (by rw [f4.n]; omega) (by rw [f4.n]; omega) l4 (fun p hp => by have := gd_lt hp; omega) gl (fun V7 f7 l7 => ?_)
  have f17 := f4.trans f7
  have wl : (wbL R nt fa h x u (nI k)).length ≤ plR R := Nat.le_trans (List.length_filter_le _ _) gl
  refine c_keepBest (by omega) (by rw [f17.l]; exact hI.2.1.1) (s.1.fc f17 (fun i => ⟨fun y => by have := y.2; omega, fun y => by have := y.2; omega⟩)) l7 (fun p hp => (wb_lt hp).2) wl (fun z => ?_) (fun z V10 f10 l10 => ?_)
  · have z : wbL R nt fa h x u (nI k) = [] := z
    have := hy u k hu eu hk ek mn V7 f17
    unfold wbI at this
    rw [if_pos z] at this
    exact ⟨fun _ => this, fun w => absurd (by decide) w⟩
  · have z : wbL R nt fa h x u (nI k) ≠ [] := z
    have f110 := f17.trans f10
    have := hy u k hu eu hk ek mn V10 f110
    unfold wbI at this
    rw [if_neg z] at this
    obtain ⟨L, e⟩ := bsts_0 (sc := scQ R nt fa) z
    have l0 : 0 < (bsts (scQ R nt fa) (wbL R nt fa h x u (nI k))).length := by
      rw [e]; simp
    have bl : (bsts (scQ R nt fa) (wbL R nt fa h x u (nI k))).length ≤ plR R := Nat.le_trans (List.length_filter_le _ _) wl
    obtain ⟨a1, a2⟩ := ls_at (i := 0) s f110 l10 bl l0
    have a2' : vI V10 (q + 1) 20 (Int32.toNatClampNeg 0) = nI (bst (scQ R nt fa) (wbL R nt fa h x u (nI k))) := by
      have e' : (bsts (scQ R nt fa) (wbL R nt fa h x u (nI k))).getD 0 0 = bst (scQ R nt fa) (wbL R nt fa h x u (nI k)) := by
        rw [e]; rfl
      rw [← e']; exact a2
    rw [a2']
    exact ⟨fun w => absurd w (nI_ge (b := (bsts (scQ R nt fa) (wbL R nt fa h x u (nI k))).length) (a := 0) l0 (by omega)), fun _ => ⟨a1, this⟩⟩
theorem c_bestWith {u : Nat} {y : Int32} {K : Int32 → VH → Prop} (h0 : 3 < d) (hm : KnM V q t n R nt fa h x cs) (hu : u < tcR R 1) (hn : (∀ k, k < szR R u → vlR R u k ≠ y) → K (-1) V) (hy : ∀ k, k < szR R u → vlR R u k = y → (∀ j, j < k → vlR R u j ≠ y) → K (wbI R nt fa h x u (nI k)) V) : vMI E d M_X12_bestWith [sl 6 0, wi (nI q), wi (nI u), wi y] V K := by
  have s20 := (hm.sq.2.2.2.2.2 u hu).2.2.1
  have s1 := (hm.sq.2.2.2.2.2 u hu).2.1
  refine w_X12_bestWith_0 (by omega) (c_placeOfM hm.sq hu ?_)
  rcases fsb_pl (sz := szR R u) (vl := vlR R u) (y := y) with ⟨w1, w2⟩ | ⟨k, hk, ek, mn, w1⟩
  · rw [w1]; exact ⟨fun w => absurd w (by decide), fun _ => hn w2⟩
  · rw [w1]
    refine ⟨fun _ => ?_, fun w => absurd (nI_le (a := 0) (Nat.zero_le _) (by omega)) w⟩
    refine c_firstBest_go (W := fun p => decide (Dg (szR R) (tcR R 1) u p = k)) (by omega) hm.sq hm.hq hm.pq hm.tq (Or.inr ⟨u, k, hu, rfl, hk, rfl, fun _ => rfl⟩) ?_
    have eL : (List.range (plR R)).filter (fun p => goR R nt fa h x p && decide (Dg (szR R) (tcR R 1) u p = k)) = wbL R nt fa h x u (nI k) := by
      show _ = List.filter (qVl R u (nI k)) (List.filter (goR R nt fa h x) (List.range (plR R)))
      rw [List.filter_filter]
      refine List.filter_congr (fun p hp => ?_)
      rw [Bool.and_comm]
      congr 1
      have := Dg_lt hm.sq.pos (p := p) hu
      exact decide_eq_decide.mpr ⟨fun z => by rw [z], fun z => (nI_eq (by omega) (by omega)).mp z⟩
    have := hy k hk ek mn
    rw [fA_foldl, fbs_list]
    have eL' : (List.range (Tp (szR R) (tcR R 1) 0)).filter (fun q => goo (szR R) (tcR R 1) (tst x) h (scQ R nt fa) q && (fun p => decide (Dg (szR R) (tcR R 1) u p = k)) q) = wbL R nt fa h x u (nI k) := eL
    rw [eL']
    unfold wbI at this
    by_cases c : wbL R nt fa h x u (nI k) = []
    · rw [if_pos c] at this ⊢; exact this
    · rw [if_neg c] at this ⊢; exact this
/-- the first rule that plan a breaks by more than plan c -/
def fwR (R : List SR) (nt fa : Nat → Int32) (a c r : Nat) : Bool := decide (¬ DR R nt r fa (sn (szR R) (tcR R 1) (vlR R) a) ≤ DR R nt r fa (sn (szR R) (tcR R 1) (vlR R) c))
theorem c_firstWorse {a c : Nat} {K : Int32 → VH → Prop} (h0 : 6 < d) (hW : WF V) (hI : PbI V q t n R nt fa h x cs) (f1 : Fc V V1 (csS q)) (ha : a < 2 ^ 31) (hc : c < 2 ^ 31) (hk0 : (∀ r, r < tcR R 2 → fwR R nt fa a c r = false) → ∀ V', Fc V V' (csS q) → K (-1) V') (hk1 : ∀ r, r < tcR R 2 → (∀ j, j < r → fwR R nt fa a c j = false) → fwR R nt fa a c r = true → ∀ V', Fc V V' (csS q) → K (nI r) V') : vMI E d M_X3_firstWorseRule [sl (q + 1) 0, wi (nI a), wi (nI c)] V1 K := by
  have r24 : tcR R 2 ≤ 24 := hI.1.2.2.2.1.1 2 (by decide)
  have go : ∀ m r V1, r + m = tcR R 2 → Fc V V1 (csS q) → (∀ j, j < r → fwR R nt fa a c j = false) → vwp E d M_X3_firstWorseRule 2 [some (sl (q + 1) 0), some (wi (nI a)), some (wi (nI c)), some (wi (nI r)), none] [] V1 (zi K) := by
    intro m
    induction m with
    | zero =>
      intro r V1 e f1 hj
      have n4 : vI V1 (q + 1) 4 (Int32.toNatClampNeg 2) = nI (tcR R 2) := by
        rw [show Int32.toNatClampNeg 2 = 2 from rfl, f1.i (fun y => by have := y.2; omega)]
        exact (hI.2.1.2.2.1.1 2 (by decide)).1
      refine w_X3_firstWorseRule_2 (by rw [f1.l]; exact hI.2.1.1) (by omega) ⟨fun _ => hk0 (fun j hj' => hj j (by omega)) V1 f1, fun z => absurd ?_ z⟩
      rw [n4]; exact nI_le (by omega) (by omega)
    | succ m ih =>
      intro r V1 e f1 hj
      have n4 : vI V1 (q + 1) 4 (Int32.toNatClampNeg 2) = nI (tcR R 2) := by
        rw [show Int32.toNatClampNeg 2 = 2 from rfl, f1.i (fun y => by have := y.2; omega)]
        exact (hI.2.1.2.2.1.1 2 (by decide)).1
      have hr : r < tcR R 2 := by omega
      refine w_X3_firstWorseRule_2 (by rw [f1.l]; exact hI.2.1.1) (by omega) ⟨fun z => absurd z (by rw [n4]; exact nI_ge hr (by omega)), fun _ => ?_⟩
      refine c_lookQ (by omega) hI f1 ha (fun V2 f2 _ s2 => c_runQ (by omega) hW hI f2 s2 hr (fun V3 f3 _ => c_lookQ (by omega) hI f3 hc (fun V4 f4 _ s4 => c_runQ (by omega) hW hI f4 s4 hr (fun V5 f5 _ => ⟨fun z => ?_, fun z => ?_⟩))))
      · rw [nI_1]
        refine ih (r + 1) V5 (by omega) f5 (fun j hj' => ?_)
        by_cases c : j = r
        · rw [c]; exact decide_eq_false (fun y => y z)
        · exact hj j (by omega)
      · exact hk1 r hr hj (decide_eq_true z) V5 f5
  exact w_X3_firstWorseRule_0 (by rw [f1.l]; exact hI.2.1.1) (go (tcR R 2) 0 V1 (Nat.zero_add _) f1 (fun j hj => absurd hj (Nat.not_lt_zero j)))
theorem because_go {a c : Nat} {y z : Int32} {K : Int32 → VH → Prop} (h0 : 1 < d) (hm : KnM V q t n R nt fa h x cs) (ha : a < plR R) (hc : c < plR R) (r24 : tcR R 2 ≤ 24) (n14 : vI V 6 14 (4 * q + 2) = nI (tcR R 2)) (hk0 : (∀ r, r < tcR R 2 → fwR R nt fa a c r = false) → K (-1) V) (hk1 : ∀ r, r < tcR R 2 → (∀ j, j < r → fwR R nt fa a c j = false) → fwR R nt fa a c r = true → K (nI r) V) : ∀ m r, r + m = tcR R 2 → (∀ j, j < r → fwR R nt fa a c j = false) → vwp E d M_X12_because 37 [some (sl 6 0), some (wi (nI q)), some (wi y), some (wi z), some (wi (nI a)), some (wi (nI c)), some (wi (nI r))] [] V (zi K) := by
  have p20 := hm.p20
  intro m
  induction m with
  | zero =>
    intro r e hj
    exact w_X12_because_37 (by omega) ⟨fun w => absurd w (nI_pos (by omega)), fun _ => c_rulesOf hm.q5 n14 ⟨fun _ => hk0 (fun j hj' => hj j (by omega)), fun w => absurd (nI_le (by omega) (by omega)) w⟩⟩
  | succ m ih =>
    intro r e hj
    have hr : r < tcR R 2 := by omega
    refine w_X12_because_37 (by omega) ⟨fun w => absurd w (nI_pos (by omega)), fun _ => c_rulesOf hm.q5 n14 ⟨fun w => absurd w (nI_ge hr (by omega)), fun _ => ?_⟩⟩
    rw [i20k, i20k, nI_clamp (show 20000 * r + a < 2 ^ 31 by omega), nI_clamp (show 20000 * r + c < 2 ^ 31 by omega), (hm.2 a ha).1 r hr, (hm.2 c hc).1 r hr]
    refine ⟨vp_in_nI (by omega) (by decide), vp_in_nI (by omega) (by decide), fun w => ?_, fun w => hk1 r hr hj (decide_eq_true w)⟩
    rw [nI_1]
    refine ih (r + 1) (by omega) (fun j hj' => ?_)
    by_cases c : j = r
    · rw [c]; exact decide_eq_false (fun y => y w)
    · exact hj j (by omega)
end
section
variable {E : EE} {d x B B' : Nat}
theorem o_whyNot (h0 : 190 < d) (hB : B ≤ B') : VO_whyNot E d (JA x B) (JA x B') := fun V a0 a1 a2 a3 hJ => liftJ hJ (fun hW hS => by
  rcases hS.inQ a0 with ⟨hP, hM⟩ | ⟨q, t, n, R, nt, fa, h, px, cs, hq, rfl, hI⟩
  · exact nul_whyNot (J := fun V2 => WF V2 → JS B' V2) (by omega) hW hP hM (fun _ => hS.mono hB)
  · have p20 := hI.p20
    have v12 := hI.v12
    refine w_X11_whyNot_0 (by omega) (c_scoredQ (by omega) hW hq hS hI (fun V1 hS1 hI1 s1 => ⟨fun z => absurd hI1.2.1.1.1 z, fun _ => ⟨hI1.2.1.1.2, c_lvlC (fun hn => ⟨fun z => absurd rfl z, fun _ => ?_⟩) (fun l hl el => ⟨fun _ => ?_, fun z => absurd z (by decide)⟩)⟩⟩))
    · exact w_X12_whyNot_0 (by omega) (c_isVarM (by omega) hI1.1 hI1.mi hq (fun _ => ⟨fun _ => ⟨rfl, fun _ => hS1.mono hB⟩, fun z => absurd rfl z⟩) (fun u hu e => ⟨fun z => absurd z (by decide), fun _ => c_lvlM (fun _ => ⟨fun z => absurd rfl z, fun _ => ⟨rfl, fun _ => hS1.mono hB⟩⟩) (fun l hl el => absurd el (hn l hl))⟩))
    · refine c_firstBestWith (by omega) hI1 s1 (fun hn => ⟨fun z => absurd z (by decide), fun _ => ?_⟩) (fun u k hu eu hk ek mn V8 f8 => ?_)
      · refine w_X12_whyNot_0 (by omega) (c_isVarM (by omega) hI1.1 hI1.mi hq (fun _ => ⟨fun _ => ⟨rfl, fun _ => hS1.mono hB⟩, fun z => absurd rfl z⟩) (fun u hu e => ⟨fun z => absurd z (by decide), fun _ => c_lvlM (fun w => absurd el (w l hl)) (fun _ _ _ => ⟨fun _ => know_end (by omega) hq hS1 hI1 Fc.refl (fun V2 f2 w mi2 hI2 hS2 => ?_), fun w => absurd w (by decide)⟩)⟩))
        rw [e]
        exact c_bestWith (by omega) ⟨mi2, w⟩ hu (fun _ => ⟨fun z => absurd z (by decide), fun _ => ⟨rfl, fun _ => hS2.mono hB⟩⟩) (fun k hk ek _ => absurd ek (hn u hu e k hk))
      · have mi := hI1.mi.fc hI1.1 f8 (fun f j y => by have := y.1; omega)
        have ref : ∀ r : Int64, (wbI R nt fa h px u (nI k) = -1 → r = -9223372036854775808) → (∀ p, wbI R nt fa h px u (nI k) = nI p → p < plR R → r = scQ R nt fa p l) → vMJ E d M_X12_whyNot [sl 6 0, wi (nI q), wi a1, wi a2, wi a3] V8 (fun r' V2 => r = r' ∧ (WF V2 → JS B' V2)) := fun r c1 c2 => by
          refine w_X12_whyNot_0 (by omega) (c_isVarM (by omega) hI1.1 mi hq (fun w => absurd eu (w u hu)) (fun _ _ _ => ⟨fun z => absurd z (by decide), fun _ => c_lvlM (fun w => absurd el (w l hl)) (fun _ _ _ => ⟨fun _ => know_end (by omega) hq hS1 hI1 (f8.mono (fun a f j y => lsS_cs y)) (fun V2 f2 w mi2 hI2 hS2 => ?_), fun w => absurd w (by decide)⟩)⟩))
          rw [eu, el]
          refine c_bestWith (by omega) ⟨mi2, w⟩ hu (fun w => absurd ek (w k hk)) (fun k' hk' ek' mn' => ?_)
          have : k' = k := by
            rcases Nat.lt_trichotomy k' k with z | z | z
            · exact absurd ek' (mn k' z)
            · exact z
            · exact absurd ek (mn' k z)
          rw [this]
          refine wb_neg (R := R) (nt := nt) (fa := fa) (h := h) (x := px) (u := u) (w := nI k) (fun e => ?_) (fun p hp hlt e => ?_)
          · rw [e]; exact ⟨fun z => absurd z (by decide), fun _ => ⟨c1 e, fun _ => hS2.mono hB⟩⟩
          · rw [e, i20k, nI_clamp (show 20000 * l + p < 2 ^ 31 by omega), (w p hlt).2.2 l hl]
            exact ⟨fun _ => ⟨vp_in_nI (by omega) (by decide), c2 p e hlt, fun _ => hS2.mono hB⟩, fun z => absurd (nI_le (a := 0) (Nat.zero_le _) (by omega)) z⟩
        refine wb_neg (R := R) (nt := nt) (fa := fa) (h := h) (x := px) (u := u) (w := nI k) (fun e => ?_) (fun p hp hlt e => ?_)
        · rw [e]
          exact ⟨fun z => absurd z (by decide), fun _ => ref _ (fun _ => rfl) (fun p e' hlt => by rw [e] at e'; exact absurd (by rw [← e']; decide) (nI_pos (n := p) (by omega)))⟩
        · rw [e]
          refine ⟨fun _ => ?_, fun z => absurd (nI_le (a := 0) (Nat.zero_le _) (by omega)) z⟩
          rw [el]
          refine c_scoreOf (by rw [f8.l]; exact hI1.2.1.1) (s1.1.fc f8 (fun i => ⟨fun y => by have := y.2; omega, fun y => by have := y.2; omega⟩)) hlt hl ?_
          rw [← el]
          exact ref _ (fun e' => by rw [e] at e'; exact absurd (by rw [e']; decide) (nI_pos (n := p) (by omega))) (fun p' e' hlt' => by
            rw [e] at e'
            rw [(nI_eq (by omega) (by omega)).mp e']))
theorem o_because (h0 : 190 < d) (hB : B ≤ B') : VO_because E d (JA x B) (JA x B') := fun V a0 a1 a2 hJ => liftI hJ (fun hW hS => by
  rcases hS.inQ a0 with ⟨hP, hM⟩ | ⟨q, t, n, R, nt, fa, h, px, cs, hq, rfl, hI⟩
  · exact nul_because (J := fun V2 => WF V2 → JS B' V2) (by omega) hW hP hM (fun _ => hS.mono hB)
  · have p20 := hI.p20
    have v12 := hI.v12
    have r24 : tcR R 2 ≤ 24 := hI.1.2.2.2.1.1 2 (by decide)
    refine w_X11_because_0 (by omega) (c_scoredW (by omega) hW hq hS hI (fun V1 hW1 hS1 hI1 s1 => ⟨fun _ => ⟨hI1.2.1.1.2, c_firstBestWith (by omega) hI1 s1 (fun hn => ⟨fun _ => ?_, fun z => absurd (by decide) z⟩) (fun u k hu eu hk ek mn V4 f4 => ?_)⟩, fun z => absurd hI1.2.1.1.1 z⟩))
    · refine w_X12_because_0 (by omega) (c_isVarM (by omega) hI1.1 hI1.mi hq (fun _ => ⟨fun z => absurd rfl z, fun _ => ⟨rfl, fun _ => hS1.mono hB⟩⟩) (fun u hu e => ⟨fun _ => know_end (by omega) hq hS1 hI1 Fc.refl (fun V2 f2 w mi2 hI2 hS2 => ?_), fun z => absurd z (by decide)⟩))
      rw [e]
      exact c_bestWith (by omega) ⟨mi2, w⟩ hu (fun _ => c_fb (by omega) ⟨mi2, w⟩ (w_X12_because_37 (by omega) ⟨fun _ => ⟨rfl, fun _ => hS2.mono hB⟩, fun z => absurd (by decide) z⟩)) (fun k hk ek _ => absurd ek (hn u hu e k hk))
    · have ref : ∀ (r : Int32) (V8 : VH), Fc V1 V8 (csS q) → (wbI R nt fa h px u (nI k) = -1 → r = -1) → (∀ p, p ∈ gdR R nt fa h px → p < plR R → wbI R nt fa h px u (nI k) = nI p → (r = -1 ∧ ∀ j, j < tcR R 2 → fwR R nt fa p (bst (scQ R nt fa) (gdR R nt fa h px)) j = false) ∨ ∃ i, r = nI i ∧ i < tcR R 2 ∧ (∀ j, j < i → fwR R nt fa p (bst (scQ R nt fa) (gdR R nt fa h px)) j = false) ∧ fwR R nt fa p (bst (scQ R nt fa) (gdR R nt fa h px)) i = true) → vMI E d M_X12_because [sl 6 0, wi (nI q), wi a1, wi a2] V8 (fun r' V2 => r = r' ∧ (WF V2 → JS B' V2)) := fun r V8 f8 c1 c2 => by
        have mi := hI1.mi.fc hI1.1 f8 (fun f j y => absurd y (csS_6 hI1 f j))
        refine w_X12_because_0 (by omega) (c_isVarM (by omega) hI1.1 mi hq (fun w => absurd eu (w u hu)) (fun _ _ _ => ⟨fun _ => know_end (by omega) hq hS1 hI1 f8 (fun V2 f2 w mi2 hI2 hS2 => ?_), fun z => absurd z (by decide)⟩))
        rw [eu]
        refine c_bestWith (by omega) ⟨mi2, w⟩ hu (fun w => absurd ek (w k hk)) (fun k' hk' ek' mn' => c_fb (by omega) ⟨mi2, w⟩ ?_)
        have : k' = k := by
          rcases Nat.lt_trichotomy k' k with z | z | z
          · exact absurd ek' (mn k' z)
          · exact z
          · exact absurd ek (mn' k z)
        rw [this]
        refine wb_neg (R := R) (nt := nt) (fa := fa) (h := h) (x := px) (u := u) (w := nI k) (fun e => ?_) (fun p hp hlt e => ?_)
        · rw [e]; exact w_X12_because_37 (by omega) ⟨fun _ => ⟨c1 e, fun _ => hS2.mono hB⟩, fun z => absurd (by decide) z⟩
        · rw [e]
          have g0 : gdR R nt fa h px ≠ [] := fun z => by rw [z] at hp; exact absurd hp List.not_mem_nil
          have hb : bst (scQ R nt fa) (gdR R nt fa h px) < plR R := gd_lt (bst_mem g0)
          have ef : fbI R nt fa h px = nI (bst (scQ R nt fa) (gdR R nt fa h px)) := by unfold fbI; rw [if_neg g0]
          rw [ef]
          have n14 : vI V2 6 14 (4 * q + 2) = nI (tcR R 2) := (hI2.2.2.1.2.2.1.1 2 (by decide)).1
          refine because_go (by omega) ⟨mi2, w⟩ hlt hb r24 n14 (fun z => ⟨?_, fun _ => hS2.mono hB⟩) (fun i hi hj ht => ⟨?_, fun _ => hS2.mono hB⟩) (tcR R 2) 0 (Nat.zero_add _) (fun j hj => absurd hj (Nat.not_lt_zero j))
          · rcases c2 p hp hlt e with y | ⟨i, _, hi, _, ht⟩
            · exact y.1
            · rw [z i hi] at ht; exact Bool.noConfusion ht
          · rcases c2 p hp hlt e with y | ⟨i', e', hi', hj', ht'⟩
            · rw [y.2 i hi] at ht; exact Bool.noConfusion ht
            · rw [e']
              rcases Nat.lt_trichotomy i i' with z | z | z
              · rw [hj' i z] at ht; exact Bool.noConfusion ht
              · rw [z]
              · rw [hj i' z] at ht'; exact Bool.noConfusion ht'
      refine wb_neg (R := R) (nt := nt) (fa := fa) (h := h) (x := px) (u := u) (w := nI k) (fun e => ?_) (fun p hp hlt e => ?_)
      · rw [e]
        exact ⟨fun _ => ref _ V4 (f4.mono (fun a f j y => lsS_cs y)) (fun _ => rfl) (fun p _ hlt e' => by rw [e] at e'; exact absurd (by rw [← e']; decide) (nI_pos (n := p) (by omega))), fun z => absurd (by decide) z⟩
      · rw [e]
        have g0 : gdR R nt fa h px ≠ [] := fun z => by rw [z] at hp; exact absurd hp List.not_mem_nil
        have hb : bst (scQ R nt fa) (gdR R nt fa h px) < plR R := gd_lt (bst_mem g0)
        have f4c : Fc V1 V4 (csS q) := f4.mono (fun a f j y => lsS_cs y)
        have hI4 : PbI V4 q t n R nt fa h px cs := hI1.csq f4c
        have s4 : Scd V4 q R nt fa := s1.fc f4c
        refine ⟨fun z => absurd z (nI_pos (by omega)), fun _ => c_gatherFor (b := 1) (by omega) hI4 s4 (fun V8 f8 l8 => ?_)⟩
        obtain ⟨L, eL⟩ := bsts_0 (sc := scQ R nt fa) g0
        have eL' : gL 1 R nt fa h px = bst (scQ R nt fa) (gdR R nt fa h px) :: L := eL
        have l0 : 0 < (gL 1 R nt fa h px).length := by rw [eL']; simp
        have gl := gL_le (b := 1) (R := R) (nt := nt) (fa := fa) (h := h) (x := px)
        obtain ⟨a1', a2'⟩ := ls_at (i := 0) s4 f8 l8 gl l0
        have a3' : vI V8 (q + 1) 20 (Int32.toNatClampNeg 0) = nI (bst (scQ R nt fa) (gdR R nt fa h px)) := by
          have : (gL 1 R nt fa h px).getD 0 0 = bst (scQ R nt fa) (gdR R nt fa h px) := by rw [eL']; rfl
          rw [← this]; exact a2'
        rw [a3']
        refine ⟨fun _ => ⟨a1', ?_⟩, fun z => absurd ((nI_eq (b := 0) (by omega) (by decide)).mp z) (by omega)⟩
        have f18 : Fc V1 V8 (csS q) := f4c.trans (f8.mono (fun a f j y => lsS_cs y))
        have ne : ∀ {p'}, p' < plR R → wbI R nt fa h px u (nI k) = nI p' → p' = p := fun hp' e' => by rw [e] at e'; exact ((nI_eq (by omega) (by omega)).mp e').symm
        have nn : wbI R nt fa h px u (nI k) = -1 → False := fun e' => by rw [e] at e'; exact absurd (by rw [e']; decide) (nI_pos (n := p) (by omega))
        exact c_firstWorse (by omega) hW1 hI1 f18 (by omega) (by omega) (fun z V9 f9 => ref _ V9 f9 (fun e' => (nn e').elim) (fun p' _ hp' e' => Or.inl ⟨rfl, by rw [ne hp' e']; exact z⟩)) (fun r hr hj ht V9 f9 => ref _ V9 f9 (fun e' => (nn e').elim) (fun p' _ hp' e' => Or.inr ⟨r, rfl, hr, by rw [ne hp' e']; exact ⟨hj, ht⟩⟩)))
end
