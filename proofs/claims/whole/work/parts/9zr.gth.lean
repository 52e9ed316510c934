/-! good plans and the best of them, in both -/
abbrev scQ (R : List SR) (nt fa : Nat → Int32) : Nat → Nat → Int64 := scP (szR R) (tcR R 1) (vlR R) (DR R nt) (DRa R nt) (lvn R) (aln R) (wtR R) (tcR R 2) (tcR R 3) fa
abbrev stQ (R : List SR) (nt fa : Nat → Int32) : Nat → Int32 := stP (szR R) (tcR R 1) (vlR R) (DR R nt) (tcR R 2) fa
abbrev goR (R : List SR) (nt fa : Nat → Int32) (h : Nat) (x : Int32) : Nat → Bool := goo (szR R) (tcR R 1) (tst x) h (scQ R nt fa)
abbrev gdR (R : List SR) (nt fa : Nat → Int32) (h : Nat) (x : Int32) : List Nat := gds (szR R) (tcR R 1) (tst x) h (scQ R nt fa)
def gPB (b : Int32) (R : List SR) (nt fa : Nat → Int32) (h : Nat) (x : Int32) (p : Nat) : Bool := if b = 0 then goR R nt fa h x p else !btr (scQ R nt fa) (bst (scQ R nt fa) (gdR R nt fa h x)) p && goR R nt fa h x p
def gL (b : Int32) (R : List SR) (nt fa : Nat → Int32) (h : Nat) (x : Int32) : List Nat := if b = 0 then gdR R nt fa h x else bsts (scQ R nt fa) (gdR R nt fa h x)
def fbI (R : List SR) (nt fa : Nat → Int32) (h : Nat) (x : Int32) : Int32 := if gdR R nt fa h x = [] then -1 else nI (bst (scQ R nt fa) (gdR R nt fa h x))
/-- the reference knows problem q -/
def KnM (V : VH) (q : Nat) (t : Nat → Int32) (n : Nat) (R : List SR) (nt fa : Nat → Int32) (h : Nat) (x : Int32) (cs : Nat → Int32) : Prop := MiQ V q t n R fa h x cs ∧ WqR V R nt fa
section
variable {E : EE} {d : Nat} {V V' : VH} {q B : Nat} {t : Nat → Int32} {n : Nat} {R : List SR} {nt fa : Nat → Int32} {h h' : Nat} {x b : Int32} {cs : Nat → Int32}
theorem gL_flt : gL b R nt fa h x = (List.range (plR R)).filter (gPB b R nt fa h x) := by
  unfold gL
  by_cases c : b = 0
  · rw [if_pos c]
    have : gPB b R nt fa h x = goR R nt fa h x := funext fun p => by unfold gPB; rw [if_pos c]
    rw [this]; rfl
  · rw [if_neg c]
    have : gPB b R nt fa h x = fun p => !btr (scQ R nt fa) (bst (scQ R nt fa) (gdR R nt fa h x)) p && goR R nt fa h x p := funext fun p => by unfold gPB; rw [if_neg c]
    rw [this]
    unfold bsts
    generalize bst (scQ R nt fa) (gdR R nt fa h x) = c
    show List.filter _ (List.filter (goR R nt fa h x) (List.range (plR R))) = _
    rw [List.filter_filter]
theorem gL_len : (gL b R nt fa h x).length = cnL (gPB b R nt fa h x) (plR R) := by rw [gL_flt]; rfl
theorem gL_lt {p : Nat} (hp : p ∈ gL b R nt fa h x) : p < plR R := by
  rw [gL_flt] at hp
  exact List.mem_range.mp (List.mem_filter.mp hp).1
theorem gd_lt {p : Nat} (hp : p ∈ gdR R nt fa h x) : p < plR R := List.mem_range.mp (List.mem_filter.mp hp).1
theorem getD_mem {L : List Nat} {i : Nat} (h : i < L.length) : L.getD i 0 ∈ L := by
  rw [List.getD_eq_getElem?_getD, List.getElem?_eq_getElem h]
  exact List.getElem_mem h
theorem KnM.tq (hk : KnM V q t n R nt fa h x cs) : Tq V (plR R) (scQ R nt fa) := ⟨hk.1.1.2.2.2.2.1.2.2.2.2.1, fun p hp l hl => (hk.2 p hp).2.2 l hl⟩
theorem KnM.sq (hk : KnM V q t n R nt fa h x cs) : Sq V q (tcR R 1) (szR R) (vlR R) := hk.1.1.2.2.2.2.1
theorem KnM.hq (hk : KnM V q t n R nt fa h x cs) : Hq V q (tcR R 1) (szR R) h := hk.1.1.2.2.2.2.2.2.2.2.1
theorem KnM.pq (hk : KnM V q t n R nt fa h x cs) : Pq V q (tcR R 1) (tst x) := hk.1.1.2.2.2.2.2.2.2.2.2.1
theorem KnM.p20 (hk : KnM V q t n R nt fa h x cs) : plR R ≤ 20000 := hk.sq.2.2.2.2.1
theorem KnM.pl (hk : KnM V q t n R nt fa h x cs) : vI V 6 22 q = nI (plR R) := hk.sq.2.2.2.1
theorem KnM.q5 (hk : KnM V q t n R nt fa h x cs) : q < 5 := hk.sq.1
/-- the class gathers -/
theorem gth_gd (E : EE) (hI : PbI V q t n R nt fa h x cs) {y : Int32} : gth (agr (szR R) (tcR R 1) (tst y) h) (fea (stQ R nt fa) (vI V (q + 1) 9 0)) (plR R) = gdR R nt fa h y := by
  rw [gth_filter]
  show _ = List.filter (goR R nt fa h y) (List.range (plR R))
  congr 1
  funext p
  unfold fea
  show _ = (agr (szR R) (tcR R 1) (tst y) h p && decide (scQ R nt fa p 0 = 0))
  congr 1
  exact decide_eq_decide.mpr (fea_sc E hI.1 hI.bd.2 hI.2.1.2.2.2.2.1.1 p)
theorem c_gatherQ {y : Int32} {K : Int32 → VH → Prop} (h0 : 1 < d) (hI : PbI V q t n R nt fa h x cs) (s : Scd V q R nt fa) (hk : ∀ V', Fc V V' (lsS (q + 1)) → Ls V' (q + 1) (gdR R nt fa h y) → K (nI (gdR R nt fa h y).length) V') : vMI E d M_X9_gather [sl (q + 1) 19, sl (q + 1) 0, wi y] V K := by
  refine c_gather h0 hI.sp s.1 hI.hnd.1 hI.hnd.2 (fun V' f l => ?_)
  have := gth_gd E hI (y := y)
  unfold plR at this
  rw [this] at l ⊢
  exact hk V' f l
theorem c_keepQ {y : Int32} {K : Int32 → VH → Prop} (h0 : 1 < d) (hI : PbI V q t n R nt fa h x cs) (s : Scd V q R nt fa) (k : Fc V V' (lsS (q + 1))) (l : Ls V' (q + 1) (gdR R nt fa h y)) (hk : ∀ V2, Fc V V2 (lsS (q + 1)) → Ls V2 (q + 1) (bsts (scQ R nt fa) (gdR R nt fa h y)) → K (nI (bsts (scQ R nt fa) (gdR R nt fa h y)).length) V2) : vMI E d M_X9_keepBest [sl (q + 1) 19] V' K := by
  refine c_keepBest h0 (by rw [k.l]; exact hI.2.1.1) (s.1.fc k (fun i => ⟨fun y => by have := y.2; omega, fun y => by have := y.2; omega⟩)) l (fun p hp => gd_lt hp) (Nat.le_trans (List.length_filter_le _ _) (by rw [List.length_range]; exact Nat.le_refl _)) (fun z => ?_) (fun z V2 f2 l2 => hk V2 (k.trans f2) l2)
  have a := hk V' k
  rw [z] at a l
  exact a l
theorem c_gatherFor {K : Int32 → VH → Prop} (h0 : 2 < d) (hI : PbI V q t n R nt fa h x cs) (s : Scd V q R nt fa) (hk : ∀ V', Fc V V' (lsS (q + 1)) → Ls V' (q + 1) (gL b R nt fa h x) → K (nI (gL b R nt fa h x).length) V') : vMI E d M_X9_gatherFor [sl (q + 1) 19, sl (q + 1) 0, wi b] V K := by
  refine w_X9_gatherFor_0 hI.2.1.1 (by omega) ?_
  rw [hI.2.1.2.2.2.2.2.2.2.2.2.1]
  refine c_gatherQ (by omega) hI s (fun V1 k l => ⟨fun z => ?_, fun z => c_keepQ (by omega) hI s k l (fun V2 k2 l2 => ?_)⟩)
  · have e : gL b R nt fa h x = gdR R nt fa h x := by unfold gL; rw [if_pos z]
    rw [e] at hk
    rw [l.1]; exact hk V1 k l
  · have e : gL b R nt fa h x = bsts (scQ R nt fa) (gdR R nt fa h x) := by unfold gL; rw [if_neg z]
    rw [e] at hk
    exact hk V2 k2 l2
theorem c_fb {k : Int32} {K : Int32 → VH → Prop} (h0 : 2 < d) (hm : KnM V q t n R nt fa h x cs) (hk : K (fbI R nt fa h x) V) : vMI E d M_X12_firstBest [sl 6 0, wi (nI q), wi (-1), wi k] V K := c_firstBest h0 hm.sq hm.hq hm.pq hm.tq (fun z => by unfold fbI at hk; rw [if_pos z] at hk; exact hk) (fun z => by unfold fbI at hk; rw [if_neg z] at hk; exact hk)
theorem fb_neg {P : Prop} (h20 : plR R ≤ 20000) (h1 : gdR R nt fa h x = [] → fbI R nt fa h x = -1 → P) (h2 : gdR R nt fa h x ≠ [] → fbI R nt fa h x = nI (bst (scQ R nt fa) (gdR R nt fa h x)) → bst (scQ R nt fa) (gdR R nt fa h x) < plR R → P) : P := by
  by_cases c : gdR R nt fa h x = []
  · exact h1 c (by unfold fbI; rw [if_pos c])
  · exact h2 c (by unfold fbI; rw [if_neg c]) (gd_lt (bst_mem c))
theorem c_isBestM {p : Nat} {K : Int32 → VH → Prop} (h0 : 2 < d) (hm : KnM V q t n R nt fa h x cs) (hp : p < plR R) (hb : b ≠ 0) (hk : K (bI (gPB b R nt fa h x p)) V) : vMI E d M_X12_isBest [sl 6 0, wi (nI q), wi (nI p), wi (fbI R nt fa h x)] V K := by
  have p20 := hm.p20
  unfold gPB at hk
  rw [if_neg hb] at hk
  refine fb_neg (R := R) (nt := nt) (fa := fa) (h := h) (x := x) p20 (fun c e => ?_) (fun c e hlt => ?_)
  · have g0 : goR R nt fa h x p = false := by
      have := List.filter_eq_nil_iff.mp c p (List.mem_range.mpr hp)
      exact Bool.eq_false_iff.mpr this
    rw [g0, Bool.and_false] at hk
    rw [e]
    exact w_X12_isBest_0 (by omega) ⟨fun _ => hk, fun z => absurd (by decide) z⟩
  · rw [e]
    refine w_X12_isBest_0 (by omega) ⟨fun z => absurd z (nI_pos (by omega)), fun _ => c_isGood (by omega) hm.sq hm.hq hm.pq hm.tq hp ⟨fun z => ?_, fun z => c_isBetterM hm.tq hlt hp ⟨fun y => ?_, fun y => ?_⟩⟩⟩
    · rw [bI_0] at z
      rw [show goR R nt fa h x p = false from z, Bool.and_false] at hk
      exact hk
    · have y' : btr (scQ R nt fa) (bst (scQ R nt fa) (gdR R nt fa h x)) p = true := by
        cases u : btr (scQ R nt fa) (bst (scQ R nt fa) (gdR R nt fa h x)) p
        · rw [u] at y; exact absurd rfl y
        · rfl
      rw [y'] at hk
      exact hk
    · rw [bI_0] at y
      have z' : goR R nt fa h x p = true := by
        cases u : goR R nt fa h x p
        · exact absurd (by rw [show goo (szR R) (tcR R 1) (tst x) h (scQ R nt fa) p = false from u]; rfl) z
        · rfl
      rw [y, z'] at hk
      exact hk
theorem bI_1 {b : Bool} : ¬ bI b = 0 ↔ b = true := by cases b <;> decide
theorem gPB_0 (p : Nat) : gPB 0 R nt fa h x p = goR R nt fa h x p := by unfold gPB; rw [if_pos rfl]
theorem bests_go {K : Int32 → VH → Prop} (h0 : 3 < d) (hm : KnM V q t n R nt fa h x cs) (hk : K (nI (gL 1 R nt fa h x).length) V) : ∀ m p, p + m = plR R → vwp E d M_X12_bests 28 [some (sl 6 0), some (wi (nI q)), some (wi (fbI R nt fa h x)), some (wi (nI (cnL (gPB 1 R nt fa h x) p))), some (wi (nI p))] [] V (zi K) := by
  have p20 := hm.p20
  have q5 := hm.q5
  have pl := hm.pl
  intro m
  induction m with
  | zero =>
    intro p e
    have : p = plR R := by omega
    subst this
    refine w_X12_bests_28 (by omega) ?_
    rw [nI_clamp (show q < 2 ^ 31 by omega), pl]
    refine ⟨vp_in_nI q5 (by decide), fun _ => ?_, fun z => absurd (nI_le (Nat.le_refl _) (by omega)) z⟩
    rw [gL_len] at hk; exact hk
  | succ m ih =>
    intro p e
    refine w_X12_bests_28 (by omega) ?_
    rw [nI_clamp (show q < 2 ^ 31 by omega), pl]
    have hp : p < plR R := by omega
    refine ⟨vp_in_nI q5 (by decide), fun z => absurd z (nI_ge hp (by omega)), fun _ => c_isBestM (b := 1) (by omega) hm hp (by decide) ⟨fun z => w_X12_bests_56 ?_, fun z => w_X12_bests_56 ?_⟩⟩
    · rw [bI_0] at z
      have i := ih (p + 1) (by omega)
      rw [cnL_s, z, if_neg (by decide), Nat.add_zero] at i
      rw [Int32.add_zero, nI_1]; exact i
    · rw [bI_1] at z
      have i := ih (p + 1) (by omega)
      rw [cnL_s, z, if_pos rfl] at i
      rw [nI_1, nI_1]; exact i
theorem feas_go {K : Int32 → VH → Prop} (h0 : 3 < d) (hm : KnM V q t n R nt fa h x cs) (hk : K (nI (gL 0 R nt fa h x).length) V) : ∀ m p, p + m = plR R → vwp E d M_X12_feasibles 19 [some (sl 6 0), some (wi (nI q)), some (wi (nI (cnL (gPB 0 R nt fa h x) p))), some (wi (nI p))] [] V (zi K) := by
  have p20 := hm.p20
  have q5 := hm.q5
  have pl := hm.pl
  intro m
  induction m with
  | zero =>
    intro p e
    have : p = plR R := by omega
    subst this
    refine w_X12_feasibles_19 (by omega) ?_
    rw [nI_clamp (show q < 2 ^ 31 by omega), pl]
    refine ⟨vp_in_nI q5 (by decide), fun _ => ?_, fun z => absurd (nI_le (Nat.le_refl _) (by omega)) z⟩
    rw [gL_len] at hk; exact hk
  | succ m ih =>
    intro p e
    refine w_X12_feasibles_19 (by omega) ?_
    rw [nI_clamp (show q < 2 ^ 31 by omega), pl]
    have hp : p < plR R := by omega
    refine ⟨vp_in_nI q5 (by decide), fun z => absurd z (nI_ge hp (by omega)), fun _ => c_isGood (by omega) hm.sq hm.hq hm.pq hm.tq hp ⟨fun z => w_X12_feasibles_44 ?_, fun z => w_X12_feasibles_44 ?_⟩⟩
    · rw [bI_0] at z
      have i := ih (p + 1) (by omega)
      rw [cnL_s, gPB_0, show goR R nt fa h x p = false from z, if_neg (by decide), Nat.add_zero] at i
      rw [Int32.add_zero, nI_1]; exact i
    · rw [bI_1] at z
      have i := ih (p + 1) (by omega)
      rw [cnL_s, gPB_0, show goR R nt fa h x p = true from z, if_pos rfl] at i
      rw [nI_1, nI_1]; exact i
theorem nI_dec {a : Nat} (h : 1 ≤ a) : nI a + (-1) = nI (a - 1) := by
  rw [← nI_sub h, Int32.sub_eq_add_neg]
  rfl
/-- where the reference writes the plan at hand -/
def hnS (q a f i : Nat) : Prop := a = 6 ∧ f = 19 ∧ 12 * q ≤ i ∧ i < 12 * q + 12
theorem planAt_go {i : Nat} {i2 : Int32} {K : Int32 → VH → Prop} (h0 : 3 < d) (hm : KnM V q t n R nt fa h x cs) (v12 : tcR R 1 ≤ 12) (hi : i < 2 ^ 31) (hk1 : (gL b R nt fa h x).length ≤ i → K 0 V) (hk2 : i < (gL b R nt fa h x).length → ∀ V', Fc V V' (hnS q) → Hq V' q (tcR R 1) (szR R) ((gL b R nt fa h x).getD i 0) → K 1 V') : ∀ m p, p + m = plR R → cnL (gPB b R nt fa h x) p ≤ i → vwp E d M_X12_planAt 42 [some (sl 6 0), some (wi (nI q)), some (wi i2), some (wi b), some (wi (if b = 0 then -1 else fbI R nt fa h x)), some (wi (nI (i - cnL (gPB b R nt fa h x) p))), some (wi (nI p))] [] V (zi K) := by
  have p20 := hm.p20
  have q5 := hm.q5
  have pl := hm.pl
  intro m
  induction m with
  | zero =>
    intro p e hc
    have : p = plR R := by omega
    subst this
    refine w_X12_planAt_42 (by omega) ?_
    rw [nI_clamp (show q < 2 ^ 31 by omega), pl]
    refine ⟨vp_in_nI q5 (by decide), fun _ => ?_, fun z => absurd (nI_le (Nat.le_refl _) (by omega)) z⟩
    rw [gL_len] at hk1; exact hk1 hc
  | succ m ih =>
    intro p e hc
    have hp : p < plR R := by omega
    have no : gPB b R nt fa h x p = false → vwp E d M_X12_planAt 99 [some (sl 6 0), some (wi (nI q)), some (wi i2), some (wi b), some (wi (if b = 0 then -1 else fbI R nt fa h x)), some (wi (nI (i - cnL (gPB b R nt fa h x) p))), some (wi (nI p))] [] V (zi K) := fun z => by
      refine w_X12_planAt_99 ?_
      have s : cnL (gPB b R nt fa h x) (p + 1) = cnL (gPB b R nt fa h x) p := by rw [cnL_s, z, if_neg (by decide)]; rfl
      have j := ih (p + 1) (by omega) (by omega)
      rw [s] at j
      rw [nI_1]; exact j
    have yes : gPB b R nt fa h x p = true → vwp E d M_X12_planAt 82 [some (sl 6 0), some (wi (nI q)), some (wi i2), some (wi b), some (wi (if b = 0 then -1 else fbI R nt fa h x)), some (wi (nI (i - cnL (gPB b R nt fa h x) p))), some (wi (nI p))] [] V (zi K) := fun z => by
      have s : cnL (gPB b R nt fa h x) (p + 1) = cnL (gPB b R nt fa h x) p + 1 := by rw [cnL_s, z, if_pos rfl]
      refine w_X12_planAt_82 (by omega) ⟨fun y => w_X12_planAt_99 ?_, fun y => c_putAtHand (by omega) hm.sq hp (fun V' f hh => ?_)⟩
      · have ne : i - cnL (gPB b R nt fa h x) p ≠ 0 := fun w => y (by rw [w]; rfl)
        have j := ih (p + 1) (by omega) (by omega)
        rw [show i - cnL (gPB b R nt fa h x) (p + 1) = i - cnL (gPB b R nt fa h x) p - 1 by omega] at j
        rw [nI_dec (by omega), nI_1]; exact j
      · have e0 : i - cnL (gPB b R nt fa h x) p = 0 := (nI_eq (b := 0) (by omega) (by decide)).mp y
        have ei : i = cnL (gPB b R nt fa h x) p := by omega
        have mo := cnL_mono (gPB b R nt fa h x) (show p + 1 ≤ plR R by omega)
        refine hk2 (by rw [gL_len]; omega) V' (f.mono (fun a f j y => ⟨y.1, y.2.1, y.2.2.1, by have := y.2.2.2; omega⟩)) ?_
        rw [gL_flt, ei, flt_at z _ hp]
        exact hh
    refine w_X12_planAt_42 (by omega) ?_
    rw [nI_clamp (show q < 2 ^ 31 by omega), pl]
    refine ⟨vp_in_nI q5 (by decide), fun z => absurd z (nI_ge hp (by omega)), fun _ => ⟨fun zb => c_isGood (by omega) hm.sq hm.hq hm.pq hm.tq hp ⟨fun z => no ?_, fun z => yes ?_⟩, fun zb => ?_⟩⟩
    · rw [bI_0] at z; subst zb; rw [gPB_0]; exact z
    · rw [bI_1] at z; subst zb; rw [gPB_0]; exact z
    · rw [if_neg zb] at no yes ⊢
      exact c_isBestM (by omega) hm hp zb ⟨fun z => no (bI_0.mp z), fun z => yes (bI_1.mp z)⟩
theorem c_planAt {i : Nat} {K : Int32 → VH → Prop} {S : Nat → Nat → Nat → Prop} (h0 : 180 < d) (hi : i < 2 ^ 31) (hq : q < 4) (hI : PbI V q t n R nt fa h x cs) (k : Fc V V' S) (c : ∀ f j, ¬ S 6 f j) (hk1 : (gL b R nt fa h x).length ≤ i → ∀ V2, Fc V' V2 waS → KnM V2 q t n R nt fa h x cs → vI V2 6 0 62 = nI q → vI V2 6 0 63 = vI V 6 33 q → K 0 V2) (hk2 : i < (gL b R nt fa h x).length → ∀ V2 V3, Fc V' V2 waS → WqR V2 R nt fa → vI V2 6 0 62 = nI q → vI V2 6 0 63 = vI V 6 33 q → Fc V2 V3 (hnS q) → Hq V3 q (tcR R 1) (szR R) ((gL b R nt fa h x).getD i 0) → K 1 V3) : vMI E d M_X12_planAt [sl 6 0, wi (nI q), wi (nI i), wi b] V' K := by
  have mi := hI.mi.fc hI.1 k (fun f j y => absurd y (c f j))
  have v12 := hI.v12
  refine w_X12_planAt_0 (by omega) (c_isProblem_y mi hq ⟨fun z => absurd z (by decide), fun _ => ⟨fun _ => know_go (by omega) hI k c (fun V2 f2 w mi2 e1 e2 => ?_), fun z => absurd (nI_le (show 0 ≤ i by omega) hi) z⟩⟩)
  have kn : KnM V2 q t n R nt fa h x cs := ⟨mi2, w⟩
  have go := planAt_go (b := b) (i := i) (i2 := nI i) (K := K) (E := E) (d := d) (by omega) kn v12 hi (fun z => hk1 z V2 f2 kn e1 e2) (fun z V3 f3 hh => hk2 z V2 V3 f2 w e1 e2 f3 hh) (plR R) 0 (by omega) (by have := cnL_le (gPB b R nt fa h x) 0; omega)
  have c0 : cnL (gPB b R nt fa h x) 0 = 0 := Nat.le_zero.mp (cnL_le _ 0)
  rw [c0, Nat.sub_zero] at go
  refine ⟨fun z => w_X12_planAt_34 ?_, fun z => c_fb (by omega) kn (w_X12_planAt_34 ?_)⟩
  · rw [if_pos z] at go; exact go
  · rw [if_neg z] at go; exact go
end
