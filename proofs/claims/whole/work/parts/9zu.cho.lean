/-! choices, mend, hopeless -/
/-- the values of u that plans of L have -/
def orD (R : List SR) (u : Nat) (L : List Nat) : Int32 := L.foldl (fun a p => a ||| (1 : Int32) <<< (nI (Dg (szR R) (tcR R 1) u p) &&& 31)) 0
theorem orD_add (R : List SR) (u : Nat) (L : List Nat) (p : Nat) : orD R u (L ++ [p]) = orD R u L ||| (1 : Int32) <<< (nI (Dg (szR R) (tcR R 1) u p) &&& 31) := by unfold orD; rw [List.foldl_append]; rfl
theorem and1 (y : Int32) : y &&& 1 = if tst y 0 = true then 1 else 0 := by
  refine tst_ext (fun v hv => ?_)
  have e1 : tst 1 v = decide (v = 0) := tst_one (v := 0) (by decide) hv
  rw [tst_and, e1]
  by_cases c : tst y 0 = true
  · rw [if_pos c, e1]
    by_cases z : v = 0
    · subst z; rw [c]; rfl
    · rw [decide_eq_false z, Bool.and_false]
  · rw [if_neg c, tst_z]
    by_cases z : v = 0
    · subst z; rw [Bool.eq_false_iff.mpr c]; rfl
    · rw [decide_eq_false z, Bool.and_false]
theorem bit_is (x : Int32) {v : Nat} (h : v < 32) : (x >>> (nI v &&& 31)) &&& 1 = if tst x v = true then 1 else 0 := by
  by_cases c : tst x v = true
  · rw [if_pos c]
    have z := (tst_1 x h).mpr c
    rw [and1] at z ⊢
    by_cases u : tst (x >>> (nI v &&& 31)) 0 = true
    · rw [if_pos u]
    · rw [if_neg u] at z; exact absurd rfl z
  · rw [if_neg c]
    exact (tst_0 x h).mpr (Bool.eq_false_iff.mpr c)
section
variable {E : EE} {d : Nat} {V V' : VH} {g q B : Nat} {t : Nat → Int32} {n : Nat} {R : List SR} {nt fa : Nat → Int32} {h h' : Nat} {x b : Int32} {cs : Nat → Int32}
theorem orD_big {u : Nat} (hz : ∀ p, Dg (szR R) (tcR R 1) u p < 20) : ∀ (L : List Nat) (i : Nat), 20 ≤ i → i < 32 → tst (orD R u L) i = false := by
  intro L
  have go : ∀ (L : List Nat) (a : Int32) (i : Nat), 20 ≤ i → i < 32 → tst a i = false → tst (L.foldl (fun a p => a ||| (1 : Int32) <<< (nI (Dg (szR R) (tcR R 1) u p) &&& 31)) a) i = false := by
    intro L
    induction L with
    | nil => intro a i _ _ e; exact e
    | cons p L ih =>
      intro a i h1 h2 e
      rw [List.foldl_cons]
      refine ih _ i h1 h2 ?_
      have := hz p
      rw [tst_or, e, tst_one (by omega) h2, decide_eq_false (by omega)]; rfl
  intro i h1 h2
  exact go L 0 i h1 h2 (tst_z i)
theorem c_different {u m : Nat} {L : List Nat} {K : Int32 → VH → Prop} (h0 : 1 < d) (hS : Sp V g (tcR R 1) (szR R) (vlR R)) (hu : u < tcR R 1) (hm : m ≤ vN V g 20) (hm2 : vN V g 20 ≤ 20000) (hL : Ls V g L) (hn : ∀ x ∈ L, x < 20000) (hlen : L.length ≤ m) (hk : K (nI (pop (orD R u L))) V) : vMI E d M_X9_differentValues [sl g 19, sl g 5, wi (nI u)] V K := by
  have hg := hS.1
  have go : ∀ (k j : Nat), j + k = L.length → vwp E d M_X9_differentValues 5 [some (sl g 19), some (sl g 5), some (wi (nI u)), some (wi (orD R u (L.take j))), some (wi (nI j))] [] V (zi K) := by
    intro k
    induction k with
    | zero =>
      intro j ej
      refine w_X9_differentValues_5 hg (by omega) ⟨fun _ => c_bitCount ?_, fun z => absurd (by rw [hL.1]; exact nI_le (by omega) (by omega)) z⟩
      rw [List.take_of_length_le (by omega)]
      exact hk
    | succ k ih =>
      intro j ej
      have hj : j < L.length := by omega
      have pl := hn _ (getD_mem hj)
      refine w_X9_differentValues_5 hg (by omega) ⟨fun z => absurd z (by rw [hL.1]; exact nI_ge (by omega) (by omega)), fun _ => ?_⟩
      rw [nI_clamp (show j < 2 ^ 31 by omega), hL.2 j hj]
      refine ⟨vp_in_nI (by omega) (by omega), c_placeOf hS hu (by omega) ?_⟩
      have i := ih (j + 1) (by omega)
      rw [take1 hj, orD_add] at i
      rw [nI_1]; exact i
  exact w_X9_differentValues_0 hg (go L.length 0 (Nat.zero_add _))
theorem rng_flt_s (P : Nat → Bool) (p : Nat) : (List.range (p + 1)).filter P = if P p = true then (List.range p).filter P ++ [p] else (List.range p).filter P := by
  rw [List.range_succ, List.filter_append]
  by_cases c : P p = true
  · rw [if_pos c, List.filter_cons_of_pos c, List.filter_nil]
  · rw [if_neg c, List.filter_cons_of_neg c, List.filter_nil, List.append_nil]
theorem choices_go {u : Nat} {K : Int32 → VH → Prop} (h0 : 3 < d) (hm : KnM V q t n R nt fa h x cs) (hu : u < tcR R 1) (hz : ∀ p, Dg (szR R) (tcR R 1) u p < 20) (hk : K (nI (pop (orD R u (gL 1 R nt fa h x)))) V) : ∀ m p, p + m = plR R → vwp E d M_X12_choices 30 [some (sl 6 0), some (wi (nI q)), some (wi (nI u)), some (wi (fbI R nt fa h x)), some (wi (orD R u ((List.range p).filter (gPB 1 R nt fa h x)))), some (wi (nI p)), none] [] V (zi K) := by
  have p20 := hm.p20
  have q5 := hm.q5
  have pl := hm.pl
  have cn : ∀ (y : Int32) (k i : Nat), i + k = 20 → K (nI (cnt (tst y) 20)) V → vwp E d M_X12_choices 83 [some (sl 6 0), some (wi (nI q)), some (wi (nI u)), some (wi (fbI R nt fa h x)), some (wi y), some (wi (nI (cnt (tst y) i))), some (wi (nI i))] [] V (zi K) := by
    intro y k
    induction k with
    | zero =>
      intro i ei hk'
      have : i = 20 := by omega
      subst this
      exact w_X12_choices_83 ⟨fun _ => hk', fun z => absurd (by decide) z⟩
    | succ k ih =>
      intro i ei hk'
      refine w_X12_choices_83 ⟨fun z => absurd z (nI_ge (b := 20) (show i < 20 by omega) (by decide)), fun _ => ?_⟩
      have j := ih (i + 1) (by omega) hk'
      rw [bit_is y (by omega)]
      by_cases c : tst y i = true
      · rw [show cnt (tst y) (i + 1) = cnt (tst y) i + 1 by rw [cnt, if_pos c]] at j
        rw [if_pos c, nI_1, nI_1]; exact j
      · rw [show cnt (tst y) (i + 1) = cnt (tst y) i by rw [cnt, if_neg c]; rfl] at j
        rw [if_neg c, nI_1, Int32.add_zero]; exact j
  intro m
  induction m with
  | zero =>
    intro p e
    have : p = plR R := by omega
    subst this
    refine w_X12_choices_30 (by omega) ?_
    rw [nI_clamp (show q < 2 ^ 31 by omega), pl]
    refine ⟨vp_in_nI q5 (by decide), fun _ => cn _ 20 0 (by omega) ?_, fun z => absurd (nI_le (Nat.le_refl _) (by omega)) z⟩
    rw [← gL_flt]
    have : pop (orD R u (gL 1 R nt fa h x)) = cnt (tst (orD R u (gL 1 R nt fa h x))) 20 := cnt_more (by decide) (fun i h1 h2 => orD_big hz _ i h1 h2)
    rw [← this]; exact hk
  | succ m ih =>
    intro p e
    have hp : p < plR R := by omega
    have i := ih (p + 1) (by omega)
    rw [rng_flt_s] at i
    refine w_X12_choices_30 (by omega) ?_
    rw [nI_clamp (show q < 2 ^ 31 by omega), pl]
    refine ⟨vp_in_nI q5 (by decide), fun z => absurd z (nI_ge hp (by omega)), fun _ => c_isBestM (b := 1) (by omega) hm hp (by decide) ⟨fun z => w_X12_choices_68 ?_, fun z => c_place hm.sq hu (by omega) (w_X12_choices_68 ?_)⟩⟩
    · rw [bI_0] at z
      rw [z, if_neg (by decide)] at i
      rw [Int32.or_zero, nI_1]; exact i
    · rw [bI_1] at z
      rw [z, if_pos rfl, orD_add] at i
      rw [nI_1]; exact i
/-- one plan of mend -/
theorem mend_in {p : Nat} {y x3 : Int32} {K : Int32 → VH → Prop} (h0 : 2 < d) (hm : KnM V q t n R nt fa h x cs) (hp : p < plR R) (hk : ∀ x6, vwp E d M_X12_mend 104 [some (sl 6 0), some (wi (nI q)), some (wi y), some (wi x3), some (wi (nI p)), some (wi (bI (agr (szR R) (tcR R 1) (tst (y ^^^ (-1))) h p))), some (wi x6)] [] V (zi K)) : ∀ m v, v + m = tcR R 1 → (∀ u, u < v → tst (y ^^^ (-1)) u = true → Dg (szR R) (tcR R 1) u p = Dg (szR R) (tcR R 1) u h) → vwp E d M_X12_mend 42 [some (sl 6 0), some (wi (nI q)), some (wi y), some (wi x3), some (wi (nI p)), some (wi 1), some (wi (nI v))] [] V (zi K) := by
  have p20 := hm.p20
  have q5 := hm.q5
  have v12 : tcR R 1 ≤ 12 := hm.sq.2.2.1
  intro m
  induction m with
  | zero =>
    intro v e ok
    have a : agr (szR R) (tcR R 1) (tst (y ^^^ (-1))) h p = true := agr_iff.mpr (fun u hu hf => ok u (by omega) hf)
    rw [a] at hk
    exact w_X12_mend_42 (by omega) ⟨fun z => absurd z (by decide), fun _ => c_vars hm.sq ⟨fun _ => hk _, fun z => absurd (nI_le (show tcR R 1 ≤ v by omega) (by omega)) z⟩⟩
  | succ m ih =>
    intro v e ok
    have hv : v < tcR R 1 := by omega
    have tb : tst (y ^^^ (-1)) v = !tst y v := by rw [tst_xor, tst_n1 (by omega)]; cases tst y v <;> rfl
    have e12 : (12 : Int32) * nI q + nI v = nI (12 * q + v) := i12 q v
    refine w_X12_mend_42 (by omega) ⟨fun z => absurd z (by decide), fun _ => c_vars hm.sq ⟨fun z => absurd z (nI_ge hv (by omega)), fun _ => ⟨fun z => ?_, fun z => c_place hm.sq hv (by omega) ?_⟩⟩⟩
    · have c : tst y v = true := by
        rw [bit_is y (by omega)] at z
        by_cases c : tst y v = true
        · exact c
        · rw [if_neg c] at z; exact absurd z (by decide)
      refine w_X12_mend_91 (w_X12_mend_96 ?_)
      rw [nI_1]
      refine ih (v + 1) (by omega) (fun u hu hf => ?_)
      by_cases w : u = v
      · subst w; rw [tb, c] at hf; exact absurd hf (by decide)
      · exact ok u (by omega) hf
    · have c : tst y v = false := by
        rw [bit_is y (by omega)] at z
        by_cases c : tst y v = true
        · rw [if_pos c] at z; exact absurd rfl z
        · exact Bool.eq_false_iff.mpr c
      have dl : Dg (szR R) (tcR R 1) v p < 20000 := by have := Dg_lt hm.sq.pos hv (p := p); have := (hm.sq.2.2.2.2.2 v hv).2.2.1; omega
      have dh : Dg (szR R) (tcR R 1) v h < 20000 := by have := Dg_lt hm.sq.pos hv (p := h); have := (hm.sq.2.2.2.2.2 v hv).2.2.1; omega
      rw [e12, nI_clamp (show 12 * q + v < 2 ^ 31 by omega), hm.hq.2 v hv]
      refine ⟨vp_in_nI (by omega) (by decide), fun w => w_X12_mend_96 ?_, fun w => w_X12_mend_91 (w_X12_mend_96 ?_)⟩
      · have a : agr (szR R) (tcR R 1) (tst (y ^^^ (-1))) h p = false := Bool.eq_false_iff.mpr (fun a => w (by rw [agr_iff.mp a v hv (by rw [tb, c]; rfl)]))
        rw [a] at hk
        exact w_X12_mend_42 (by omega) ⟨fun _ => hk _, fun z => absurd rfl z⟩
      · rw [nI_1]
        refine ih (v + 1) (by omega) (fun u hu hf => ?_)
        by_cases w2 : u = v
        · subst w2; exact (nI_eq (by omega) (by omega)).mp w
        · exact ok u (by omega) hf
theorem mend_go {y : Int32} {K : Int32 → VH → Prop} (h0 : 3 < d) (hm : KnM V q t n R nt fa h x cs) (hk1 : gdR R nt fa h (y ^^^ (-1)) = [] → K 0 V) (hk2 : gdR R nt fa h (y ^^^ (-1)) ≠ [] → ∀ V', Fc V V' (hnS q) → Hq V' q (tcR R 1) (szR R) (bst (scQ R nt fa) (gdR R nt fa h (y ^^^ (-1)))) → K 1 V') : ∀ m p, p + m = plR R → vwp E d M_X12_mend 20 [some (sl 6 0), some (wi (nI q)), some (wi y), some (wi (cuI (((List.range p).filter (goR R nt fa h (y ^^^ (-1)))).foldl (fbs (scQ R nt fa)) none))), some (wi (nI p)), none, none] [] V (zi K) := by
  have p20 := hm.p20
  have q5 := hm.q5
  have pl := hm.pl
  have v12 : tcR R 1 ≤ 12 := hm.sq.2.2.1
  intro m
  induction m with
  | zero =>
    intro p e
    have : p = plR R := by omega
    subst this
    refine w_X12_mend_20 (by omega) ?_
    rw [nI_clamp (show q < 2 ^ 31 by omega), pl, fbs_list]
    refine ⟨vp_in_nI q5 (by decide), fun _ => ?_, fun z => absurd (nI_le (Nat.le_refl _) (by omega)) z⟩
    by_cases c : (List.range (plR R)).filter (goR R nt fa h (y ^^^ (-1))) = []
    · rw [if_pos c]
      exact ⟨fun z => absurd z (by decide), fun _ => hk1 c⟩
    · rw [if_neg c]
      have hb : bst (scQ R nt fa) (gdR R nt fa h (y ^^^ (-1))) < plR R := gd_lt (bst_mem c)
      exact ⟨fun _ => c_putAtHand (by omega) hm.sq hb (fun V' f hh => hk2 c V' (f.mono (fun a f j y => ⟨y.1, y.2.1, y.2.2.1, by have := y.2.2.2; omega⟩)) hh), fun z => absurd (nI_le (a := 0) (Nat.zero_le _) (show bst (scQ R nt fa) (gdR R nt fa h (y ^^^ (-1))) < 2 ^ 31 by omega)) z⟩
  | succ m ih =>
    intro p e
    have hp : p < plR R := by omega
    have i := ih (p + 1) (by omega)
    rw [rng_flt_s] at i
    generalize eo : ((List.range p).filter (goR R nt fa h (y ^^^ (-1)))).foldl (fbs (scQ R nt fa)) none = o at i ⊢
    have ob : ∀ b, o = some b → b < plR R := fun b e => by
      rw [← eo, fbs_list] at e
      by_cases c : (List.range p).filter (goR R nt fa h (y ^^^ (-1))) = []
      · rw [if_pos c] at e; exact absurd e (by simp)
      · rw [if_neg c] at e
        have := List.mem_range.mp (List.mem_filter.mp (bst_mem (sc := scQ R nt fa) c)).1
        have := Option.some.inj e; omega
    have go104 : ∀ (gb : Bool) (x6 : Int32), gb = goR R nt fa h (y ^^^ (-1)) p → vwp E d M_X12_mend 104 [some (sl 6 0), some (wi (nI q)), some (wi y), some (wi (cuI o)), some (wi (nI p)), some (wi (bI gb)), some (wi x6)] [] V (zi K) := fun gb x6 eg => by
      refine w_X12_mend_104 (by omega) ⟨fun z => w_X12_mend_128 (w_X12_mend_129 ?_), fun z => ?_⟩
      · rw [bI_0] at z
        rw [← eg, z, if_neg (by decide), eo] at i
        rw [nI_1]; exact i
      · rw [bI_1] at z
        rw [← eg, z, if_pos rfl, List.foldl_append, eo] at i
        cases o with
        | none => exact ⟨fun _ => w_X12_mend_123 (w_X12_mend_129 (by rw [nI_1]; exact i)), fun z => absurd (by decide) z⟩
        | some c =>
          have hc := ob c rfl
          refine ⟨fun z => absurd z (nI_pos (show c < 2 ^ 31 by omega)), fun _ => c_isBetterM hm.tq hp hc ⟨fun z => w_X12_mend_128 (w_X12_mend_129 ?_), fun z => w_X12_mend_123 (w_X12_mend_129 ?_)⟩⟩
          · rw [bI_0] at z
            have : [p].foldl (fbs (scQ R nt fa)) (some c) = some c := by
              show (if btr (scQ R nt fa) p c = true then some p else some c) = _
              rw [z]; rfl
            rw [this] at i
            rw [nI_1]; exact i
          · rw [bI_1] at z
            have : [p].foldl (fbs (scQ R nt fa)) (some c) = some p := by
              show (if btr (scQ R nt fa) p c = true then some p else some c) = _
              rw [z]; rfl
            rw [this] at i
            rw [nI_1]; exact i
    refine w_X12_mend_20 (by omega) ?_
    rw [nI_clamp (show q < 2 ^ 31 by omega), pl]
    refine ⟨vp_in_nI q5 (by decide), fun z => absurd z (nI_ge hp (by omega)), fun _ => c_isFeasible hm.tq hp ?_⟩
    by_cases c : scQ R nt fa p 0 = 0
    · rw [decide_eq_true c]
      exact mend_in (by omega) hm hp (fun x6 => go104 _ x6 (by show _ = (agr (szR R) (tcR R 1) (tst (y ^^^ (-1))) h p && decide (scQ R nt fa p 0 = 0)); rw [decide_eq_true c, Bool.and_true])) (tcR R 1) 0 (Nat.zero_add _) (fun u hu => absurd hu (Nat.not_lt_zero u))
    · rw [decide_eq_false c]
      exact w_X12_mend_42 (by omega) ⟨fun _ => go104 false _ (by show _ = (agr (szR R) (tcR R 1) (tst (y ^^^ (-1))) h p && decide (scQ R nt fa p 0 = 0)); rw [decide_eq_false c, Bool.and_false]), fun z => absurd rfl z⟩
end
section
variable {E : EE} {d x B B' : Nat}
theorem o_choices (h0 : 190 < d) (hB : B ≤ B') : VO_choices E d (JA x B) (JA x B') := fun V a0 a1 hJ => liftI hJ (fun hW hS => by
  rcases hS.inQ a0 with ⟨hP, hM⟩ | ⟨q, t, n, R, nt, fa, h, px, cs, hq, rfl, hI⟩
  · exact nul_choices (J := fun V2 => WF V2 → JS B' V2) (by omega) hW hP hM (fun _ => hS.mono hB)
  · have p20 := hI.p20
    refine w_X11_choices_0 (by omega) (c_scoredQ (by omega) hW hq hS hI (fun V1 hS1 hI1 s1 => ⟨fun z => absurd hI1.2.1.1.1 z, fun _ => ⟨hI1.2.1.1.2, c_isVar hI1.sp (fun hn => ⟨fun z => absurd rfl z, fun _ => ?_⟩) (fun u hu e => ⟨fun _ => c_gatherFor (b := 1) (by omega) hI1 s1 (fun V4 f4 l4 => ?_), fun z => absurd z (by decide)⟩)⟩⟩))
    · exact w_X12_choices_0 (by omega) (c_isVarM (by omega) hI1.1 hI1.mi hq (fun _ => ⟨fun z => absurd rfl z, fun _ => ⟨rfl, fun _ => hS1.mono hB⟩⟩) (fun u hu e => absurd e (hn u hu)))
    · subst e
      obtain ⟨t1, t2, t3, _⟩ := s1.1
      have S4 : Sp V4 (q + 1) (tcR R 1) (szR R) (vlR R) := hI1.sp.fc f4 (fun f i z y => by obtain ⟨_, y⟩ := y; omega)
      refine c_different (m := plR R) (R := R) (by omega) S4 hu (by rw [f4.n]; omega) (by rw [f4.n]; omega) l4 (fun p hp => by have := gL_lt hp; omega) gL_le ?_
      have mi := hI1.mi.fc hI1.1 f4 (fun f j y => by have := y.1; omega)
      refine w_X12_choices_0 (by omega) (c_isVarM (by omega) hI1.1 mi hq (fun z => absurd rfl (z u hu)) (fun _ _ _ => ⟨fun _ => know_end (by omega) hq hS1 hI1 (f4.mono (fun a f j y => lsS_cs y)) (fun V2 f2 w mi2 hI2 hS2 => c_fb (by omega) ⟨mi2, w⟩ ?_), fun z => absurd z (by decide)⟩))
      have hz : ∀ p, Dg (szR R) (tcR R 1) u p < 20 := fun p => by have := Dg_lt hI2.sq.pos hu (p := p); have := (hI2.sq.2.2.2.2.2 u hu).2.2.1; omega
      exact choices_go (E := E) (d := d) (K := fun r' V2 => nI (pop (orD R u (gL 1 R nt fa h px))) = r' ∧ (WF V2 → JS B' V2)) (by omega) ⟨mi2, w⟩ hu hz ⟨rfl, fun _ => hS2.mono hB⟩ (plR R) 0 (Nat.zero_add _))
theorem o_mend (h0 : 190 < d) (hB : B ≤ B') : VO_mend E d (JA x B) (JA x B') := fun V a0 a1 hJ => liftI hJ (fun hW hS => by
  rcases hS.inQ a0 with ⟨hP, hM⟩ | ⟨q, t, n, R, nt, fa, h, px, cs, hq, rfl, hI⟩
  · exact nul_mend (J := fun V2 => WF V2 → JS B' V2) (by omega) hW hP hM (fun _ => hS.mono hB)
  · have p20 := hI.p20
    generalize ey : a1 ^^^ (-1) = y
    have gl : (bsts (scQ R nt fa) (gdR R nt fa h y)).length ≤ plR R := gL_le (b := 1) (R := R) (nt := nt) (fa := fa) (h := h) (x := y)
    refine w_X11_mend_0 (by omega) (c_scoredQ (by omega) hW hq hS hI (fun V1 hS1 hI1 s1 => ⟨fun _ => ⟨hI1.2.1.1.2, ?_⟩, fun z => absurd hI1.2.1.1.1 z⟩))
    rw [ey]
    refine c_gatherQ (by omega) hI1 s1 (fun V3 f3 l3 => c_keepQ (by omega) hI1 s1 f3 l3 (fun V4 f4 l4 => ⟨fun z => ?_, fun z => ?_⟩))
    · have e0 : (bsts (scQ R nt fa) (gdR R nt fa h y)).length = 0 := by
        by_cases c : (bsts (scQ R nt fa) (gdR R nt fa h y)).length = 0
        · exact c
        · exact absurd z (nI_ge (b := (bsts (scQ R nt fa) (gdR R nt fa h y)).length) (a := 0) (by omega) (by omega))
      have g0 : gdR R nt fa h y = [] := by
        by_cases c : gdR R nt fa h y = []
        · exact c
        · obtain ⟨L, e⟩ := bsts_0 (sc := scQ R nt fa) c
          rw [e] at e0; exact absurd e0 (by simp)
      have mi := hI1.mi.fc hI1.1 f4 (fun f j y => by have := y.1; omega)
      refine w_X12_mend_0 (by omega) (c_isProblem_y mi hq ⟨fun _ => know_end (by omega) hq hS1 hI1 (f4.mono (fun a f j y => lsS_cs y)) (fun V2 f2 w mi2 hI2 hS2 => ?_), fun w => absurd w (by decide)⟩)
      exact mend_go (E := E) (d := d) (K := fun r' V2 => (0 : Int32) = r' ∧ (WF V2 → JS B' V2)) (by omega) ⟨mi2, w⟩ (fun _ => ⟨rfl, fun _ => hS2.mono hB⟩) (fun z => by rw [ey] at z; exact absurd g0 z) (plR R) 0 (Nat.zero_add _)
    · have g0 : gdR R nt fa h y ≠ [] := fun c => z (by rw [c, bsts_nil]; decide)
      obtain ⟨L, eL⟩ := bsts_0 (sc := scQ R nt fa) g0
      have hi : 0 < (bsts (scQ R nt fa) (gdR R nt fa h y)).length := by rw [eL]; simp
      obtain ⟨a1', a2⟩ := ls_at (i := 0) s1 f4 l4 gl hi
      have hp : bst (scQ R nt fa) (gdR R nt fa h y) < plR R := gd_lt (bst_mem g0)
      refine ⟨a1', ?_⟩
      have a2' : vI V4 (q + 1) 20 (Int32.toNatClampNeg 0) = nI (bst (scQ R nt fa) (gdR R nt fa h y)) := by
        have : (bsts (scQ R nt fa) (gdR R nt fa h y)).getD 0 0 = bst (scQ R nt fa) (gdR R nt fa h y) := by rw [eL]; rfl
        rw [← this]; exact a2
      rw [a2']
      refine w_X3_moveTo_0 (by rw [f4.l]; exact hI1.2.1.1) (fun V9 e9 => ⟨fun y => absurd y (by decide), fun _ => ?_⟩)
      have k9 : Fc V1 V9 (fun a f j => a = q + 1) := (f4.mono (fun a f j y => y.1)).trans (by rw [e9]; exact Fc_wrI rfl)
      have n6 : ∀ f j, ¬ (fun (a f j : Nat) => a = q + 1) 6 f j := fun f j y => by have y : 6 = q + 1 := y; omega
      have mi := hI1.mi.fc hI1.1 k9 (fun f j y => absurd y (n6 f j))
      refine w_X12_mend_0 (by omega) (c_isProblem_y mi hq ⟨fun _ => know_go (by omega) hI1 k9 n6 (fun V2 f2 w mi2 e1 e2 => ?_), fun w => absurd w (by decide)⟩)
      exact mend_go (E := E) (d := d) (K := fun r' V2 => (1 : Int32) = r' ∧ (WF V2 → JS B' V2)) (by omega) ⟨mi2, w⟩ (fun z => by rw [ey] at z; exact absurd z g0) (fun _ V3 f3 hh => ⟨rfl, fun _ => (mv_end hq hS1 hI1 f4 e9 hp f2 w e1 e2 f3 (by rw [ey] at hh; exact hh)).mono hB⟩) (plR R) 0 (Nat.zero_add _))
end
