/-! near -/
/-- what it costs to go from plan h to plan p, vars below v -/
def kos (sz : Nat → Nat) (nv : Nat) (cs : Nat → Int32) (h p : Nat) : Nat → Int32
  | 0 => 0
  | v + 1 => kos sz nv cs h p v + (if Dg sz nv v p = Dg sz nv v h then 0 else cs v)
theorem kos_s {sz : Nat → Nat} {nv : Nat} {cs : Nat → Int32} {h p v : Nat} : kos sz nv cs h p (v + 1) = kos sz nv cs h p v + (if Dg sz nv v p = Dg sz nv v h then 0 else cs v) := by rw [kos]
def nrS (k : Nat → Int32) (o : Option Nat) (p : Nat) : Option Nat := match o with
  | none => some p
  | some c => if k c ≤ k p then some c else some p
def nrF (k : Nat → Int32) (L : List Nat) : Option Nat := L.foldl (nrS k) none
theorem nrF_app {k : Nat → Int32} {L : List Nat} {p : Nat} : nrF k (L ++ [p]) = nrS k (nrF k L) p := by unfold nrF; rw [List.foldl_append]; rfl
theorem nrF_lt {k : Nat → Int32} {c : Nat} : ∀ {L : List Nat} {o : Option Nat}, L.foldl (nrS k) o = some c → c ∈ L ∨ o = some c := by
  intro L
  induction L with
  | nil => intro o h; exact Or.inr h
  | cons a L ih =>
    intro o h
    rcases ih h with z | z
    · exact Or.inl (List.mem_cons_of_mem a z)
    · cases o with
      | none => exact Or.inl (by rw [← Option.some.inj z]; exact List.mem_cons_self)
      | some b =>
        have z : (if k b ≤ k a then some b else some a) = some c := z
        by_cases q : k b ≤ k a
        · rw [if_pos q] at z; exact Or.inr z
        · rw [if_neg q] at z; exact Or.inl (by rw [← Option.some.inj z]; exact List.mem_cons_self)
theorem nrF_mem {k : Nat → Int32} {L : List Nat} {c : Nat} (h : nrF k L = some c) : c ∈ L := by
  rcases nrF_lt h with z | z
  · exact z
  · exact absurd z (by simp)
theorem take_s {L : List Nat} {j : Nat} (h : j < L.length) : L.take (j + 1) = L.take j ++ [L.getD j 0] := by
  rw [List.take_add_one, List.getD_eq_getElem?_getD, List.getElem?_eq_getElem h]
  rfl
section
variable {E : EE} {d : Nat} {V V' : VH} {q B : Nat} {t : Nat → Int32} {n : Nat} {R : List SR} {nt fa : Nat → Int32} {h h' : Nat} {x b : Int32} {cs : Nat → Int32}
abbrev koR (R : List SR) (cs : Nat → Int32) (h p : Nat) : Int32 := kos (szR R) (tcR R 1) cs h p (tcR R 1)
theorem c_costTo {p : Nat} {K : Int32 → VH → Prop} (h0 : 1 < d) (hS : Sp V (q + 1) (tcR R 1) (szR R) (vlR R)) (v12 : tcR R 1 ≤ 12) (hh : vI V (q + 1) 0 8 = nI h) (hl : h < 2 ^ 31) (hc : ∀ v, v < 12 → vI V (q + 1) 24 v = cs v) (hp : p < 2 ^ 31) (hk : K (koR R cs h p) V) : vMI E d M_X3_costTo [sl (q + 1) 0, wi (nI p)] V K := by
  have hg := hS.1
  have e5 : vI V (q + 1) 5 0 = nI (tcR R 1) := hS.2.1
  have go : ∀ m v, v + m = tcR R 1 → vwp E d M_X3_costTo 4 [some (sl (q + 1) 0), some (wi (nI p)), some (wi (kos (szR R) (tcR R 1) cs h p v)), some (wi (nI v))] [] V (zi K) := by
    intro m
    induction m with
    | zero =>
      intro v e
      have : v = tcR R 1 := by omega
      refine w_X3_costTo_4 hg (by omega) ?_
      rw [e5, this]
      exact ⟨fun _ => hk, fun z => absurd (nI_le (Nat.le_refl _) (by omega)) z⟩
    | succ m ih =>
      intro v e
      have hv : v < tcR R 1 := by omega
      have i := ih (v + 1) (by omega)
      rw [kos_s] at i
      refine w_X3_costTo_4 hg (by omega) ?_
      rw [e5]
      refine ⟨fun z => absurd z (nI_ge hv (by omega)), fun _ => c_placeOf hS hv hp ?_⟩
      rw [hh]
      have b1 := Dg_lt hS.pos (p := p) hv
      have b2 := Dg_lt hS.pos (p := h) hv
      have z12 := (hS.2.2.2.2.2 v hv).2.2.1
      refine c_placeOf hS hv hl ⟨fun z => w_X3_costTo_48 hg ?_, fun z => ⟨vp_in_nI (by omega) (by decide), w_X3_costTo_48 hg ?_⟩⟩
      · rw [if_pos ((nI_eq (by omega) (by omega)).mp z), Int32.add_zero] at i
        rw [nI_1]; exact i
      · rw [if_neg (fun y => z (by rw [y]))] at i
        rw [nI_1, nI_clamp (show v < 2 ^ 31 by omega), hc v (by omega)]; exact i
  exact w_X3_costTo_0 hg (go (tcR R 1) 0 (Nat.zero_add _))
/-- the reference adds the costs of a plan, and goes on -/
theorem nearM_cost {p : Nat} {x2 x3 x4 x5 : Int32} {K : Int32 → VH → Prop} (h0 : 1 < d) (hm : MiQ V q t n R fa h x cs) (hp : p < plR R) (hy : (x4 < 0 → vwp E d M_X12_near 158 [some (sl 6 0), some (wi (nI q)), some (wi x2), some (wi x3), some (wi (nI p)), some (wi (koR R cs h p)), some (wi (nI p)), none, none] [] V (zi K)) ∧ (¬ x4 < 0 → (x5 ≤ koR R cs h p → vwp E d M_X12_near 158 [some (sl 6 0), some (wi (nI q)), some (wi x2), some (wi x3), some (wi x4), some (wi x5), some (wi (nI p)), none, none] [] V (zi K)) ∧ (¬ x5 ≤ koR R cs h p → vwp E d M_X12_near 158 [some (sl 6 0), some (wi (nI q)), some (wi x2), some (wi x3), some (wi (nI p)), some (wi (koR R cs h p)), some (wi (nI p)), none, none] [] V (zi K)))) : vwp E d M_X12_near 71 [some (sl 6 0), some (wi (nI q)), some (wi x2), some (wi x3), some (wi x4), some (wi x5), some (wi (nI p)), none, none] [] V (zi K) := by
  have sq := hm.1.2.2.2.2.1
  have hq := hm.1.2.2.2.2.2.2.2.2.1
  have q5 := sq.1
  have v12 := sq.2.2.1
  have p20 : plR R ≤ 20000 := sq.2.2.2.2.1
  have hl := hq.1
  have hcs := hm.1.2.2.2.2.2.2.2.2.2.2
  have go : ∀ m v, v + m = tcR R 1 → vwp E d M_X12_near 77 [some (sl 6 0), some (wi (nI q)), some (wi x2), some (wi x3), some (wi x4), some (wi x5), some (wi (nI p)), some (wi (kos (szR R) (tcR R 1) cs h p v)), some (wi (nI v))] [] V (zi K) := by
    intro m
    induction m with
    | zero =>
      intro v e
      have : v = tcR R 1 := by omega
      refine w_X12_near_77 (by omega) (c_vars sq ?_)
      rw [this]
      exact ⟨fun _ => ⟨fun z => w_X12_near_150 (hy.1 z), fun z => ⟨fun w => (hy.2 z).1 w, fun w => w_X12_near_150 ((hy.2 z).2 w)⟩⟩, fun z => absurd (nI_le (Nat.le_refl _) (by omega)) z⟩
    | succ m ih =>
      intro v e
      have hv : v < tcR R 1 := by omega
      have i := ih (v + 1) (by omega)
      rw [kos_s] at i
      have e12 : (12 : Int32) * nI q + nI v = nI (12 * q + v) := by rw [show (12 : Int32) = nI 12 from rfl, nI_mul, nI_add]
      refine w_X12_near_77 (by omega) (c_vars sq ⟨fun z => absurd z (nI_ge hv (by omega)), fun _ => c_place sq hv (by omega) ?_⟩)
      rw [e12, nI_clamp (show 12 * q + v < 2 ^ 31 by omega), hq.2 v hv, hcs v hv]
      have b1 := Dg_lt sq.pos (p := p) hv
      have b2 := Dg_lt sq.pos (p := h) hv
      have z12 := (sq.2.2.2.2.2 v hv).2.2.1
      refine ⟨vp_in_nI (by omega) (by decide), fun z => ⟨vp_in_nI (by omega) (by decide), w_X12_near_129 ?_⟩, fun z => w_X12_near_129 ?_⟩
      · rw [if_neg (fun y => z (by rw [y]))] at i
        rw [nI_1]; exact i
      · rw [if_pos ((nI_eq (by omega) (by omega)).mp z)] at i
        rw [nI_1]; exact i
  exact w_X12_near_71 (go (tcR R 1) 0 (Nat.zero_add _))
theorem nearM_go {K : Int32 → VH → Prop} (h0 : 3 < d) (hb : b = 0 ∨ b = 1) (hm : KnM V q t n R nt fa h x cs) (hk0 : nrF (koR R cs h) (gL b R nt fa h x) = none → K (-1) V) (hk1 : ∀ c, nrF (koR R cs h) (gL b R nt fa h x) = some c → ∀ V', Fc V V' (hnS q) → Hq V' q (tcR R 1) (szR R) c → K (koR R cs h c) V') : ∀ m p (x4 x5 : Int32), p + m = plR R → (nrF (koR R cs h) ((List.range p).filter (gPB b R nt fa h x)) = none → x4 = -1) → (∀ c, nrF (koR R cs h) ((List.range p).filter (gPB b R nt fa h x)) = some c → x4 = nI c ∧ x5 = koR R cs h c) → vwp E d M_X12_near 32 [some (sl 6 0), some (wi (nI q)), some (wi b), some (wi (fbI R nt fa h x)), some (wi x4), some (wi x5), some (wi (nI p)), none, none] [] V (zi K) := by
  have p20 := hm.p20
  have q5 := hm.q5
  have v12 : tcR R 1 ≤ 12 := hm.sq.2.2.1
  intro m
  induction m with
  | zero =>
    intro p x4 x5 e c0 c1
    have : p = plR R := by omega
    subst this
    refine w_X12_near_32 (by omega) ?_
    rw [nI_clamp (show q < 2 ^ 31 by omega), hm.pl]
    rw [← gL_flt] at c0 c1
    refine ⟨vp_in_nI q5 (by decide), fun _ => ?_, fun z => absurd (nI_le (Nat.le_refl _) (by omega)) z⟩
    cases o : nrF (koR R cs h) (gL b R nt fa h x) with
    | none => rw [c0 o]; exact ⟨fun z => absurd z (by decide), fun _ => hk0 o⟩
    | some c =>
      obtain ⟨y1, y2⟩ := c1 c o
      have hc := gL_lt (nrF_mem o)
      rw [y1, y2]
      exact ⟨fun _ => c_putAtHand (by omega) hm.sq hc (fun V' f hh => hk1 c o V' (f.mono (fun a f i y => ⟨y.1, y.2.1, y.2.2.1, by have := y.2.2.2; omega⟩)) hh), fun z => absurd (nI_le (a := 0) (Nat.zero_le _) (by omega)) z⟩
  | succ m ih =>
    intro p x4 x5 e c0 c1
    have hp : p < plR R := by omega
    have rs : (List.range (p + 1)).filter (gPB b R nt fa h x) = (List.range p).filter (gPB b R nt fa h x) ++ [p].filter (gPB b R nt fa h x) := by rw [List.range_succ, List.filter_append]
    have no : gPB b R nt fa h x p = false → vwp E d M_X12_near 158 [some (sl 6 0), some (wi (nI q)), some (wi b), some (wi (fbI R nt fa h x)), some (wi x4), some (wi x5), some (wi (nI p)), none, none] [] V (zi K) := fun z => by
      refine w_X12_near_158 ?_
      rw [nI_1]
      have rs : (List.range (p + 1)).filter (gPB b R nt fa h x) = (List.range p).filter (gPB b R nt fa h x) := by rw [rs, List.filter_cons_of_neg (by rw [z]; decide), List.filter_nil, List.append_nil]
      exact ih (p + 1) x4 x5 (by omega) (by rw [rs]; exact c0) (by rw [rs]; exact c1)
    have yes : gPB b R nt fa h x p = true → vwp E d M_X12_near 71 [some (sl 6 0), some (wi (nI q)), some (wi b), some (wi (fbI R nt fa h x)), some (wi x4), some (wi x5), some (wi (nI p)), none, none] [] V (zi K) := fun z => by
      have rs : (List.range (p + 1)).filter (gPB b R nt fa h x) = (List.range p).filter (gPB b R nt fa h x) ++ [p] := by rw [rs, List.filter_cons_of_pos z, List.filter_nil]
      have go : ∀ (y4 y5 : Int32) c, nrF (koR R cs h) ((List.range (p + 1)).filter (gPB b R nt fa h x)) = some c → y4 = nI c → y5 = koR R cs h c → vwp E d M_X12_near 158 [some (sl 6 0), some (wi (nI q)), some (wi b), some (wi (fbI R nt fa h x)), some (wi y4), some (wi y5), some (wi (nI p)), none, none] [] V (zi K) := fun y4 y5 c ec e4 e5 => by
        refine w_X12_near_158 ?_
        rw [nI_1]
        exact ih (p + 1) y4 y5 (by omega) (fun w => by rw [ec] at w; exact absurd w (by simp)) (fun c' w => by rw [ec] at w; rw [← Option.some.inj w]; exact ⟨e4, e5⟩)
      rw [rs, nrF_app] at go
      refine nearM_cost (by omega) hm.1 hp ⟨fun w => ?_, fun w => ?_⟩
      · cases o : nrF (koR R cs h) ((List.range p).filter (gPB b R nt fa h x)) with
        | none => exact go _ _ p (by rw [o]; rfl) rfl rfl
        | some c =>
          have := (c1 c o).1
          have hc := List.mem_range.mp (List.mem_filter.mp (nrF_mem o)).1
          rw [this] at w
          exact absurd w (nI_pos (by omega))
      · cases o : nrF (koR R cs h) ((List.range p).filter (gPB b R nt fa h x)) with
        | none => rw [c0 o] at w; exact absurd (by decide) w
        | some c =>
          obtain ⟨y1, y2⟩ := c1 c o
          rw [y2]
          refine ⟨fun u => go _ _ c (by rw [o]; show (if koR R cs h c ≤ koR R cs h p then some c else some p) = some c; rw [if_pos u]) y1 rfl, fun u => go _ _ p (by rw [o]; show (if koR R cs h c ≤ koR R cs h p then some c else some p) = some p; rw [if_neg u]) rfl rfl⟩
    refine w_X12_near_32 (by omega) ?_
    rw [nI_clamp (show q < 2 ^ 31 by omega), hm.pl]
    refine ⟨vp_in_nI q5 (by decide), fun z => absurd z (nI_ge hp (by omega)), fun _ => ⟨fun z => ?_, fun z => ?_⟩⟩
    · have g0 : gPB b R nt fa h x p = goR R nt fa h x p := by unfold gPB; rw [if_pos z]
      rw [g0] at no yes
      exact c_isGood (by omega) hm.sq hm.hq hm.pq hm.tq hp ⟨fun w => no (bI_0.mp w), fun w => yes (bI_1.mp w)⟩
    · exact c_isBestM (by omega) hm hp z ⟨fun w => no (bI_0.mp w), fun w => yes (bI_1.mp w)⟩
end
section
variable {E : EE} {d x B B' : Nat}
theorem o_near (h0 : 190 < d) (hB : B ≤ B') : VO_near E d (JA x B) (JA x B') := fun V a0 a1 hJ hb => liftI hJ (fun hW hS => by
  rcases hS.inQ a0 with ⟨hP, hM⟩ | ⟨q, t, n, R, nt, fa, h, px, cs, hq, rfl, hI⟩
  · exact nul_near (J := fun V2 => WF V2 → JS B' V2) (by omega) hW hP hM (fun _ => hS.mono hB)
  · have p20 := hI.p20
    refine w_X11_near_0 (by omega) (c_scoredQ (by omega) hW hq hS hI (fun V1 hS1 hI1 s1 => ⟨fun z => absurd hI1.2.1.1.1 z, fun _ => ⟨hI1.2.1.1.2, c_gatherFor (b := a1) (by omega) hI1 s1 (fun V4 f4 l4 => ?_)⟩⟩))
    have gl := gL_le (b := a1) (R := R) (nt := nt) (fa := fa) (h := h) (x := px)
    have hand := hI1.hnd
    have S4 : Sp V4 (q + 1) (tcR R 1) (szR R) (vlR R) := hI1.sp.fc f4 (fun f i z y => by have := y.2; omega)
    have hh4 : vI V4 (q + 1) 0 8 = nI h := by rw [f4.i (fun y => by have := y.2; omega)]; exact hand.1
    have hc4 : ∀ v, v < 12 → vI V4 (q + 1) 24 v = cs v := fun v hv => by rw [f4.i (fun y => by have := y.2; omega)]; exact (hI1.2.1.2.2.2.2.2.2.2.2.2.2 v hv).1
    refine ⟨fun z => ?_, fun z => ?_⟩
    · have l0 : 0 < (gL a1 R nt fa h px).length := by
        by_cases c : (gL a1 R nt fa h px).length = 0
        · exact absurd (by rw [c]; decide) z
        · omega
      have ref : ∀ c V9, nrF (koR R cs h) (gL a1 R nt fa h px) = some c → V9 = wrI V4 (q + 1) 0 8 (nI c) → vMI E d M_X12_near [sl 6 0, wi (nI q), wi a1] V9 (fun r' V2 => koR R cs h c = r' ∧ (WF V2 → JS B' V2)) := fun c V9 ec e9 => by
        have k9 : Fc V1 V9 (fun a f j => a = q + 1) := (f4.mono (fun a f j y => y.1)).trans (by rw [e9]; exact Fc_wrI rfl)
        have mi := hI1.mi.fc hI1.1 k9 (fun f j y => by have y : 6 = q + 1 := y; omega)
        refine w_X12_near_0 (by omega) (c_isProblem_y mi hq ⟨fun _ => know_go (by omega) hI1 k9 (fun f j y => by have y : 6 = q + 1 := y; omega) (fun V2 f2 w mi2 e1 e2 => c_fb (by omega) ⟨mi2, w⟩ ?_), fun w => absurd w (by decide)⟩)
        exact nearM_go (by omega) hb ⟨mi2, w⟩ (fun w => by rw [ec] at w; exact absurd w (by simp)) (fun c' w V3 f3 hq3 => by
          rw [ec] at w
          have w := Option.some.inj w
          subst w
          exact ⟨rfl, fun _ => (mv_end hq hS1 hI1 f4 e9 (gL_lt (nrF_mem ec)) f2 ‹_› e1 e2 f3 hq3).mono hB⟩) (plR R) 0 (-1) 0 (Nat.zero_add _) (fun _ => rfl) (fun c' w => absurd w (by simp [nrF]))
      have go : ∀ r j c, j + r = (gL a1 R nt fa h px).length → nrF (koR R cs h) ((gL a1 R nt fa h px).take j) = some c → vwp E d M_X11_near 46 [some (sl 0 28), some (wi (nI q)), some (wi a1), some (sl (q + 1) 0), some (wi (nI c)), some (wi (koR R cs h c)), some (wi (nI j)), none] [] V4 (zi (fun r V1 => vMI E d M_X12_near [sl 6 0, wi (nI q), wi a1] V1 (fun r' V2 => r = r' ∧ (WF V2 → JS B' V2)))) := by
        intro r
        induction r with
        | zero =>
          intro j c e ec
          have tk : (gL a1 R nt fa h px).take j = gL a1 R nt fa h px := List.take_of_length_le (by omega)
          rw [tk] at ec
          refine w_X11_near_46 S4.1 (by omega) ⟨fun _ => w_X3_moveTo_0 S4.1 (fun V9 e9 => ref c V9 ec e9), fun y => absurd ?_ y⟩
          rw [l4.1]; exact nI_le (by omega) (by omega)
        | succ r ih =>
          intro j c e ec
          have hj : j < (gL a1 R nt fa h px).length := by omega
          obtain ⟨y1, y2⟩ := ls_at (i := j) s1 f4 l4 gl hj
          have pl := gL_lt (getD_mem hj)
          refine w_X11_near_46 S4.1 (by omega) ⟨fun y => absurd y (by rw [l4.1]; exact nI_ge hj (by omega)), fun _ => ⟨y1, ?_⟩⟩
          rw [y2]
          refine c_costTo (cs := cs) (h := h) (R := R) (by omega) S4 hI1.v12 hh4 (by have := hand.2; omega) hc4 (by omega) ⟨fun u => w_X11_near_97 S4.1 ?_, fun u => ⟨y1, w_X11_near_97 S4.1 ?_⟩⟩
          · rw [nI_1]
            exact ih (j + 1) c (by omega) (by rw [take_s hj, nrF_app, ec]; show (if _ then some c else _) = some c; rw [if_pos u])
          · rw [nI_1, y2]
            exact ih (j + 1) _ (by omega) (by rw [take_s hj, nrF_app, ec]; show (if koR R cs h c ≤ koR R cs h ((gL a1 R nt fa h px).getD j 0) then some c else some _) = some _; rw [if_neg u])
      obtain ⟨y1, y2⟩ := ls_at (i := 0) s1 f4 l4 gl l0
      have pl := gL_lt (getD_mem l0)
      have y2' : vI V4 (q + 1) 20 (Int32.toNatClampNeg 0) = nI ((gL a1 R nt fa h px).getD 0 0) := y2
      rw [y2']
      refine ⟨y1, c_costTo (cs := cs) (h := h) (R := R) (by omega) S4 hI1.v12 hh4 (by have := hand.2; omega) hc4 (by omega) ?_⟩
      exact go _ 1 _ (show 1 + ((gL a1 R nt fa h px).length - 1) = _ by omega) (by rw [show 1 = 0 + 1 from rfl, take_s l0]; rfl)
    · have l0 : (gL a1 R nt fa h px).length = 0 := (nI_eq (b := 0) (by omega) (by decide)).mp z
      have n0 : gL a1 R nt fa h px = [] := List.length_eq_zero_iff.mp l0
      have mi := hI1.mi.fc hI1.1 f4 (fun f j y => by have := y.1; omega)
      refine w_X12_near_0 (by omega) (c_isProblem_y mi hq ⟨fun _ => know_end (by omega) hq hS1 hI1 (f4.mono (fun a f j y => lsS_cs y)) (fun V2 f2 w mi2 hI2 hS2 => c_fb (by omega) ⟨mi2, w⟩ ?_), fun w => absurd w (by decide)⟩)
      exact nearM_go (by omega) hb ⟨mi2, w⟩ (fun _ => ⟨rfl, fun _ => hS2.mono hB⟩) (fun c w => by rw [n0] at w; exact absurd w (by simp [nrF])) (plR R) 0 (-1) 0 (Nat.zero_add _) (fun _ => rfl) (fun c' w => absurd w (by simp [nrF])))
end
