/-! reach, isLeft -/
section
variable {E : EE} {d : Nat} {V V' V1 V2 : VH} {q B : Nat} {t : Nat → Int32} {n : Nat} {R : List SR} {nt fa : Nat → Int32} {h h' : Nat} {x b : Int32} {cs : Nat → Int32} {X Y : Nat → Nat → Bool}
theorem LsX.refl : LsX R X X := fun _ _ _ _ z => z
/-- one round over all rules -/
theorem left_pass {K : VH → Prop} {X0 : Nat → Nat → Bool} (h0 : 2 < d) (hs : PrS t n R nt) (hm : KnM V q t n R nt fa h x cs) (hW6 : SL (vL V) 6 46 16) (hN6 : vN V 6 46 = 240)
    (hk : ∀ V2 X (w : Bool), Fc V V2 f46 → LfM V2 R X → Gfp R nt fa h x X → (w = false → clo R nt fa X) → (w = true → mX R X (tcR R 1) < mX R X0 (tcR R 1)) → vwp E d M_X12_findLeft 92 [some (sl 6 0), some (wi (nI q)), some (wi (bI w)), none, none, none] [] V2 (zv K)) :
    ∀ m r V1 X (w : Bool), r + m = tcR R 2 → Fc V V1 f46 → LfM V1 R X → Gfp R nt fa h x X → LsX R X X0 → (w = false → ∀ j, j < r → lvn R j = 0 → ∀ v k, v < tcR R 1 → k < szR R v → X v k = true → spX R nt fa X j v k) → (w = true → mX R X (tcR R 1) < mX R X0 (tcR R 1)) → vwp E d M_X12_findLeft 100 [some (sl 6 0), some (wi (nI q)), some (wi (bI w)), some (wi (nI r)), none, none] [] V1 (zv K) := by
  have q5 := hm.q5
  have r24 : tcR R 2 ≤ 24 := hs.2.2.2.1.1 2 (by decide)
  have ps : psR R := hm.sq.pos
  have n14 : vI V 6 14 (4 * q + 2) = nI (tcR R 2) := (hm.1.1.2.2.1.1 2 (by decide)).1
  have kn : ∀ {V1}, Fc V V1 f46 → KnM V1 q t n R nt fa h x cs := fun f1 => hm.fc hs f1 (fun f j y => by have := y.2; omega)
  intro m
  induction m with
  | zero =>
    intro r V1 X w e f1 l1 g1 le w0 w1
    exact w_X12_findLeft_100 (by omega) (c_rulesOf q5 (by rw [f1.i (fun y => by have := y.2; omega)]; exact n14) ⟨fun _ => hk V1 X w f1 l1 g1 (fun z j hj hl => w0 z j (by omega) hl) w1, fun z => absurd (nI_le (by omega) (by omega)) z⟩)
  | succ m ih =>
    intro r V1 X w e f1 l1 g1 le w0 w1
    have hr : r < tcR R 2 := by omega
    obtain ⟨l3, el, _⟩ := hs.rule hr
    have e24 : vI V1 6 24 (24 * q + r) = nI (lvn R r) := by rw [((kn f1).1.1.2.2.2.2.2.2.1.1 r hr).1]; exact el
    refine w_X12_findLeft_100 (by omega) (c_rulesOf q5 (by rw [f1.i (fun y => by have := y.2; omega)]; exact n14) ⟨fun z => absurd z (nI_ge hr (by omega)), fun _ => ?_⟩)
    rw [i24, nI_clamp (show 24 * q + r < 2 ^ 31 by omega), e24]
    refine ⟨vp_in_nI (by omega) (by decide), fun z => ?_, fun z => w_X12_findLeft_374 ?_⟩
    · have lv0 : lvn R r = 0 := nI_0' l3 z
      refine left_rule h0 hs hm hW6 hN6 hr f1 l1 (fun V2 w2 f2 l2 e2 => w_X12_findLeft_374 ?_)
      rw [nI_1]
      have le2 : LsX R (fun v k => X v k && meB R nt fa X r (List.range (plR R)) v k) X := fun v k hv hk z => by
        have z : (X v k && meB R nt fa X r (List.range (plR R)) v k) = true := z
        rw [Bool.and_eq_true] at z; exact z.1
      refine ih (r + 1) V2 _ w2 (by omega) f2 l2 (gfp_step ps g1 le2 (fun v k hv hk z sp => ?_)) (fun v k hv hk z => le v k hv hk (le2 v k hv hk z)) (fun z j hj hl v k hv hk y => ?_) (fun z => ?_)
      · show (X v k && meB R nt fa X r (List.range (plR R)) v k) = true
        rw [z, meB_sp.mpr (sp r hr lv0)]; rfl
      · -- nothing went
        have nw : w = false := by
          cases c : w with
          | false => rfl
          | true => rw [e2.mpr (Or.inl c)] at z; exact Bool.noConfusion z
        have same : ∀ v k, v < tcR R 1 → k < szR R v → X v k = (X v k && meB R nt fa X r (List.range (plR R)) v k) := fun v k hv hk => by
          cases u : X v k with
          | false => rfl
          | true =>
            cases u2 : meB R nt fa X r (List.range (plR R)) v k with
            | true => rfl
            | false => rw [e2.mpr (Or.inr ⟨v, k, hv, hk, u, u2⟩)] at z; exact Bool.noConfusion z
        have y : (X v k && meB R nt fa X r (List.range (plR R)) v k) = true := y
        rw [Bool.and_eq_true] at y
        refine spX_eq ps same ?_
        by_cases c : j = r
        · rw [c]; exact meB_sp.mp y.2
        · exact w0 nw j (by omega) hl v k hv hk y.1
      · have a := (mX_le (R := R) (X := X) (Y := X0) (tcR R 1) (fun v k hv hk z => le v k hv hk z)).1
        have b := mX_le (R := R) (X := fun v k => X v k && meB R nt fa X r (List.range (plR R)) v k) (Y := X) (tcR R 1) (fun v k hv hk z => le2 v k hv hk z)
        rcases e2.mp z with c | ⟨v, k, hv, hk, u, u2⟩
        · have := w1 c
          have := b.1
          omega
        · have := b.2 ⟨v, k, hv, hk, u, by show (X v k && meB R nt fa X r (List.range (plR R)) v k) = false; rw [u2, Bool.and_false]⟩
          omega
    · rw [nI_1]
      refine ih (r + 1) V1 X w (by omega) f1 l1 g1 le (fun y j hj hl => ?_) w1
      by_cases c : j = r
      · rw [c] at hl; exact absurd (by rw [hl]; rfl) z
      · exact w0 y j (by omega) hl
theorem left_go {K : VH → Prop} (h0 : 3 < d) (hs : PrS t n R nt) (hm : KnM V q t n R nt fa h x cs) (hW6 : SL (vL V) 6 46 16) (hN6 : vN V 6 46 = 240)
    (hk : ∀ V2 X, Fc V V2 f46 → LfM V2 R X → Gfp R nt fa h x X → clo R nt fa X → K V2) :
    ∀ m V1 X, mX R X (tcR R 1) ≤ m → Fc V V1 f46 → LfM V1 R X → Gfp R nt fa h x X → vwp E d M_X12_findLeft 92 [some (sl 6 0), some (wi (nI q)), some (wi 1), none, none, none] [] V1 (zv K) := by
  intro m
  induction m with
  | zero =>
    intro V1 X hm0 f1 l1 g1
    refine w_X12_findLeft_92 ⟨fun z => absurd z (by decide), fun _ => left_pass (X0 := X) (by omega) hs hm hW6 hN6 (fun V2 X2 w f2 l2 g2 w0 w1 => ?_) (tcR R 2) 0 V1 X false (Nat.zero_add _) f1 l1 g1 LsX.refl (fun _ j hj => absurd hj (Nat.not_lt_zero j)) (fun z => Bool.noConfusion z)⟩
    cases w with
    | false => exact w_X12_findLeft_92 ⟨fun _ => hk V2 X2 f2 l2 g2 (w0 rfl), fun z => absurd rfl z⟩
    | true => have := w1 rfl; omega
  | succ m ih =>
    intro V1 X hm0 f1 l1 g1
    refine w_X12_findLeft_92 ⟨fun z => absurd z (by decide), fun _ => left_pass (X0 := X) (by omega) hs hm hW6 hN6 (fun V2 X2 w f2 l2 g2 w0 w1 => ?_) (tcR R 2) 0 V1 X false (Nat.zero_add _) f1 l1 g1 LsX.refl (fun _ j hj => absurd hj (Nat.not_lt_zero j)) (fun z => Bool.noConfusion z)⟩
    cases w with
    | false => exact w_X12_findLeft_92 ⟨fun _ => hk V2 X2 f2 l2 g2 (w0 rfl), fun z => absurd rfl z⟩
    | true => exact ih V2 X2 (by have := w1 rfl; omega) f2 l2 g2
/-- the reference works out what is left, behind the class -/
theorem c_findLeft {K : VH → Prop} {V4 : VH} (h0 : 180 < d) (hW : WF V) (hq : q < 4) (hJ : JS B V) (hI : PbI V q t n R nt fa h x cs) (f4 : Fc V V4 wkS) (hk : ∀ V2 X, KnM V2 q t n R nt fa h x cs → LfM V2 R X → Gfp R nt fa h x X → clo R nt fa X → JS B V2 → K V2) : vMV E d M_X12_findLeft [sl 6 0, wi (nI q)] V4 K := by
  have hs := hI.1
  have n6 : ∀ f j, ¬ wkS 6 f j := fun f j y => absurd y.1 (by decide)
  refine w_X12_findLeft_0 (by omega) (know_go (by omega) hI f4 n6 (fun V2 f2 w mi2 e1 e2 => ?_))
  have hm : KnM V2 q t n R nt fa h x cs := ⟨mi2, w⟩
  have q5 := hm.q5
  have n12 : tcR R 1 ≤ 12 := hm.sq.2.2.1
  have hl6 : vL V2 6 = true := by rw [f2.l, f4.l]; exact hW.1.2.1
  have hW6 : SL (vL V2) 6 46 16 := ⟨hl6, by decide, rfl⟩
  have hN6 : vN V2 6 46 = 240 := by rw [f2.n, f4.n]; exact hW.2.1 6 hW.1.2.1 (46, 240) (by decide)
  have kn : ∀ {V1}, Fc V2 V1 f46 → KnM V1 q t n R nt fa h x cs := fun f1 => hm.fc hs f1 (fun f j y => by have := y.2; omega)
  have fin : ∀ V3 X, Fc V2 V3 f46 → LfM V3 R X → Gfp R nt fa h x X → clo R nt fa X → K V3 := fun V3 X f3 l3 g3 c3 => by
    have kn3 := kn f3
    have k : Fc V V3 (enK q) := ((f4.mono (fun a f j y => ⟨Or.inr (Or.inr ⟨y.1, by have := y.2; omega⟩), fun z => by have := y.2; omega, fun z => by have := y.1; omega⟩)).trans (f2.mono (fun a f j y => waS_ek y))).trans (f3.mono (fun a f j y => ⟨Or.inr (Or.inl ⟨y.1, by have := y.2; omega⟩), fun z => by have := y.1; omega, fun z => by have := y.2; omega⟩))
    refine hk V3 X kn3 l3 g3 c3 (hJ.ek hI hq k kn3.2 (by rw [f3.i (fun y => by have := y.2; omega)]; exact e1) (by rw [f3.i (fun y => by have := y.2; omega)]; exact e2) ⟨?_, hI.hnd.2⟩ kn3.hq).1
    rw [f3.i (fun y => by have := y.1; omega), f2.i (fun y => by rcases y with ⟨y, _⟩ | ⟨y, _⟩ <;> omega), f4.i (fun y => by have := y.1; omega)]
    exact hI.hnd.1
  have init : ∀ m v V1, v + m = tcR R 1 → Fc V2 V1 f46 → (∀ u k, u < v → k < szR R u → vI V1 6 46 (20 * u + k) = bI (ini R h x u k)) → vwp E d M_X12_findLeft 7 [some (sl 6 0), some (wi (nI q)), some (wi (nI v)), none, none, none] [] V1 (zv K) := by
    intro m
    induction m with
    | zero =>
      intro v V1 e f1 l1
      exact w_X12_findLeft_7 (by omega) (c_vars (kn f1).sq ⟨fun _ => left_go (by omega) hs hm hW6 hN6 fin _ V1 (ini R h x) (Nat.le_refl _) f1 (fun u k hu hk' => l1 u k (by omega) hk') ⟨LsX.refl, fun G h1 _ => h1⟩, fun z => absurd (nI_le (by omega) (by omega)) z⟩)
    | succ m ih =>
      intro v V1 e f1 l1
      have hv : v < tcR R 1 := by omega
      have s20 := ((kn f1).sz hv).2.1
      refine w_X12_findLeft_7 (by omega) (c_vars (kn f1).sq ⟨fun z => absurd z (nI_ge hv (by omega)), fun _ => ?_⟩)
      have inner : ∀ s k V3, k + s = szR R v → Fc V2 V3 f46 → (∀ u j, u < v ∨ u = v ∧ j < k → j < szR R u → vI V3 6 46 (20 * u + j) = bI (ini R h x u j)) → vwp E d M_X12_findLeft 18 [some (sl 6 0), some (wi (nI q)), some (wi (nI v)), some (wi (nI k)), none, none] [] V3 (zv K) := by
        intro s
        induction s with
        | zero =>
          intro k V3 e f3 l3
          refine w_X12_findLeft_18 ?_
          rw [i12, nI_clamp (show 12 * q + v < 2 ^ 31 by omega), ((kn f3).sz hv).1]
          refine ⟨vp_in_nI (by omega) (by decide), fun _ => ?_, fun z => absurd (nI_le (by omega) (by omega)) z⟩
          rw [nI_1]
          refine ih (v + 1) V3 (by omega) f3 (fun u j hu hj => l3 u j ?_ hj)
          by_cases c : u = v
          · subst c; omega
          · omega
        | succ s ih2 =>
          intro k V3 e f3 l3
          have hk' : k < szR R v := by omega
          have sl46 : SL (vL V3) 6 46 16 := by rw [f3.l]; exact hW6
          have n46 : vN V3 6 46 = 240 := by rw [f3.n]; exact hN6
          have e21 := (kn f3).pq v hv
          have e19 := (kn f3).hq.2 v hv
          have next : ∀ y : Bool, y = ini R h x v k → vwp E d M_X12_findLeft 77 [some (sl 6 0), some (wi (nI q)), some (wi (nI v)), some (wi (nI k)), none, none] [wi (bI y), wi (nI (20 * v + k)), sl 6 46] V3 (zv K) := fun y ey => by
            refine w_X12_findLeft_77 sl46 ?_
            rw [n46, nI_clamp (show 20 * v + k < 2 ^ 31 by omega), nz_b]
            refine ⟨vp_in_nI (by omega) (by decide), fun V4 e4 => ?_⟩
            rw [nI_1]
            refine ih2 (k + 1) V4 (by omega) (f3.trans (by rw [e4]; exact Fc_wrI ⟨rfl, Or.inl rfl⟩)) (fun u j hu hj => ?_)
            have := ((kn f3).sz (show u < tcR R 1 by omega)).2.1
            by_cases c : u = v ∧ j = k
            · obtain ⟨rfl, rfl⟩ := c
              rw [e4, wrI_at, ey]
            · rw [e4, wrI_ne (fun z => c (by have := z.2.2; omega))]; exact l3 u j (by omega) hj
          have dl2 : Dg (szR R) (tcR R 1) v h < szR R v := Dg_lt hm.sq.pos hv
          refine w_X12_findLeft_18 ?_
          rw [i12, nI_clamp (show 12 * q + v < 2 ^ 31 by omega), ((kn f3).sz hv).1, i20, e19]
          refine ⟨vp_in_nI (by omega) (by decide), fun z => absurd z (nI_ge hk' (by omega)), fun _ => ⟨vp_in_nI (by omega) (by decide), fun z => w_X12_findLeft_72 sl46 (next true ?_), fun z => ⟨vp_in_nI (by omega) (by decide), fun y => next false ?_, fun y => w_X12_findLeft_72 sl46 (next true ?_)⟩⟩⟩
          · unfold ini
            rw [e21.mp z, decide_eq_true hk']; rfl
          · unfold ini
            have : tst x v = true := by
              cases c : tst x v with
              | true => rfl
              | false => exact absurd (e21.mpr c) z
            rw [this, decide_eq_true hk', decide_eq_false (p := k = dgR R v h) (fun w => y (by rw [w]))]; rfl
          · unfold ini
            rw [decide_eq_true hk', decide_eq_true (p := k = dgR R v h) ((nI_eq (a := k) (b := Dg (szR R) (tcR R 1) v h) (by omega) (by omega)).mp y), Bool.or_true]; rfl
      exact inner (szR R v) 0 V1 (Nat.zero_add _) f1 (fun u j hu hj => l1 u j (by omega) hj)
  exact init (tcR R 1) 0 V2 (Nat.zero_add _) Fc.refl (fun u k hu => absurd hu (Nat.not_lt_zero u))
theorem reach_go {K : Int32 → VH → Prop} (h0 : 1 < d) (hm : KnM V q t n R nt fa h x cs) (hl : LfM V R X) (hk : K (nI (mX R X (tcR R 1))) V) : ∀ m v, v + m = tcR R 1 → vwp E d M_X12_reach 19 [some (sl 6 0), some (wi (nI q)), some (wi (nI (mX R X v))), some (wi (nI v)), none] [] V (zi K) := by
  have q5 := hm.q5
  have n12 : tcR R 1 ≤ 12 := hm.sq.2.2.1
  intro m
  induction m with
  | zero =>
    intro v e
    have : v = tcR R 1 := by omega
    subst this
    exact w_X12_reach_19 (by omega) (c_vars hm.sq ⟨fun _ => hk, fun z => absurd (nI_le (Nat.le_refl _) (by omega)) z⟩)
  | succ m ih =>
    intro v e
    have hv : v < tcR R 1 := by omega
    obtain ⟨z16, s20, _⟩ := hm.sz hv
    have i := ih (v + 1) (by omega)
    rw [mX_s] at i
    refine w_X12_reach_19 (by omega) (c_vars hm.sq ⟨fun z => absurd z (nI_ge hv (by omega)), fun _ => ?_⟩)
    have inner : ∀ s k, k + s = szR R v → vwp E d M_X12_reach 31 [some (sl 6 0), some (wi (nI q)), some (wi (nI (mX R X v + cnt (X v) k))), some (wi (nI v)), some (wi (nI k))] [] V (zi K) := by
      intro s
      induction s with
      | zero =>
        intro k e
        have ek : k = szR R v := by omega
        subst ek
        refine w_X12_reach_31 ?_
        rw [i12, nI_clamp (show 12 * q + v < 2 ^ 31 by omega), z16, nI_1]
        exact ⟨vp_in_nI (by omega) (by decide), fun _ => i, fun z => absurd (nI_le (Nat.le_refl _) (by omega)) z⟩
      | succ s ih2 =>
        intro k e
        have hk' : k < szR R v := by omega
        have i2 := ih2 (k + 1) (by omega)
        have es : cnt (X v) (k + 1) = cnt (X v) k + (if X v k = true then 1 else 0) := rfl
        rw [es] at i2
        refine w_X12_reach_31 ?_
        rw [i12, nI_clamp (show 12 * q + v < 2 ^ 31 by omega), z16, i20, nI_clamp (show 20 * v + k < 2 ^ 31 by omega), hl v k hv hk']
        refine ⟨vp_in_nI (by omega) (by decide), fun z => absurd z (nI_ge hk' (by omega)), fun _ => ⟨vp_in_nI (by omega) (by decide), fun z => w_X12_reach_68 ?_, fun z => w_X12_reach_68 ?_⟩⟩
        · rw [bI_0.mp z, if_neg (by decide), Nat.add_zero] at i2
          rw [nI_1, Int32.add_zero]; exact i2
        · rw [bI_1.mp z, if_pos rfl, ← Nat.add_assoc] at i2
          rw [nI_1, nI_1]; exact i2
    exact inner (szR R v) 0 (Nat.zero_add _)
end
section
variable {E : EE} {d x B B' : Nat}
theorem o_reach (h0 : 190 < d) (hB : B ≤ B') : VO_reach E d (JA x B) (JA x B') := fun V a0 hJ => liftI hJ (fun hW hS => by
  rcases hS.inQ a0 with ⟨hP, hM⟩ | ⟨q, t, n, R, nt, fa, h, px, cs, hq, rfl, hI⟩
  · exact nul_reach (J := fun V2 => WF V2 → JS B' V2) (by omega) hW hP hM (fun _ => hS.mono hB)
  · refine w_X11_reach_0 (by omega) (c_scoredW (by omega) hW hq hS hI (fun V1 hW1 hS1 hI1 s1 => ⟨fun _ => ⟨hI1.2.1.1.2, c_workOut (by omega) hW1 hI1 s1 (fun V4 L f4 l4 g4 c4 => ?_)⟩, fun z => absurd hI1.2.1.1.1 z⟩))
    have mi := hI1.mi.fc hI1.1 f4 (fun f j y => absurd y.1 (by decide))
    refine w_X12_reach_0 (by omega) (c_isProblem_y mi hq ⟨fun _ => c_findLeft (by omega) hW1 hq hS1 hI1 f4 (fun V2 X kn l2 g2 c2 hS2 => ?_), fun w => absurd w (by decide)⟩)
    rw [mX_ext (X := lfX L) (Y := X) (tcR R 1) (fun v k hv hk => gfp_eq g4 c4 g2 c2 hv hk)]
    exact reach_go (by omega) kn l2 ⟨rfl, fun _ => hS2.mono hB⟩ (tcR R 1) 0 (Nat.zero_add _))
theorem o_isLeft (h0 : 190 < d) (hB : B ≤ B') : VO_isLeft E d (JA x B) (JA x B') := fun V a0 a1 a2 hJ => liftI hJ (fun hW hS => by
  rcases hS.inQ a0 with ⟨hP, hM⟩ | ⟨q, t, n, R, nt, fa, h, px, cs, hq, rfl, hI⟩
  · exact nul_isLeft (J := fun V2 => WF V2 → JS B' V2) (by omega) hW hP hM (fun _ => hS.mono hB)
  · have v12 := hI.v12
    refine w_X11_isLeft_0 (by omega) (c_scoredW (by omega) hW hq hS hI (fun V1 hW1 hS1 hI1 s1 => ⟨fun z => absurd hI1.2.1.1.1 z, fun _ => ⟨hI1.2.1.1.2, c_isVar hI1.sp (fun hn => ⟨fun _ => ?_, fun z => absurd rfl z⟩) (fun u hu eu => ⟨fun z => absurd z (by decide), fun _ => ⟨fun z => ?_, fun z => ?_⟩⟩)⟩⟩))
    · exact w_X12_isLeft_0 (by omega) (c_isVarM (by omega) hI1.1 hI1.mi hq (fun _ => ⟨fun _ => ⟨rfl, fun _ => hS1.mono hB⟩, fun z => absurd rfl z⟩) (fun u hu e => absurd e (hn u hu)))
    · exact w_X12_isLeft_0 (by omega) (c_isVarM (by omega) hI1.1 hI1.mi hq (fun w => absurd eu (w u hu)) (fun _ _ _ => ⟨fun y => absurd y (by decide), fun _ => ⟨fun _ => ⟨rfl, fun _ => hS1.mono hB⟩, fun y => absurd z y⟩⟩))
    · subst eu
      obtain ⟨k, hk32, ek⟩ := nI_ofn z
      subst ek
      have s20 := (hI1.sp.2.2.2.2.2 u hu).2.2.1
      have z6 := (hI1.sp.2.2.2.2.2 u hu).1
      have z16 := (hI1.sq.2.2.2.2.2 u hu).1
      have q5 := hI1.sq.1
      rw [nI_clamp (show u < 2 ^ 31 by omega), z6]
      refine ⟨vp_in_nI (by omega) (by decide), fun y => ?_, fun y => ?_⟩
      · have hk : k < szR R u := Nat.lt_of_not_le (fun w => absurd (nI_le w hk32) (Int32.not_le.mpr y))
        refine c_workOut (by omega) hW1 hI1 s1 (fun V4 L f4 l4 g4 c4 => ?_)
        have mi := hI1.mi.fc hI1.1 f4 (fun f j y => absurd y.1 (by decide))
        have z16' : vI V4 6 16 (12 * q + u) = nI (szR R u) := by rw [f4.i (fun y => absurd y.1 (by decide))]; exact z16
        have ref : ∀ b : Bool, b = lfX L u k → vMI E d M_X12_isLeft [sl 6 0, wi (nI q), wi (nI u), wi (nI k)] V4 (fun r' V2 => bI b = r' ∧ (WF V2 → JS B' V2)) := fun b eb => by
          refine w_X12_isLeft_0 (by omega) (c_isVarM (by omega) hI1.1 mi hq (fun w => absurd rfl (w u hu)) (fun _ _ _ => ⟨fun w => absurd w (by decide), fun _ => ⟨fun w => absurd w z, fun _ => ?_⟩⟩))
          rw [i12, nI_clamp (show 12 * q + u < 2 ^ 31 by omega), z16']
          refine ⟨vp_in_nI (by omega) (by decide), fun _ => c_findLeft (by omega) hW1 hq hS1 hI1 f4 (fun V2 X kn l2 g2 c2 hS2 => ?_), fun w => absurd y w⟩
          rw [i20, nI_clamp (show 20 * u + k < 2 ^ 31 by omega), l2 u k hu hk, eb, gfp_eq g4 c4 g2 c2 hu hk]
          refine ⟨vp_in_nI (by omega) (by decide), ?_, rfl, fun _ => hS2.mono hB⟩
          cases X u k
          · exact Or.inl rfl
          · exact Or.inr rfl
        rw [(l4 u hu).1]
        exact ⟨vp_in_nI (by omega) (by decide), fun w => ref false ((tst_0 (L u) (v := k) (by omega)).mp w).symm, fun w => ref true ((tst_1 (L u) (v := k) (by omega)).mp w).symm⟩
      · refine w_X12_isLeft_0 (by omega) (c_isVarM (by omega) hI1.1 hI1.mi hq (fun w => absurd rfl (w u hu)) (fun _ _ _ => ⟨fun w => absurd w (by decide), fun _ => ⟨fun w => absurd w z, fun _ => ?_⟩⟩))
        rw [i12, nI_clamp (show 12 * q + u < 2 ^ 31 by omega), z16]
        exact ⟨vp_in_nI (by omega) (by decide), fun w => absurd w y, fun _ => ⟨rfl, fun _ => hS1.mono hB⟩⟩)
end
