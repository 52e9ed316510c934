/-! regret: both -/
section
variable {E : EE} {d : Nat} {V V' V1 V2 : VH} {q B : Nat} {t : Nat → Int32} {n : Nat} {R : List SR} {nt fa : Nat → Int32} {h h' : Nat} {x b : Int32} {cs : Nat → Int32} {U : Nat} {od : Nat → Int32} {FT : Nat → Nat → Int32}
theorem c_regret {l : Nat} {K : Int64 → VH → Prop} (h0 : 9 < d) (hW : WF V) (hI : PbI V q t n R nt fa h x cs) (hF : FtI V q R U od FT) (hl : l < 3) (hk0 : (∃ u, u < U ∧ lgU R nt FT h x l u (plR R) = none) → ∀ V', Fc V V' (csS q) → K (-9223372036854775808) V') (hk1 : (∀ u, u < U → lgU R nt FT h x l u (plR R) ≠ none) → ∀ V', Fc V V' (csS q) → K (moU R nt FT h x l U) V') : ∀ m u V1, u + m = U → Fc V V1 (csS q) → (∀ j, j < u → lgU R nt FT h x l j (plR R) ≠ none) → vwp E d M_X11_regret 36 [some (sl 0 28), some (wi (nI q)), some (wi (nI l)), some (sl (q + 1) 0), some (wj (moU R nt FT h x l u)), none, some (wi (nI u)), none, none] [] V1 (zj K) := by
  have u6 := hF.1
  have e11 : ∀ {V2}, Fc V V2 (csS q) → vI V2 (q + 1) 0 11 = nI U := fun f2 => by rw [f2.i (fun y => by have := y.2; omega)]; exact hF.2.1
  intro m
  induction m with
  | zero =>
    intro u V1 e f1 hn
    have : u = U := by omega
    subst this
    exact w_X11_regret_36 (by rw [f1.l]; exact hI.2.1.1) (by omega) ⟨fun _ => hk1 hn V1 f1, fun z => absurd (by rw [e11 f1]; exact nI_le (Nat.le_refl _) (by omega)) z⟩
  | succ m ih =>
    intro u V1 e f1 hn
    have hu : u < U := by omega
    refine w_X11_regret_36 (by rw [f1.l]; exact hI.2.1.1) (by omega) ⟨fun z => absurd z (by rw [e11 f1]; exact nI_ge hu (by omega)), fun _ => c_regretIn (by omega) hW hI hF f1 hu hl (fun c V2 f2 => ⟨fun z => absurd rfl z, fun _ => hk0 ⟨u, hu, c⟩ V2 f2⟩) (fun c V2 f2 => ⟨fun _ => ?_, fun z => absurd z (ovU_ne hI.1 c)⟩)⟩
    rw [nI_1, ← moU_s]
    refine ih (u + 1) V2 (by omega) f2 (fun j hj => ?_)
    by_cases y : j = u
    · rw [y]; exact c
    · exact hn j (by omega)
theorem regret_go {l : Nat} {K : Int64 → VH → Prop} (h0 : 180 < d) (hs : PrS t n R nt) (hm : MiQ V q t n R fa h x cs) (hl : l < 3) (u6 : U ≤ 6) (e29 : vI V 6 29 q = nI U) (hF : ∀ u, u < U → Bds (tcR R 0) (FT u) ∧ ∀ f, f < tcR R 0 → FT u f = tfv V q (some u) f)
    (hk0 : (∃ u, u < U ∧ lgU R nt FT h x l u (plR R) = none) → ∀ V', Fc V V' waS → vI V' 6 0 62 = -1 → vI V' 6 0 63 = vI V 6 33 q → MiQ V' q t n R fa h x cs → K (-9223372036854775808) V') (hk1 : (∀ u, u < U → lgU R nt FT h x l u (plR R) ≠ none) → ∀ V', Fc V V' waS → vI V' 6 0 62 = -1 → vI V' 6 0 63 = vI V 6 33 q → MiQ V' q t n R fa h x cs → K (moU R nt FT h x l U) V') :
    ∀ m u V1, u + m = U → (0 < u → vI V1 6 0 62 = -1 ∧ vI V1 6 0 63 = vI V 6 33 q) → 0 < U → Fc V V1 waS → (∀ j, j < u → lgU R nt FT h x l j (plR R) ≠ none) → vwp E d M_X12_regret 45 [some (sl 6 0), some (wi (nI q)), some (wi (nI l)), some (wi (nI h)), some (wj (moU R nt FT h x l u)), none, some (wi 1), some (wi (nI u)), none, none, none, none, none] [] V1 (zj K) := by
  have sq0 := hm.1.2.2.2.2.1
  have q5 := sq0.1
  have p20 : plR R ≤ 20000 := sq0.2.2.2.2.1
  have hh : h < plR R := hm.1.2.2.2.2.2.2.2.2.1.1
  have mi : ∀ {V1}, Fc V V1 waS → MiQ V1 q t n R fa h x cs := fun f1 => hm.fc hs f1 (fun f j y => by have := (waS_6 y).2; omega)
  have f29 : ∀ {V1}, Fc V V1 waS → vI V1 6 29 q = nI U := fun f1 => by rw [f1.i (fun y => by have := (waS_6 y).2; omega)]; exact e29
  have tf : ∀ {V1}, Fc V V1 waS → ∀ u f, tfv V1 q (some u) f = tfv V q (some u) f := fun {V1} f1 u f => by
    show (if vI V1 6 31 (16 * (6 * q + u) + f) = 0 then vI V1 6 15 (16 * q + f) else vI V1 6 32 (16 * (6 * q + u) + f)) = (if vI V 6 31 (16 * (6 * q + u) + f) = 0 then vI V 6 15 (16 * q + f) else vI V 6 32 (16 * (6 * q + u) + f))
    rw [f1.i (fun y => by have := (waS_6 y).2; omega), f1.i (fun y => by have := (waS_6 y).2; omega), f1.i (fun y => by have := (waS_6 y).2; omega)]
  intro m
  induction m with
  | zero =>
    intro u V1 e e1 U0 f1 hn
    have : u = U := by omega
    subst this
    refine w_X12_regret_45 (by omega) ⟨fun z => absurd z (by decide), fun _ => ?_⟩
    rw [nI_clamp (show q < 2 ^ 31 by omega), f29 f1]
    exact ⟨vp_in_nI q5 (by decide), fun _ => w_X12_regret_195 ⟨fun z => absurd z (by decide), fun _ => hk1 hn V1 f1 (e1 U0).1 (e1 U0).2 (mi f1)⟩, fun z => absurd (nI_le (Nat.le_refl _) (by omega)) z⟩
  | succ m ih =>
    intro u V1 e e1 U0 f1 hn
    have hu : u < U := by omega
    refine w_X12_regret_45 (by omega) ⟨fun z => absurd z (by decide), fun _ => ?_⟩
    rw [nI_clamp (show q < 2 ^ 31 by omega), f29 f1]
    refine ⟨vp_in_nI q5 (by decide), fun z => absurd z (nI_ge hu (by omega)), fun _ => c_weighU (FT := FT) (by omega) hs (mi f1) (by omega) (hF u hu).1 (fun f hf => by rw [tf f1]; exact (hF u hu).2 f hf) (fun V2 f2 w2 e62 e63 => ?_)⟩
    have f02 := f1.trans f2
    have e63' : vI V2 6 0 63 = vI V 6 33 q := by rw [e63, f1.i (fun y => by have := (waS_6 y).2; omega)]
    have m2 := mi f02
    have T2 : Tq V2 (plR R) (scQ R nt (FT u)) := ⟨p20, fun p hp l hl => (w2 p hp).2.2 l hl⟩
    have s45 : ∀ p, p < plR R → vJ V2 6 45 (20000 * l + p) = scQ R nt (FT u) p l := fun p hp => (w2 p hp).2.2 l hl
    have inner : ∀ s p (x8 : Int64), p + s = plR R → (∀ y, lgU R nt FT h x l u p = some y → x8 = y) → vwp E d M_X12_regret 77 [some (sl 6 0), some (wi (nI q)), some (wi (nI l)), some (wi (nI h)), some (wj (moU R nt FT h x l u)), none, some (wi 1), some (wi (nI u)), some (wj x8), none, some (wi (match lgU R nt FT h x l u p with | none => 0 | some _ => 1)), some (wi (nI p)), none] [] V2 (zj K) := by
      intro s
      induction s with
      | zero =>
        intro p x8 e hy
        have ep : p = plR R := by omega
        subst ep
        refine w_X12_regret_77 (by omega) ?_
        rw [nI_clamp (show q < 2 ^ 31 by omega), m2.1.2.2.2.2.1.2.2.2.1, i20k, nI_clamp (show 20000 * l + h < 2 ^ 31 by omega), s45 h hh]
        refine ⟨vp_in_nI q5 (by decide), fun _ => ⟨vp_in_nI (by omega) (by decide), ?_⟩, fun z => absurd (nI_le (b := plR R) (Nat.le_refl _) (by omega)) z⟩
        cases o : lgU R nt FT h x l u (plR R) with
        | none =>
          have nil : ∀ y0 y8 y11 : Int64, vwp E d M_X12_regret 187 [some (sl 6 0), some (wi (nI q)), some (wi (nI l)), some (wi (nI h)), some (wj (moU R nt FT h x l u)), none, some (wi 0), some (wi (nI u)), some (wj y8), none, some (wi 0), some (wj y11), none] [wj y0] V2 (zj K) := fun y0 y8 y11 => w_X12_regret_187 (w_X12_regret_45 (by omega) ⟨fun _ => w_X12_regret_195 ⟨fun _ => hk0 ⟨u, hu, o⟩ V2 f02 e62 e63' m2, fun z => absurd rfl z⟩, fun z => absurd rfl z⟩)
          exact ⟨fun _ => w_X12_regret_180 (nil _ _ _), fun _ => ⟨fun _ => nil _ _ _, fun _ => w_X12_regret_180 (nil _ _ _)⟩⟩
        | some y =>
          have ex : x8 = y := hy y o
          have eo : ovU R nt FT h x l u = scQ R nt (FT u) h l - y := by unfold ovU; rw [o]; rfl
          rw [ex, ← eo]
          have go : ∀ y0 y8 y11 : Int64, y0 = moU R nt FT h x l (u + 1) → vwp E d M_X12_regret 187 [some (sl 6 0), some (wi (nI q)), some (wi (nI l)), some (wi (nI h)), some (wj (moU R nt FT h x l u)), none, some (wi 1), some (wi (nI u)), some (wj y8), none, some (wi 1), some (wj y11), none] [wj y0] V2 (zj K) := fun y0 y8 y11 e0 => by
            refine w_X12_regret_187 ?_
            rw [nI_1, e0]
            refine ih (u + 1) V2 (by omega) (fun _ => ⟨e62, e63'⟩) U0 f02 (fun j hj => ?_)
            by_cases c : j = u
            · rw [c, o]; simp
            · exact hn j (by omega)
          refine ⟨fun z => w_X12_regret_180 (go _ _ _ ?_), fun z => ⟨fun w => go _ _ _ ?_, fun w => w_X12_regret_180 (go _ _ _ ?_)⟩⟩
          · have u0 : u = 0 := (nI_eq (b := 0) (by omega) (by decide)).mp z
            rw [moU_s, u0]
            unfold lmax
            rw [moU, if_neg (fun w => ?_)]
            have := Int64.lt_iff_toInt_lt.mp w
            have b : -9223372036854775808 ≤ (ovU R nt FT h x l 0).toInt := Int64.le_toInt _
            rw [show (-9223372036854775808 : Int64).toInt = -9223372036854775808 by decide] at this
            omega
          · rw [moU_s]
            unfold lmax
            by_cases c : ovU R nt FT h x l u < moU R nt FT h x l u
            · rw [if_pos c]
            · rw [if_neg c]
              exact Int64.le_antisymm (Int64.not_lt.mp c) w
          · rw [moU_s]
            unfold lmax
            rw [if_neg (fun c => w (Int64.le_of_lt c))]
      | succ s ih2 =>
        intro p x8 e hy
        have hp : p < plR R := by omega
        have rs := rng_flt_s (goo (szR R) (tcR R 1) (tst x) h (scQ R nt (FT u))) p
        have iN := fun x8' y1 => ih2 (p + 1) x8' (by omega) y1
        unfold lgU at iN
        rw [rs] at iN
        refine w_X12_regret_77 (by omega) ?_
        rw [nI_clamp (show q < 2 ^ 31 by omega), m2.1.2.2.2.2.1.2.2.2.1, i20k, i20k, nI_clamp (show 20000 * l + p < 2 ^ 31 by omega)]
        refine ⟨vp_in_nI q5 (by decide), fun z => absurd z (nI_ge (b := plR R) hp (by omega)), fun _ => c_isGood (sc := scQ R nt (FT u)) (by omega) m2.1.2.2.2.2.1 m2.1.2.2.2.2.2.2.2.2.1 m2.1.2.2.2.2.2.2.2.2.2.1 T2 hp ⟨fun z => w_X12_regret_140 ?_, fun z => ?_⟩⟩
        · rw [if_neg (by rw [show goo (szR R) (tcR R 1) (tst x) h (scQ R nt (FT u)) p = false from bI_0.mp z]; decide)] at iN
          rw [nI_1]
          exact iN x8 hy
        · rw [if_pos (show goo (szR R) (tcR R 1) (tst x) h (scQ R nt (FT u)) p = true from bI_1.mp z), List.foldl_append] at iN
          have take : ∀ y8 : Int64, ∀ a : Int32, lrT (fun p => scQ R nt (FT u) p l) (lgU R nt FT h x l u p) p = some (scQ R nt (FT u) p l) → vwp E d M_X12_regret 122 [some (sl 6 0), some (wi (nI q)), some (wi (nI l)), some (wi (nI h)), some (wj (moU R nt FT h x l u)), none, some (wi 1), some (wi (nI u)), some (wj y8), none, some (wi a), some (wi (nI p)), none] [] V2 (zj K) := fun y8 a et => by
            refine w_X12_regret_122 ?_
            rw [i20k, nI_clamp (show 20000 * l + p < 2 ^ 31 by omega), s45 p hp]
            refine ⟨vp_in_nI (by omega) (by decide), w_X12_regret_140 ?_⟩
            rw [nI_1]
            have i2 := iN (scQ R nt (FT u) p l)
            have ef : List.foldl (lrT (fun p => scQ R nt (FT u) p l)) (lgU R nt FT h x l u p) [p] = some (scQ R nt (FT u) p l) := et
            rw [ef] at i2
            exact i2 (fun y ey => Option.some.inj ey)
          cases o : lgU R nt FT h x l u p with
          | none => exact ⟨fun _ => take _ _ (by rw [o]; rfl), fun w => absurd rfl w⟩
          | some y =>
            have ex : x8 = y := hy y o
            refine ⟨fun w => absurd w (show ¬ (1 : Int32) = 0 by decide), fun _ => ⟨vp_in_nI (by omega) (by decide), fun w => w_X12_regret_140 ?_, fun w => take _ _ ?_⟩⟩
            · rw [s45 p hp, ex] at w
              rw [nI_1]
              have i2 := iN x8
              have ef : List.foldl (lrT (fun p => scQ R nt (FT u) p l)) (lgU R nt FT h x l u p) [p] = some y := by
                rw [o]
                show (if y ≤ scQ R nt (FT u) p l then some y else some (scQ R nt (FT u) p l)) = some y
                rw [if_pos w]
              rw [ef] at i2
              exact i2 (fun y' ey => by rw [← Option.some.inj ey]; exact ex)
            · rw [s45 p hp, ex] at w
              rw [o]
              show (if y ≤ scQ R nt (FT u) p l then some y else some (scQ R nt (FT u) p l)) = _
              rw [if_neg w]
    exact inner (plR R) 0 0 (Nat.zero_add _) (fun y z => absurd z (by simp [lgU]))
end
section
variable {E : EE} {d x B B' : Nat}
theorem o_regret (h0 : 190 < d) (hB : B ≤ B') : VO_regret E d (JA x B) (JA x B') := fun V a0 a1 hJ => liftJ hJ (fun hW hS => by
  rcases hS.inQ a0 with ⟨hP, hM⟩ | ⟨q, t, n, R, nt, fa, h, px, cs, hq, rfl, hI⟩
  · exact nul_regret (J := fun V2 => WF V2 → JS B' V2) (by omega) hW hP hM (fun _ => hS.mono hB)
  · obtain ⟨U, od, FT, hF⟩ := hI.fti
    obtain ⟨u6, e11, e29, hu⟩ := id hF
    have p20 := hI.p20
    refine w_X11_regret_0 (by omega) (c_known_y hI hq ⟨fun z => absurd hI.2.1.1.1 z, fun _ => ⟨hI.2.1.1.2, ?_⟩⟩)
    rw [e11]
    refine ⟨fun z => ?_, fun z => c_lvlC (fun hn => ⟨fun w => absurd rfl w, fun _ => ?_⟩) (fun l hl el => ⟨fun _ => ?_, fun w => absurd w (by decide)⟩)⟩
    · refine w_X12_regret_0 (by omega) (c_isProblem_y hI.mi hq ⟨fun w => absurd w (by decide), fun _ => c_lvlM (fun _ => ⟨fun _ => ⟨rfl, fun _ => hS.mono hB⟩, fun w => absurd rfl w⟩) (fun l hl el => ⟨fun w => absurd w (by decide), fun _ => ?_⟩)⟩)
      rw [nI_clamp (show q < 2 ^ 31 by omega), e29]
      exact ⟨vp_in_nI (by omega) (by decide), fun w => absurd z w, fun _ => ⟨rfl, fun _ => hS.mono hB⟩⟩
    · exact w_X12_regret_0 (by omega) (c_isProblem_y hI.mi hq ⟨fun w => absurd w (by decide), fun _ => c_lvlM (fun _ => ⟨fun _ => ⟨rfl, fun _ => hS.mono hB⟩, fun w => absurd rfl w⟩) (fun l hl el => absurd el (hn l hl))⟩)
    · subst el
      have U0 : 0 < U := by
        by_cases c : U = 0
        · rw [c] at z; exact absurd rfl z
        · omega
      have ref : ∀ (V4 : VH) (r : Int64), Fc V V4 (csS q) → ((∃ u, u < U ∧ lgU R nt FT h px l u (plR R) = none) → r = -9223372036854775808) → ((∀ u, u < U → lgU R nt FT h px l u (plR R) ≠ none) → r = moU R nt FT h px l U) → vMJ E d M_X12_regret [sl 6 0, wi (nI q), wi (nI l)] V4 (fun r' V2 => r = r' ∧ (WF V2 → JS B' V2)) := fun V4 r f4 c0 c1 => by
        have n6 := csS_6 hI
        have mi := hI.mi.fc hI.1 f4 (fun f j y => absurd y (n6 f j))
        refine w_X12_regret_0 (by omega) (c_isProblem_y mi hq ⟨fun w => absurd w (by decide), fun _ => c_lvlM (fun w => absurd rfl (w l hl)) (fun _ _ _ => ⟨fun w => absurd w (by decide), fun _ => ?_⟩)⟩)
        rw [nI_clamp (show q < 2 ^ 31 by omega), f4.i (n6 _ _), e29]
        have tf4 : ∀ u f, tfv V4 q (some u) f = tfv V q (some u) f := fun u f => by
          show (if vI V4 6 31 (16 * (6 * q + u) + f) = 0 then vI V4 6 15 (16 * q + f) else vI V4 6 32 (16 * (6 * q + u) + f)) = (if vI V 6 31 (16 * (6 * q + u) + f) = 0 then vI V 6 15 (16 * q + f) else vI V 6 32 (16 * (6 * q + u) + f))
          rw [f4.i (n6 _ _), f4.i (n6 _ _), f4.i (n6 _ _)]
        have fin : ∀ V5, Fc V4 V5 waS → vI V5 6 0 62 = -1 → vI V5 6 0 63 = vI V4 6 33 q → MiQ V5 q t n R fa h px cs → JS B' V5 := fun V5 f5 e1 e2 m5 => by
          refine (hS.nk hI hq ((f4.mono (fun a f j y => csS_ek y)).trans (f5.mono (fun a f j y => waS_ek y))) e1 (Or.inl (by rw [e2, f4.i (n6 _ _)])) ⟨?_, hI.hnd.2⟩ m5.1.2.2.2.2.2.2.2.2.1).mono hB
          rw [f5.i (fun y => by have := (waS_6 y).1; omega), f4.i (fun y => by have := y.2; omega)]
          exact hI.hnd.1
        refine ⟨vp_in_nI (by omega) (by decide), fun _ => c_handOf (by omega) mi.1.2.2.2.2.1 mi.1.2.2.2.2.2.2.2.2.1 ?_, fun w => absurd w z⟩
        exact regret_go (U := U) (FT := FT) (by omega) hI.1 mi hl u6 (by rw [f4.i (n6 _ _)]; exact e29) (fun u hu' => ⟨(hu u hu').2.2.2.1, fun f hf => by rw [tf4]; exact ((hu u hu').2.2.2.2 f hf).1⟩) (fun c V5 f5 e1 e2 m5 => ⟨c0 c, fun _ => fin V5 f5 e1 e2 m5⟩) (fun c V5 f5 e1 e2 m5 => ⟨c1 c, fun _ => fin V5 f5 e1 e2 m5⟩) U 0 V4 (Nat.zero_add _) (fun w => absurd w (Nat.lt_irrefl 0)) U0 Fc.refl (fun j hj => absurd hj (Nat.not_lt_zero j))
      exact c_regret (by omega) hW hI hF hl (fun c V4 f4 => ref V4 _ f4 (fun _ => rfl) (fun c' => by obtain ⟨u, hu', e⟩ := c; exact absurd e (c' u hu'))) (fun c V4 f4 => ref V4 _ f4 (fun c' => by obtain ⟨u, hu', e⟩ := c'; exact absurd e (c u hu')) (fun _ => rfl)) U 0 V (Nat.zero_add _) Fc.refl (fun j hj => absurd hj (Nat.not_lt_zero j)))
end
