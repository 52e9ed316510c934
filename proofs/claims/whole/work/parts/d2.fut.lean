/-! futures: robust, expected, regret -/
/-- sums of odds times scores -/
def sOd (od : Nat → Int32) (S : Nat → Int64) : Nat → Int64
  | 0 => 0
  | u + 1 => sOd od S u + Int32.toInt64 (od u) * S u
theorem sOd_s {od : Nat → Int32} {S : Nat → Int64} {u : Nat} : sOd od S (u + 1) = sOd od S u + Int32.toInt64 (od u) * S u := by rw [sOd]
/-- a problem's futures: how many, their odds, their facts -/
def FtI (V : VH) (q : Nat) (R : List SR) (U : Nat) (od : Nat → Int32) (FT : Nat → Nat → Int32) : Prop := U ≤ 6 ∧ vI V (q + 1) 0 11 = nI U ∧ vI V 6 29 q = nI U ∧ ∀ u, u < U → vI V (q + 1) 29 u = od u ∧ vI V 6 30 (6 * q + u) = od u ∧ (∃ o, od u = nI o ∧ 1 ≤ o ∧ o ≤ 100) ∧ Bds (tcR R 0) (FT u) ∧ ∀ f, f < tcR R 0 → FT u f = tfv V q (some u) f ∧ FT u f = if tst (vI V (q + 1) 25 u) f = true then vI V (q + 1) 26 (16 * u + f) else vI V (q + 1) 23 f
section
variable {E : EE} {d : Nat} {V V' V1 V2 : VH} {q B : Nat} {t : Nat → Int32} {n : Nat} {R : List SR} {nt fa : Nat → Int32} {h h' : Nat} {x b : Int32} {cs : Nat → Int32} {U : Nat} {od : Nat → Int32} {FT : Nat → Nat → Int32}
theorem PbI.fti (hI : PbI V q t n R nt fa h x cs) : ∃ U od FT, FtI V q R U od FT := by
  obtain ⟨u, u6, a1, a2, a3⟩ := hI.2.2.2.2.1
  have fb := hI.bd
  refine ⟨u, fun j => vI V (q + 1) 29 j, fun j f => tfv V q (some j) f, u6, a1, a2, fun j hj => ?_⟩
  obtain ⟨⟨o, o1, o2, o3, o4⟩, hf⟩ := a3 j hj
  have m15 : ∀ f, f < tcR R 0 → vI V 6 15 (16 * q + f) = fa f := hI.2.2.1.2.2.2.2.2.2.2.1
  have key : ∀ f, f < tcR R 0 → tfv V q (some j) f = (if tst (vI V (q + 1) 25 j) f = true then vI V (q + 1) 26 (16 * j + f) else vI V (q + 1) 23 f) ∧ Bd (tfv V q (some j) f) := fun f hf' => by
    obtain ⟨b1, b2⟩ := hf f hf'
    show (if vI V 6 31 (16 * (6 * q + j) + f) = 0 then vI V 6 15 (16 * q + f) else vI V 6 32 (16 * (6 * q + j) + f)) = _ ∧ Bd (if vI V 6 31 (16 * (6 * q + j) + f) = 0 then vI V 6 15 (16 * q + f) else vI V 6 32 (16 * (6 * q + j) + f))
    rw [show 16 * (6 * q + j) + f = 96 * q + (16 * j + f) by omega]
    by_cases c : vI V 6 31 (96 * q + (16 * j + f)) = 0
    · rw [if_pos c, if_neg (fun z => (b1.mp z) c), m15 f hf', fb.1 f hf']
      exact ⟨rfl, fb.2 f hf'⟩
    · rw [if_neg c, if_pos (b1.mpr c), (b2 (b1.mpr c)).1]
      exact ⟨rfl, (b2 (b1.mpr c)).2⟩
  exact ⟨rfl, o2.trans o1.symm, ⟨o, o1, o3, o4⟩, fun f hf' => (key f hf').2, fun f hf' => ⟨rfl, (key f hf').1⟩⟩
theorem c_factsIn {u : Nat} {K : Nat → Nat → VH → Prop} (hI : PbI V q t n R nt fa h x cs) (hF : FtI V q R U od FT) (hW : WF V) (f1 : Fc V V1 (csS q)) (hu : u < U) (hk : ∀ V2, Fc V V2 (csS q) → Fc V1 V2 (fun a f _ => a = q + 1 ∧ f = 30) → (∀ f, f < tcR R 0 → vI V2 (q + 1) 30 f = FT u f) → K (q + 1) 30 V2) : vMR E d M_X3_factsIn [sl (q + 1) 0, wi (nI u)] V1 K := by
  have n16 : tcR R 0 ≤ 16 := hI.1.2.2.2.1.1 0 (by decide)
  have u6 := hF.1
  have n30 : vN V (q + 1) 30 = 16 := vnP hW hI.2.1.1 (by decide)
  have go : ∀ m f V2, f + m = tcR R 0 → Fc V V2 (csS q) → Fc V1 V2 (fun a f _ => a = q + 1 ∧ f = 30) → (∀ j, j < f → vI V2 (q + 1) 30 j = FT u j) → vwp E d M_X3_factsIn 2 [some (sl (q + 1) 0), some (wi (nI u)), some (wi (nI f)), none] [] V2 (zr K) := by
    intro m
    induction m with
    | zero =>
      intro f V2 e f2 g2 r2
      have hg2 : PG (vL V2) (q + 1) := by rw [f2.l]; exact hI.2.1.1
      have n4 : vI V2 (q + 1) 4 (Int32.toNatClampNeg 0) = nI (tcR R 0) := by
        rw [show Int32.toNatClampNeg 0 = 0 from rfl, f2.i (fun y => by have := y.2; omega)]
        exact (hI.2.1.2.2.1.1 0 (by decide)).1
      refine w_X3_factsIn_2 hg2 ⟨fun _ => hk V2 f2 g2 (fun j hj => r2 j (by omega)), fun z => absurd (by rw [n4]; exact nI_le (by omega) (by omega)) z⟩
    | succ m ih =>
      intro f V2 e f2 g2 r2
      have hf : f < tcR R 0 := by omega
      have hg2 : PG (vL V2) (q + 1) := by rw [f2.l]; exact hI.2.1.1
      have n4 : vI V2 (q + 1) 4 (Int32.toNatClampNeg 0) = nI (tcR R 0) := by
        rw [show Int32.toNatClampNeg 0 = 0 from rfl, f2.i (fun y => by have := y.2; omega)]
        exact (hI.2.1.2.2.1.1 0 (by decide)).1
      obtain ⟨_, _, _, _, hv⟩ := hF.2.2.2 u hu
      have ef := (hv f hf).2
      have e25 : vI V2 (q + 1) 25 u = vI V (q + 1) 25 u := f2.i (fun y => by have := y.2; omega)
      have e26 : vI V2 (q + 1) 26 (16 * u + f) = vI V (q + 1) 26 (16 * u + f) := f2.i (fun y => by have := y.2; omega)
      have e23 : vI V2 (q + 1) 23 f = vI V (q + 1) 23 f := f2.i (fun y => by have := y.2; omega)
      have next : ∀ (y t0 : Int32), y = FT u f → vwp E d M_X3_factsIn 60 [some (sl (q + 1) 0), some (wi (nI u)), some (wi (nI f)), some (wi t0)] [wi y, wi (nI f), sl (q + 1) 30] V2 (zr K) := fun y t0 ey => by
        refine w_X3_factsIn_60 hg2 (sP_30 hg2) ?_
        rw [f2.n, n30, nI_clamp (show f < 2 ^ 31 by omega)]
        refine ⟨vp_in_nI (by omega) (by decide), fun V4 e4 => ?_⟩
        rw [nI_1]
        refine ih (f + 1) V4 (by omega) (f2.trans (by rw [e4]; exact Fc_wrI ⟨rfl, by omega⟩)) (g2.trans (by rw [e4]; exact Fc_wrI ⟨rfl, rfl⟩)) (fun j hj => ?_)
        by_cases c : j = f
        · rw [c, e4, wrI_at, ey]
        · rw [e4, wrI_ne (fun z => c z.2.2)]; exact r2 j (by omega)
      have e16 : nI u * 16 + nI f = nI (16 * u + f) := by rw [show (16 : Int32) = nI 16 from rfl, nI_mul, nI_add, Nat.mul_comm]
      refine w_X3_factsIn_2 hg2 ⟨fun z => absurd z (by rw [n4]; exact nI_ge hf (by omega)), fun _ => ⟨vp_in_nI (by omega) (by decide), ?_⟩⟩
      rw [nI_clamp (show u < 2 ^ 31 by omega), e25]
      refine ⟨fun z => w_X3_factsIn_30 hg2 ⟨fun _ => ⟨vp_in_nI (by omega) (by decide), ?_⟩, fun w => absurd rfl w⟩, fun z => w_X3_factsIn_30 hg2 ⟨fun w => absurd w (by decide), fun _ => ?_⟩⟩
      · rw [nI_clamp (show f < 2 ^ 31 by omega), e23]
        refine next _ _ ?_
        rw [ef, if_neg (by rw [(tst_0 _ (by omega)).mp z]; decide)]
      · rw [e16, nI_clamp (show 16 * u + f < 2 ^ 31 by omega), e26]
        refine ⟨vp_in_nI (by omega) (by decide), next _ _ ?_⟩
        rw [ef, if_pos ((tst_1 _ (by omega)).mp z)]
  exact w_X3_factsIn_0 (by rw [f1.l]; exact hI.2.1.1) (go (tcR R 0) 0 V1 (Nat.zero_add _) f1 Fc.refl (fun j hj => absurd hj (Nat.not_lt_zero j)))
/-- the class weighs a plan with facts F in row 30 -/
theorem c_weighF {p : Nat} {F : Nat → Int32} {K : Int32 → VH → Prop} (h0 : 5 < d) (hW : WF V) (hI : PbI V q t n R nt fa h x cs) (f1 : Fc V V1 (csS q)) (r1 : ∀ f, f < tcR R 0 → vI V1 (q + 1) 30 f = F f) (hp : p < 2 ^ 31) (hk : ∀ V2, Fc V V2 (csS q) → Fc V1 V2 (fun a f j => a = q + 1 ∧ (f = 9 ∧ j = 13 ∨ f = 17 ∨ f = 18 ∨ f = 27)) → (∀ l, l < 3 → vJ V2 (q + 1) 27 l = scQ R nt F p l) → K (stQ R nt F p) V2) : vMI E d M_X2_weighAll [sl (q + 1) 9, sl (q + 1) 5, wi (nI p), sl (q + 1) 30, sl (q + 1) 27, wi 0] V1 K := by
  have hI1 := hI.csq f1
  have hg1 := hI1.2.1.1
  have n27 : vN V1 (q + 1) 27 = 3 := by rw [f1.n]; exact vnP hW hI.2.1.1 (by decide)
  have n30 : vN V1 (q + 1) 30 = 16 := by rw [f1.n]; exact vnP hW hI.2.1.1 (by decide)
  refine c_weighAll (i0 := 0) (by omega) hI1.sp (hI1.2.1.rl hI1.1 (by omega)) hp (sP_30 hg1) (sP_27 hg1) n30 (fun z => by omega) (by rw [n27]; decide) (by rw [n27]; decide) (fun z => by omega) (fun z => by omega) (fun V2 f2 s2 e2 => ?_)
  have g2 : Fc V1 V2 (fun a f j => a = q + 1 ∧ (f = 9 ∧ j = 13 ∨ f = 17 ∨ f = 18 ∨ f = 27)) := f2.mono (fun a f j y => by rcases y with ⟨y1, y2⟩ | ⟨y1, y2, _⟩; exact ⟨y1, by omega⟩; exact ⟨y1, by omega⟩)
  have eD : ∀ r, DR R nt r (vI V1 (q + 1) 30) (vI V2 (q + 1) 18) = DR R nt r F (sn (szR R) (tcR R 1) (vlR R) p) := fun r => PrS.dx r _ _ _ _ r1 (fun v hv => s2 v hv)
  have eA : ∀ a, DRa R nt a (vI V1 (q + 1) 30) (vI V2 (q + 1) 18) = DRa R nt a F (sn (szR R) (tcR R 1) (vlR R) p) := fun a => PrS.dxa a _ _ _ _ r1 (fun v hv => s2 v hv)
  rw [wst_ext (fa' := F) (se' := sn (szR R) (tcR R 1) (vlR R) p) _ (fun r _ => eD r)]
  refine hk V2 (f1.trans (g2.mono (fun a f j y => ⟨y.1, by have := y.2; omega⟩))) g2 (fun l hl => ?_)
  have e3 := e2 l hl
  rw [Nat.zero_add, wsR_ext (fa' := F) (se' := sn (szR R) (tcR R 1) (vlR R) p) _ (fun r _ => eD r), wsA_ext (fa' := F) (se' := sn (szR R) (tcR R 1) (vlR R) p) _ (fun a _ => eA a)] at e3
  exact e3
/-- sums over u futures -/
abbrev smQ (R : List SR) (nt : Nat → Int32) (od : Nat → Int32) (FT : Nat → Nat → Int32) (u p l : Nat) : Int64 := sOd od (fun j => scQ R nt (FT j) p l) u
def alF (R : List SR) (nt : Nat → Int32) (FT : Nat → Nat → Int32) (u p : Nat) : Bool := (List.range u).all (fun j => decide (scQ R nt (FT j) p 0 = 0))
theorem alF_s {u p : Nat} : alF R nt FT (u + 1) p = (alF R nt FT u p && decide (scQ R nt (FT u) p 0 = 0)) := by
  unfold alF
  rw [List.range_succ, List.all_append]
  congr 1
  exact Bool.and_true _
theorem smQ_0 {u p : Nat} (h : alF R nt FT u p = true) : smQ R nt od FT u p 0 = 0 := by
  induction u with
  | zero => rfl
  | succ u ih =>
    rw [alF_s, Bool.and_eq_true] at h
    show sOd od (fun j => scQ R nt (FT j) p 0) (u + 1) = 0
    have z : scQ R nt (FT u) p 0 = 0 := of_decide_eq_true h.2
    have i : sOd od (fun j => scQ R nt (FT j) p 0) u = 0 := ih h.1
    rw [sOd_s, i]
    show 0 + Int32.toInt64 (od u) * scQ R nt (FT u) p 0 = 0
    rw [z, Int64.mul_zero]; rfl
theorem c_sumF {p : Nat} {K : Int32 → VH → Prop} (h0 : 6 < d) (hW : WF V) (hI : PbI V q t n R nt fa h x cs) (hF : FtI V q R U od FT) (f1 : Fc V V1 (csS q)) (hp : p < 2 ^ 31) (hk : ∀ V2, Fc V V2 (csS q) → (∀ l, vJ V2 (q + 1) 31 l = vJ V1 (q + 1) 31 l) → (∀ l, l < 3 → vJ V2 (q + 1) 28 l = smQ R nt od FT U p l) → K (bI (alF R nt FT U p)) V2) : vMI E d M_X3_sumOverFutures [sl (q + 1) 0, wi (nI p)] V1 K := by
  have u6 := hF.1
  have hs := hI.1
  have n28 : vN V (q + 1) 28 = 3 := vnP hW hI.2.1.1 (by decide)
  have hg : ∀ {V2}, Fc V V2 (csS q) → PG (vL V2) (q + 1) := fun f2 => by rw [f2.l]; exact hI.2.1.1
  have e11 : ∀ {V2}, Fc V V2 (csS q) → vI V2 (q + 1) 0 11 = nI U := fun f2 => by rw [f2.i (fun y => by have := y.2; omega)]; exact hF.2.1
  have go : ∀ m u V2, u + m = U → Fc V V2 (csS q) → (∀ l, vJ V2 (q + 1) 31 l = vJ V1 (q + 1) 31 l) → (∀ l, l < 3 → vJ V2 (q + 1) 28 l = smQ R nt od FT u p l) → vwp E d M_X3_sumOverFutures 12 [some (sl (q + 1) 0), some (wi (nI p)), some (wi (bI (alF R nt FT u p))), some (wi (nI u)), none, none] [] V2 (zi K) := by
    intro m
    induction m with
    | zero =>
      intro u V2 e f2 k2 s2
      have eu : u = U := by omega
      subst eu
      refine w_X3_sumOverFutures_12 (hg f2) (by omega) ⟨fun _ => ⟨?_, hk V2 f2 k2 s2⟩, fun z => absurd (by rw [e11 f2]; exact nI_le (Nat.le_refl _) (by omega)) z⟩
      cases alF R nt FT u p
      · exact Or.inl rfl
      · exact Or.inr rfl
    | succ m ih =>
      intro u V2 e f2 k2 s2
      have hu : u < U := by omega
      obtain ⟨o1, o2, ⟨o, eo, _, _⟩, bF, _⟩ := hF.2.2.2 u hu
      refine w_X3_sumOverFutures_12 (hg f2) (by omega) ⟨fun z => absurd z (by rw [e11 f2]; exact nI_ge hu (by omega)), fun _ => c_factsIn hI hF hW f2 hu (fun V3 f3 g3 r3 => ⟨⟨rfl, rfl⟩, c_weighF (by omega) hW hI f3 r3 hp (fun V4 f4 g4 j4 => ?_)⟩)⟩
      have hd4 : vI V4 (q + 1) 9 0 = vI V (q + 1) 9 0 := f4.i (fun y => by have := y.2; omega)
      have fs := fea_sc E hs bF hI.2.1.2.2.2.2.1.1 p
      have k28 : ∀ l, vJ V4 (q + 1) 28 l = vJ V2 (q + 1) 28 l := fun l => by rw [g4.j (fun y => by have := y.2; omega), g3.j (fun y => by have := y.2; omega)]
      have k31 : ∀ l, vJ V4 (q + 1) 31 l = vJ V1 (q + 1) 31 l := fun l => by rw [g4.j (fun y => by have := y.2; omega), g3.j (fun y => by have := y.2; omega)]; exact k2 l
      have add : ∀ (w : Bool) (y4 : Int32), w = alF R nt FT (u + 1) p → vwp E d M_X3_sumOverFutures 59 [some (sl (q + 1) 0), some (wi (nI p)), some (wi (bI w)), some (wi (nI u)), some (wi y4), none] [] V4 (zi K) := fun w y4 ew => by
        have inner : ∀ s l V5, l + s = 3 → Fc V V5 (csS q) → (∀ j, vJ V5 (q + 1) 31 j = vJ V1 (q + 1) 31 j) → (∀ j, j < 3 → vJ V5 (q + 1) 27 j = scQ R nt (FT u) p j) → (∀ j, j < 3 → vJ V5 (q + 1) 28 j = if j < l then smQ R nt od FT (u + 1) p j else smQ R nt od FT u p j) → vwp E d M_X3_sumOverFutures 62 [some (sl (q + 1) 0), some (wi (nI p)), some (wi (bI w)), some (wi (nI u)), some (wi y4), some (wi (nI l))] [] V5 (zi K) := by
          intro s
          induction s with
          | zero =>
            intro l V5 e f5 k5 j5 s5
            have el : l = 3 := by omega
            subst el
            refine w_X3_sumOverFutures_62 (hg f5) ⟨fun _ => ?_, fun z => absurd (by decide) z⟩
            rw [nI_1, ew]
            exact ih (u + 1) V5 (by omega) f5 k5 (fun j hj => by rw [s5 j hj, if_pos hj])
          | succ s ih2 =>
            intro l V5 e f5 k5 j5 s5
            have hl : l < 3 := by omega
            have e29 : vI V5 (q + 1) 29 u = od u := by rw [f5.i (fun y => by have := y.2; omega)]; exact o1
            refine w_X3_sumOverFutures_62 (hg f5) ⟨fun z => absurd z (nI_ge (b := 3) hl (by decide)), fun _ => ⟨vp_in_nI hl (by decide), vp_in_nI (by omega) (by decide), vp_in_nI hl (by decide), vp_in_nI hl (by decide), fun V6 e6 => ?_⟩⟩
            rw [nI_clamp (show l < 2 ^ 31 by omega), nI_clamp (show u < 2 ^ 31 by omega), e29, j5 l hl, s5 l hl, if_neg (Nat.lt_irrefl l)] at e6
            rw [nI_1]
            refine ih2 (l + 1) V6 (by omega) (f5.trans (by rw [e6]; exact Fc_wrJ ⟨rfl, by omega⟩)) (fun j => by rw [e6, wrJ_ne (fun z => by omega)]; exact k5 j) (fun j hj => by rw [e6, wrJ_ne (fun z => by omega)]; exact j5 j hj) (fun j hj => ?_)
            by_cases c : j = l
            · rw [c, e6, wrJ_at, if_pos (Nat.lt_succ_self l)]
              show _ = sOd od (fun j => scQ R nt (FT j) p l) (u + 1)
              rw [sOd_s]
            · rw [e6, wrJ_ne (fun z => c z.2.2), s5 j hj]
              by_cases c2 : j < l
              · rw [if_pos c2, if_pos (by omega)]
              · rw [if_neg c2, if_neg (by omega)]
        exact w_X3_sumOverFutures_59 (hg f4) (inner 3 0 V4 rfl f4 k31 j4 (fun j hj => by rw [if_neg (Nat.not_lt_zero j), k28 j]; exact s2 j hj))
      rw [hd4]
      refine ⟨fun z => add _ _ ?_, fun z => add false _ ?_⟩
      · rw [alF_s, decide_eq_true (fs.mp z), Bool.and_true]
      · rw [alF_s, decide_eq_false (fun w => z (fs.mpr w)), Bool.and_false]
  have fill : ∀ m k V2, k + m = 3 → Fc V V2 (csS q) → (∀ l, vJ V2 (q + 1) 31 l = vJ V1 (q + 1) 31 l) → (∀ l, l < k → vJ V2 (q + 1) 28 l = 0) → vwp E (d - 1) M_J7_fill_d0a16 6 [some (sl (q + 1) 28), some (wj 0), none, some (wi (nI k)), some (wi (nI (vN V (q + 1) 28)))] [] V2 (zv (fun V1 => vwp E d M_X3_sumOverFutures 12 [some (sl (q + 1) 0), some (wi (nI p)), some (wi 1), some (wi 0), none, none] [] V1 (zi K))) := by
    intro m
    induction m with
    | zero =>
      intro k V2 e f2 k2 z2
      refine w_J7_fill_d0a16_6 (sP_28 (hg f2)) ⟨fun _ => ?_, fun z => absurd (nI_le (by omega) (by omega)) z⟩
      exact go U 0 V2 (Nat.zero_add _) f2 k2 (fun l hl => z2 l (by omega))
    | succ m ih =>
      intro k V2 e f2 k2 z2
      refine w_J7_fill_d0a16_6 (sP_28 (hg f2)) ⟨fun z => absurd z (nI_ge (by omega) (by omega)), fun _ => ⟨by rw [f2.n]; exact vp_in_nI (by omega) (by omega), fun V3 e3 => ?_⟩⟩
      rw [nI_clamp (show k < 2 ^ 31 by omega)] at e3
      rw [nI_1]
      refine ih (k + 1) V3 (by omega) (f2.trans (by rw [e3]; exact Fc_wrJ ⟨rfl, by omega⟩)) (fun j => by rw [e3, wrJ_ne (fun z => by omega)]; exact k2 j) (fun l hl => ?_)
      by_cases c : l = k
      · rw [c, e3, wrJ_at]
      · rw [e3, wrJ_ne (fun z => c z.2.2)]; exact z2 l (by omega)
  refine w_X3_sumOverFutures_0 (hg f1) (by omega) (w_J7_fill_d0a16_0 (sP_28 (hg f1)) ?_)
  rw [f1.n]
  exact fill 3 0 V1 rfl f1 (fun _ => rfl) (fun l hl => absurd hl (Nat.not_lt_zero l))
end
