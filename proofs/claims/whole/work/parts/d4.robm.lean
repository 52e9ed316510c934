/-! robust: the reference -/
def rbS (a f j : Nat) : Prop := waS a f j ∨ a = 6 ∧ (f = 50 ∨ f = 51)
theorem waS_6 {a f j : Nat} (y : waS a f j) : a = 6 ∧ (f = 0 ∧ 37 ≤ j ∧ (j < 76 ∨ 79 < j ∧ j < 89 ∨ 92 < j) ∨ 34 ≤ f ∧ f ≠ 50 ∧ f ≠ 51 ∧ f ≠ 59 ∧ f ≠ 60) := by
  rcases y with ⟨y1, y2⟩ | ⟨y1, y2⟩
  · exact ⟨y1, by omega⟩
  · exact ⟨y1, by omega⟩
section
variable {E : EE} {d : Nat} {V V' V1 V2 : VH} {q B : Nat} {t : Nat → Int32} {n : Nat} {R : List SR} {nt fa : Nat → Int32} {h h' : Nat} {x b : Int32} {cs : Nat → Int32} {U : Nat} {od : Nat → Int32} {FT : Nat → Nat → Int32}
theorem rbS_6 {a f j : Nat} (y : rbS a f j) : a = 6 ∧ (f = 0 ∧ 37 ≤ j ∧ (j < 76 ∨ 79 < j ∧ j < 89 ∨ 92 < j) ∨ 34 ≤ f ∧ f ≠ 59 ∧ f ≠ 60) := by
  rcases y with y | y
  · have := waS_6 y; exact ⟨this.1, by omega⟩
  · exact ⟨y.1, by omega⟩
/-- sums of the reference -/
def SmP (V : VH) (R : List SR) (nt : Nat → Int32) (od : Nat → Int32) (FT : Nat → Nat → Int32) (h : Nat) (x : Int32) (u p : Nat) : Prop := vJ V 6 50 p = smQ R nt od FT u p 1 ∧ vJ V 6 50 (20000 + p) = smQ R nt od FT u p 2 ∧ vI V 6 51 p = bI (agR R h x p && alF R nt FT u p)
def SmM (V : VH) (R : List SR) (nt : Nat → Int32) (od : Nat → Int32) (FT : Nat → Nat → Int32) (h : Nat) (x : Int32) (ul : Nat → Nat) : Prop := ∀ p, p < plR R → SmP V R nt od FT h x (ul p) p
theorem wrI_J {a b k g f i : Nat} {v : Int32} : vJ (wrI V a b k v) g f i = vJ V g f i := rfl
theorem robust_go {K : Int32 → VH → Prop} (h0 : 180 < d) (hs : PrS t n R nt) (hm : MiQ V q t n R fa h x cs) (hW6 : vL V 6 = true) (hN : vN V 6 51 = 20000) (u6 : U ≤ 6) (hU0 : 0 < U) (e29 : vI V 6 29 q = nI U) (hF : ∀ u, u < U → vI V 6 30 (6 * q + u) = od u ∧ Bds (tcR R 0) (FT u) ∧ ∀ f, f < tcR R 0 → FT u f = tfv V q (some u) f)
    (hk0 : rbL R nt FT U h x = [] → ∀ V', Fc V V' rbS → vI V' 6 0 62 = -1 → vI V' 6 0 63 = vI V 6 33 q → MiQ V' q t n R fa h x cs → K 0 V') (hk1 : rbL R nt FT U h x ≠ [] → ∀ V' V2, Fc V V' rbS → vI V' 6 0 62 = -1 → vI V' 6 0 63 = vI V 6 33 q → Fc V' V2 (hnS q) → Hq V2 q (tcR R 1) (szR R) (bst (smQ R nt od FT U) (rbL R nt FT U h x)) → K 1 V2) :
    vwp E d M_X12_robust 23 [some (sl 6 0), some (wi (nI q)), some (wi 0), none, none] [] V (zi K) := by
  have sq0 := hm.1.2.2.2.2.1
  have q5 := sq0.1
  have p20 : plR R ≤ 20000 := sq0.2.2.2.2.1
  have n12 : tcR R 1 ≤ 12 := sq0.2.2.1
  have mi : ∀ {V1}, Fc V V1 rbS → MiQ V1 q t n R fa h x cs := fun f1 => hm.fc hs f1 (fun f j y => by have := (rbS_6 y).2; omega)
  have pl : ∀ {V1}, Fc V V1 rbS → vI V1 6 22 q = nI (plR R) := fun f1 => (mi f1).1.2.2.2.2.1.2.2.2.1
  have f29 : ∀ {V1}, Fc V V1 rbS → vI V1 6 29 q = nI U := fun f1 => by rw [f1.i (fun y => by have := (rbS_6 y).2; omega)]; exact e29
  have f30 : ∀ {V1}, Fc V V1 rbS → ∀ u, u < U → vI V1 6 30 (6 * q + u) = od u := fun f1 u hu => by rw [f1.i (fun y => by have := (rbS_6 y).2; omega)]; exact (hF u hu).1
  have tf : ∀ {V1}, Fc V V1 rbS → ∀ u f, tfv V1 q (some u) f = tfv V q (some u) f := fun {V1} f1 u f => by
    show (if vI V1 6 31 (16 * (6 * q + u) + f) = 0 then vI V1 6 15 (16 * q + f) else vI V1 6 32 (16 * (6 * q + u) + f)) = (if vI V 6 31 (16 * (6 * q + u) + f) = 0 then vI V 6 15 (16 * q + f) else vI V 6 32 (16 * (6 * q + u) + f))
    rw [f1.i (fun y => by have := (rbS_6 y).2; omega), f1.i (fun y => by have := (rbS_6 y).2; omega), f1.i (fun y => by have := (rbS_6 y).2; omega)]
  have ea : ∀ p, (20000 : Int32) + nI p = nI (20000 + p) := fun p => by rw [show (20000 : Int32) = nI 20000 from rfl, nI_add]
  have eb : ∀ p, (40000 : Int32) + nI p = nI (40000 + p) := fun p => by rw [show (40000 : Int32) = nI 40000 from rfl, nI_add]
  have sl51 : ∀ {V1}, Fc V V1 rbS → SL (vL V1) 6 51 16 := fun f1 => by rw [f1.l]; exact ⟨hW6, by decide, rfl⟩
  -- choose
  have choose : ∀ V1, Fc V V1 rbS → vI V1 6 0 62 = -1 → vI V1 6 0 63 = vI V 6 33 q → SmM V1 R nt od FT h x (fun _ => U) → ∀ m p o, p + m = plR R → o = ((List.range p).filter (fun p => agR R h x p && alF R nt FT U p)).foldl (fbs (smQ R nt od FT U)) none → vwp E d M_X12_robust 210 [some (sl 6 0), some (wi (nI q)), some (wi (cuI o)), some (wi (nI p)), none] [] V1 (zi K) := by
    intro V1 f1 e1 e2 s1 m
    have hlt : ∀ p o c, o = ((List.range p).filter (fun p => agR R h x p && alF R nt FT U p)).foldl (fbs (smQ R nt od FT U)) none → o = some c → c < p ∧ alF R nt FT U c = true := fun p o c eo ec => by
      rw [ec, fbs_list] at eo
      by_cases z : (List.range p).filter (fun p => agR R h x p && alF R nt FT U p) = []
      · rw [if_pos z] at eo; exact absurd eo (by simp)
      · rw [if_neg z] at eo
        have mm := bst_mem (sc := smQ R nt od FT U) z
        rw [← Option.some.inj eo] at mm
        have a := List.mem_filter.mp mm
        rw [Bool.and_eq_true] at a
        exact ⟨List.mem_range.mp a.1, a.2.2⟩
    induction m with
    | zero =>
      intro p o e eo
      have ep : p = plR R := by omega
      subst ep
      refine w_X12_robust_210 (by omega) ?_
      rw [nI_clamp (show q < 2 ^ 31 by omega), pl f1]
      refine ⟨vp_in_nI q5 (by decide), fun _ => ?_, fun z => absurd (nI_le (Nat.le_refl _) (by omega)) z⟩
      rw [fbs_list] at eo
      by_cases c : (List.range (plR R)).filter (fun p => agR R h x p && alF R nt FT U p) = []
      · rw [if_pos c] at eo
        rw [eo]
        exact ⟨fun z => absurd z (by decide), fun _ => hk0 c V1 f1 e1 e2 (mi f1)⟩
      · rw [if_neg c] at eo
        rw [eo]
        have mm := (List.mem_filter.mp (bst_mem (sc := smQ R nt od FT U) c)).1
        have hb := List.mem_range.mp mm
        exact ⟨fun _ => c_putAtHand (by omega) (mi f1).1.2.2.2.2.1 hb (fun V2 f2 hh => hk1 c V1 V2 f1 e1 e2 (f2.mono (fun a f i y => ⟨y.1, y.2.1, y.2.2.1, by have := y.2.2.2; omega⟩)) hh), fun z => absurd (nI_le (a := 0) (b := bst (smQ R nt od FT U) ((List.range (plR R)).filter (fun p => agR R h x p && alF R nt FT U p))) (Nat.zero_le _) (by omega)) z⟩
    | succ m ih =>
      intro p o e eo
      have hp : p < plR R := by omega
      obtain ⟨a1, a2, a3⟩ := s1 p hp
      have rs := rng_flt_s (fun p => agR R h x p && alF R nt FT U p) p
      have no : ∀ o', o' = o → ((List.range (p + 1)).filter (fun p => agR R h x p && alF R nt FT U p)).foldl (fbs (smQ R nt od FT U)) none = o' → vwp E d M_X12_robust 293 [some (sl 6 0), some (wi (nI q)), some (wi (cuI o)), some (wi (nI p)), none] [] V1 (zi K) := fun o' e1 e2 => by
        refine w_X12_robust_293 (w_X12_robust_294 ⟨fun _ => w_X12_robust_306 ?_, fun z => absurd rfl z⟩)
        rw [nI_1, ← e1]
        exact ih (p + 1) o' (by omega) e2.symm
      have yes : ((List.range (p + 1)).filter (fun p => agR R h x p && alF R nt FT U p)).foldl (fbs (smQ R nt od FT U)) none = some p → vwp E d M_X12_robust 289 [some (sl 6 0), some (wi (nI q)), some (wi (cuI o)), some (wi (nI p)), none] [] V1 (zi K) := fun e2 => by
        refine w_X12_robust_289 (w_X12_robust_294 ⟨fun z => absurd z (by decide), fun _ => w_X12_robust_306 ?_⟩)
        rw [nI_1]
        exact ih (p + 1) (some p) (by omega) e2.symm
      refine w_X12_robust_210 (by omega) ?_
      rw [nI_clamp (show q < 2 ^ 31 by omega), pl f1, nI_clamp (show p < 2 ^ 31 by omega), a1, a3, ea, nI_clamp (show 20000 + p < 2 ^ 31 by omega), a2]
      refine ⟨vp_in_nI q5 (by decide), fun z => absurd z (nI_ge hp (by omega)), fun _ => ⟨vp_in_nI (by omega) (by decide), fun z => ?_, fun z => ?_⟩⟩
      · have z := bI_0.mp z
        refine no o rfl ?_
        rw [rs, if_neg (by rw [z]; decide)]; exact eo.symm
      · have z := bI_1.mp z
        rw [if_pos z] at rs
        have z2 : alF R nt FT U p = true := by rw [Bool.and_eq_true] at z; exact z.2
        have st : ((List.range (p + 1)).filter (fun p => agR R h x p && alF R nt FT U p)).foldl (fbs (smQ R nt od FT U)) none = fbs (smQ R nt od FT U) o p := by rw [rs, List.foldl_append, eo]; rfl
        rw [st] at no yes
        cases ho : o with
        | none =>
          rw [ho] at yes no
          exact ⟨fun _ => yes rfl, fun w => absurd (by decide) w⟩
        | some c =>
          rw [ho] at yes no
          obtain ⟨hc, ac⟩ := hlt p o c eo ho
          obtain ⟨b1, b2, b3⟩ := s1 c (by omega)
          have eq0 : smQ R nt od FT U p 0 = smQ R nt od FT U c 0 := by rw [smQ_0 z2, smQ_0 ac]
          have fb : fbs (smQ R nt od FT U) (some c) p = if btr (smQ R nt od FT U) p c = true then some p else some c := rfl
          have ec : cuI (some c) = nI c := rfl
          rw [ec, nI_clamp (show c < 2 ^ 31 by omega), b1, ea, nI_clamp (show 20000 + c < 2 ^ 31 by omega), b2]
          refine ⟨fun w => absurd w (nI_pos (by omega)), fun _ => ⟨vp_in_nI (by omega) (by decide), vp_in_nI (by omega) (by decide), fun w => yes ?_, fun w => ⟨vp_in_nI (by omega) (by decide), vp_in_nI (by omega) (by decide), fun v => no (some c) rfl ?_, fun v => ⟨vp_in_nI (by omega) (by decide), vp_in_nI (by omega) (by decide), fun y => no (some c) rfl ?_, fun y => yes ?_⟩⟩⟩⟩
          · rw [fb]
            have : btr (smQ R nt od FT U) p c = true := by
              unfold btr
              rw [if_neg (fun y => y eq0), if_pos (fun y => Int64.lt_irrefl (by rw [y] at w; exact w)), decide_eq_true w]
            rw [this]; rfl
          · rw [fb]
            have : btr (smQ R nt od FT U) p c = false := by
              unfold btr
              rw [if_neg (fun y => y eq0), if_pos v, decide_eq_false w]
            rw [this]; rfl
          · rw [fb]
            have : btr (smQ R nt od FT U) p c = false := by
              unfold btr
              rw [if_neg (fun y => y eq0), if_neg (fun y => y v), decide_eq_false (Int64.not_lt.mpr y)]
            rw [this]; rfl
          · rw [fb]
            have : btr (smQ R nt od FT U) p c = true := by
              unfold btr
              rw [if_neg (fun y => y eq0), if_neg (fun y => y v), decide_eq_true (Int64.not_le.mp y)]
            rw [this]; rfl
  -- futures
  have futs : ∀ m u V1, u + m = U → Fc V V1 rbS → (0 < u → vI V1 6 0 62 = -1 ∧ vI V1 6 0 63 = vI V 6 33 q) → SmM V1 R nt od FT h x (fun _ => u) → vwp E d M_X12_robust 71 [some (sl 6 0), some (wi (nI q)), some (wi (nI u)), none, none] [] V1 (zi K) := by
    intro m
    induction m with
    | zero =>
      intro u V1 e f1 e1 s1
      have eu : u = U := by omega
      subst eu
      refine w_X12_robust_71 (by omega) ?_
      rw [nI_clamp (show q < 2 ^ 31 by omega), f29 f1]
      refine ⟨vp_in_nI q5 (by decide), fun _ => ?_, fun z => absurd (nI_le (Nat.le_refl _) (by omega)) z⟩
      exact choose V1 f1 (e1 hU0).1 (e1 hU0).2 s1 (plR R) 0 none (Nat.zero_add _) rfl
    | succ m ih =>
      intro u V1 e f1 e1 s1
      have hu : u < U := by omega
      refine w_X12_robust_71 (by omega) ?_
      rw [nI_clamp (show q < 2 ^ 31 by omega), f29 f1]
      refine ⟨vp_in_nI q5 (by decide), fun z => absurd z (nI_ge hu (by omega)), fun _ => c_weighU (FT := FT) (by omega) hs (mi f1) (by omega) (hF u hu).2.1 (fun f hf => by rw [tf f1]; exact (hF u hu).2.2 f hf) (fun V2 f2 w2 e62 e63 => ?_)⟩
      have f02 : Fc V V2 rbS := f1.trans (f2.mono (fun a f j y => Or.inl y))
      have e63' : vI V2 6 0 63 = vI V 6 33 q := by rw [e63, f1.i (fun y => by have := (rbS_6 y).2; omega)]
      have s2 : SmM V2 R nt od FT h x (fun _ => u) := fun p hp => by
        obtain ⟨a1, a2, a3⟩ := s1 p hp
        exact ⟨by rw [f2.j (fun y => by have := (waS_6 y).2; omega)]; exact a1, by rw [f2.j (fun y => by have := (waS_6 y).2; omega)]; exact a2, by rw [f2.i (fun y => by have := (waS_6 y).2; omega)]; exact a3⟩
      have k45 : ∀ {V3}, Fc V2 V3 (fun a f _ => a = 6 ∧ (f = 50 ∨ f = 51)) → ∀ p, p < plR R → ∀ l, l < 3 → vJ V3 6 45 (20000 * l + p) = scQ R nt (FT u) p l := fun f3 p hp l hl => by rw [f3.j (fun y => by have := y.2; omega)]; exact (w2 p hp).2.2 l hl
      have inner : ∀ s p V3, p + s = plR R → Fc V2 V3 (fun a f _ => a = 6 ∧ (f = 50 ∨ f = 51)) → SmM V3 R nt od FT h x (fun j => if j < p then u + 1 else u) → vwp E d M_X12_robust 89 [some (sl 6 0), some (wi (nI q)), some (wi (nI u)), some (wi (nI p)), none] [] V3 (zi K) := by
        intro s
        induction s with
        | zero =>
          intro p V3 e f3 s3
          have ep : p = plR R := by omega
          have f03 : Fc V V3 rbS := f02.trans (f3.mono (fun a f j y => Or.inr y))
          refine w_X12_robust_89 (by omega) ?_
          rw [nI_clamp (show q < 2 ^ 31 by omega), pl f03, nI_1]
          refine ⟨vp_in_nI q5 (by decide), fun _ => ?_, fun z => absurd (nI_le (by omega) (by omega)) z⟩
          refine ih (u + 1) V3 (by omega) f03 (fun _ => ⟨by rw [f3.i (fun y => by have := y.2; omega)]; exact e62, by rw [f3.i (fun y => by have := y.2; omega)]; exact e63'⟩) (fun j hj => ?_)
          have this : SmP V3 R nt od FT h x (if j < p then u + 1 else u) j := s3 j hj
          rw [if_pos (by omega)] at this
          exact this
        | succ s ih2 =>
          intro p V3 e f3 s3
          have hp : p < plR R := by omega
          have f03 : Fc V V3 rbS := f02.trans (f3.mono (fun a f j y => Or.inr y))
          have a0 : SmP V3 R nt od FT h x (if p < p then u + 1 else u) p := s3 p hp
          rw [if_neg (Nat.lt_irrefl p)] at a0
          obtain ⟨a1, a2, a3⟩ := a0
          have c1 := k45 f3 p hp 1 (by decide)
          have c2 := k45 f3 p hp 2 (by decide)
          have e6i : (6 : Int32) * nI q + nI u = nI (6 * q + u) := by rw [show (6 : Int32) = nI 6 from rfl, nI_mul, nI_add]
          refine w_X12_robust_89 (by omega) ?_
          rw [nI_clamp (show q < 2 ^ 31 by omega), pl f03, nI_clamp (show p < 2 ^ 31 by omega), e6i, nI_clamp (show 6 * q + u < 2 ^ 31 by omega), f30 f03 u hu, ea, nI_clamp (show 20000 + p < 2 ^ 31 by omega), eb, nI_clamp (show 40000 + p < 2 ^ 31 by omega), a1, show 20000 + p = 20000 * 1 + p by omega, c1]
          refine ⟨vp_in_nI q5 (by decide), fun z => absurd z (nI_ge hp (by omega)), fun _ => ⟨vp_in_nI (by omega) (by decide), vp_in_nI (by omega) (by decide), vp_in_nI (by omega) (by decide), vp_in_nI (by omega) (by decide), fun V6 e6 => ?_⟩⟩
          have g6 : Fc V3 V6 (fun a f _ => a = 6 ∧ (f = 50 ∨ f = 51)) := by rw [e6]; exact Fc_wrJ ⟨rfl, Or.inl rfl⟩
          have o6 : vI V6 6 30 (6 * q + u) = od u := by rw [g6.i (fun y => by have := y.2; omega)]; exact f30 f03 u hu
          have d2 : vJ V6 6 45 (40000 + p) = scQ R nt (FT u) p 2 := by rw [g6.j (fun y => by have := y.2; omega)]; exact c2
          have d50 : vJ V6 6 50 (20000 * 1 + p) = smQ R nt od FT u p 2 := by rw [e6, wrJ_ne (fun z => by omega), show 20000 * 1 + p = 20000 + p by omega]; exact a2
          rw [o6, d2, d50]
          refine ⟨vp_in_nI (by omega) (by decide), vp_in_nI (by omega) (by decide), vp_in_nI (by omega) (by decide), vp_in_nI (by omega) (by decide), fun V11 e11 => ?_⟩
          have g11 : Fc V6 V11 (fun a f _ => a = 6 ∧ (f = 50 ∨ f = 51)) := by rw [e11]; exact Fc_wrJ ⟨rfl, Or.inl rfl⟩
          have g311 := g6.trans g11
          have f211 := f3.trans g311
          have f011 : Fc V V11 rbS := f02.trans (f211.mono (fun a f j y => Or.inr y))
          have d51 : vI V11 6 51 p = bI (agR R h x p && alF R nt FT u p) := by
            have : vI V11 6 51 p = vI V3 6 51 p := by rw [e11, e6]; rfl
            rw [this]; exact a3
          have T11 : Tq V11 (plR R) (scQ R nt (FT u)) := ⟨p20, fun j hj l hl => k45 f211 j hj l hl⟩
          have next : ∀ y : Bool, y = (agR R h x p && alF R nt FT (u + 1) p) → vwp E d M_X12_robust 193 [some (sl 6 0), some (wi (nI q)), some (wi (nI u)), some (wi (nI p)), none] [wi (bI y), wi (nI p), sl 6 51] V11 (zi K) := fun y ey => by
            refine w_X12_robust_193 (sl51 f011) ?_
            rw [f011.n, hN, nI_clamp (show p < 2 ^ 31 by omega), nz_b]
            refine ⟨vp_in_nI (by omega) (by decide), fun V12 e12 => ?_⟩
            rw [nI_1]
            refine ih2 (p + 1) V12 (by omega) (f211.trans (by rw [e12]; exact Fc_wrI ⟨rfl, Or.inr rfl⟩)) (fun j hj => ?_)
            show SmP V12 R nt od FT h x (if j < p + 1 then u + 1 else u) j
            by_cases c : j = p
            · subst c
              rw [if_pos (Nat.lt_succ_self j)]
              refine ⟨?_, ?_, ?_⟩
              · rw [e12, wrI_J, e11, wrJ_ne (fun z => by omega), e6, wrJ_at]
                show _ = sOd od (fun i => scQ R nt (FT i) j 1) (u + 1)
                rw [sOd_s]
              · rw [e12, wrI_J, e11, show 20000 + j = 20000 * 1 + j by omega, wrJ_at]
                show _ = sOd od (fun i => scQ R nt (FT i) j 2) (u + 1)
                rw [sOd_s]
              · rw [e12, wrI_at, ey]
            · have b0 : SmP V3 R nt od FT h x (if j < p then u + 1 else u) j := s3 j hj
              obtain ⟨b1, b2, b3⟩ := b0
              have ei : (if j < p + 1 then u + 1 else u) = if j < p then u + 1 else u := by
                by_cases c2 : j < p
                · rw [if_pos c2, if_pos (by omega)]
                · rw [if_neg c2, if_neg (by omega)]
              rw [ei]
              refine ⟨?_, ?_, ?_⟩
              · rw [e12, wrI_J, e11, wrJ_ne (fun z => by omega), e6, wrJ_ne (fun z => c z.2.2)]; exact b1
              · rw [e12, wrI_J, e11, wrJ_ne (fun z => by omega), e6, wrJ_ne (fun z => by omega)]; exact b2
              · rw [e12, wrI_ne (fun z => c z.2.2)]
                have : vI V11 6 51 j = vI V3 6 51 j := by rw [e11, e6]; rfl
                rw [this]; exact b3
          rw [d51]
          refine ⟨vp_in_nI (by omega) (by decide), fun z => w_X12_robust_192 (sl51 f011) (next false ?_), fun z => c_isFeasible T11 hp ⟨fun y => w_X12_robust_192 (sl51 f011) (next false ?_), fun y => next true ?_⟩⟩
          · rw [alF_s, ← Bool.and_assoc, bI_0.mp z]; rfl
          · rw [alF_s, bI_0.mp y, Bool.and_false, Bool.and_false]
          · rw [alF_s, ← Bool.and_assoc, bI_1.mp z, bI_1.mp y]; rfl
      exact inner (plR R) 0 V2 (Nat.zero_add _) Fc.refl (fun j hj => by show SmP V2 R nt od FT h x (if j < 0 then u + 1 else u) j; rw [if_neg (Nat.not_lt_zero j)]; exact s2 j hj)
  have init : ∀ m p V1, p + m = plR R → Fc V V1 rbS → (∀ j, j < p → vJ V1 6 50 j = 0 ∧ vJ V1 6 50 (20000 + j) = 0 ∧ vI V1 6 51 j = bI (agR R h x j)) → vwp E d M_X12_robust 23 [some (sl 6 0), some (wi (nI q)), some (wi (nI p)), none, none] [] V1 (zi K) := by
    intro m
    induction m with
    | zero =>
      intro p V1 e f1 z1
      have ep : p = plR R := by omega
      refine w_X12_robust_23 (by omega) ?_
      rw [nI_clamp (show q < 2 ^ 31 by omega), pl f1]
      refine ⟨vp_in_nI q5 (by decide), fun _ => ?_, fun z => absurd (nI_le (by omega) (by omega)) z⟩
      refine futs U 0 V1 (Nat.zero_add _) f1 (fun z => absurd z (Nat.lt_irrefl 0)) (fun j hj => ?_)
      obtain ⟨a1, a2, a3⟩ := z1 j (by omega)
      exact ⟨a1, a2, by rw [a3]; congr 1; exact (Bool.and_true _).symm⟩
    | succ m ih =>
      intro p V1 e f1 z1
      have hp : p < plR R := by omega
      refine w_X12_robust_23 (by omega) ?_
      rw [nI_clamp (show q < 2 ^ 31 by omega), pl f1, nI_clamp (show p < 2 ^ 31 by omega), ea, nI_clamp (show 20000 + p < 2 ^ 31 by omega)]
      refine ⟨vp_in_nI q5 (by decide), fun z => absurd z (nI_ge hp (by omega)), fun _ => ⟨vp_in_nI (by omega) (by decide), fun V3 e3 => ⟨vp_in_nI (by omega) (by decide), fun V5 e5 => ?_⟩⟩⟩
      have f13 : Fc V1 V3 rbS := by rw [e3]; exact Fc_wrJ (Or.inr ⟨rfl, Or.inl rfl⟩)
      have f35 : Fc V3 V5 rbS := by rw [e5]; exact Fc_wrJ (Or.inr ⟨rfl, Or.inl rfl⟩)
      have f5 : Fc V V5 rbS := f1.trans (f13.trans f35)
      have m5 := (mi f5).1
      refine c_isAllowed (by omega) m5.2.2.2.2.1 m5.2.2.2.2.2.2.2.2.1 m5.2.2.2.2.2.2.2.2.2.1 (by omega) ?_
      refine ⟨vp_in_nI (by omega) (by decide), fun V10 e10 => ?_⟩
      have e10 : V10 = wrI V5 6 51 p (nz (bI (agR R h x p))) := e10
      rw [nz_b] at e10
      rw [nI_1]
      refine ih (p + 1) V10 (by omega) (f5.trans (by rw [e10]; exact Fc_wrI (Or.inr ⟨rfl, Or.inr rfl⟩))) (fun j hj => ?_)
      by_cases c : j = p
      · subst c
        refine ⟨?_, ?_, ?_⟩
        · rw [e10, wrI_J, e5, wrJ_ne (fun z => by omega), e3, wrJ_at]
        · rw [e10, wrI_J, e5, wrJ_at]
        · rw [e10, wrI_at]
      · obtain ⟨a1, a2, a3⟩ := z1 j (by omega)
        refine ⟨?_, ?_, ?_⟩
        · rw [e10, wrI_J, e5, wrJ_ne (fun z => by omega), e3, wrJ_ne (fun z => c z.2.2)]; exact a1
        · rw [e10, wrI_J, e5, wrJ_ne (fun z => by omega), e3, wrJ_ne (fun z => by omega)]; exact a2
        · rw [e10, wrI_ne (fun z => c z.2.2)]
          have : vI V5 6 51 j = vI V1 6 51 j := by rw [e5, e3]; rfl
          rw [this]; exact a3
  exact init (plR R) 0 V (Nat.zero_add _) Fc.refl (fun j hj => absurd hj (Nat.not_lt_zero j))
theorem rbS_ek {a f j : Nat} (y : rbS a f j) : enK q a f j := by
  have := rbS_6 y
  exact ⟨Or.inr (Or.inl ⟨this.1, by omega⟩), fun z => by omega, fun z => by omega⟩
theorem csS_ek {a f j : Nat} (y : csS q a f j) : enK q a f j := ⟨Or.inl ⟨y.1, by have := y.2; omega⟩, fun z => by have := y.1; omega, fun z => by have := y.1; have := y.2; omega⟩
end
section
variable {E : EE} {d x B B' : Nat}
theorem o_robust (h0 : 190 < d) (hB : B ≤ B') : VO_robust E d (JA x B) (JA x B') := fun V a0 hJ => liftI hJ (fun hW hS => by
  rcases hS.inQ a0 with ⟨hP, hM⟩ | ⟨q, t, n, R, nt, fa, h, px, cs, hq, rfl, hI⟩
  · exact nul_robust (J := fun V2 => WF V2 → JS B' V2) (by omega) hW hP hM (fun _ => hS.mono hB)
  · obtain ⟨U, od, FT, hF⟩ := hI.fti
    obtain ⟨u6, e11, e29, hu⟩ := id hF
    have p20 := hI.p20
    refine w_X11_robust_0 (by omega) (c_known_y hI hq ⟨fun _ => ⟨hI.2.1.1.2, ?_⟩, fun z => absurd hI.2.1.1.1 z⟩)
    rw [e11]
    refine ⟨fun z => ?_, fun z => ?_⟩
    · have U0 : 0 < U := by
        by_cases c : U = 0
        · rw [c] at z; exact absurd rfl z
        · omega
      have ref : ∀ (V4 V9 : VH) (r : Int32) (p : Nat), Fc V V4 (csS q) → (rbL R nt FT U h px = [] → V9 = V4 ∧ r = 0) → (rbL R nt FT U h px ≠ [] → p = bst (smQ R nt od FT U) (rbL R nt FT U h px) ∧ V9 = wrI V4 (q + 1) 0 8 (nI p) ∧ r = 1) → vMI E d M_X12_robust [sl 6 0, wi (nI q)] V9 (fun r' V2 => r = r' ∧ (WF V2 → JS B' V2)) := fun V4 V9 r p f4 c0 c1 => by
        have k9 : Fc V V9 (fun a f j => csS q a f j ∨ a = q + 1 ∧ f = 0 ∧ j = 8) := by
          by_cases c : rbL R nt FT U h px = []
          · rw [(c0 c).1]; exact f4.mono (fun a f j y => Or.inl y)
          · rw [(c1 c).2.1]; exact (f4.mono (fun a f j y => Or.inl y)).trans (Fc_wrI (Or.inr ⟨rfl, rfl, rfl⟩))
        have n6 : ∀ f j, ¬ (csS q 6 f j ∨ 6 = q + 1 ∧ f = 0 ∧ j = 8) := fun f j y => by rcases y with y | y; exact csS_6 hI f j y; omega
        have mi := hI.mi.fc hI.1 k9 (fun f j y => absurd y (n6 f j))
        have k9' : Fc V V9 (enK q) := k9.mono (fun a f j y => by
          rcases y with y | ⟨y1, y2, y3⟩
          · exact csS_ek y
          · exact ⟨Or.inl ⟨y1, by omega⟩, fun z => by omega, fun z => by omega⟩)
        refine w_X12_robust_0 (by omega) (c_isProblem_y mi hq ⟨fun _ => ?_, fun w => absurd w (by decide)⟩)
        rw [nI_clamp (show q < 2 ^ 31 by omega), k9.i (n6 _ _), e29]
        refine ⟨vp_in_nI (by omega) (by decide), fun _ => ?_, fun w => absurd w z⟩
        have tf9 : ∀ u f, tfv V9 q (some u) f = tfv V q (some u) f := fun u f => by
          show (if vI V9 6 31 (16 * (6 * q + u) + f) = 0 then vI V9 6 15 (16 * q + f) else vI V9 6 32 (16 * (6 * q + u) + f)) = (if vI V 6 31 (16 * (6 * q + u) + f) = 0 then vI V 6 15 (16 * q + f) else vI V 6 32 (16 * (6 * q + u) + f))
          rw [k9.i (n6 _ _), k9.i (n6 _ _), k9.i (n6 _ _)]
        refine robust_go (U := U) (od := od) (FT := FT) (by omega) hI.1 mi (by rw [k9.l]; exact hW.1.2.1) (by rw [k9.n]; exact hW.2.1 6 hW.1.2.1 (51, 20000) (by decide)) u6 U0 (by rw [k9.i (n6 _ _)]; exact e29) (fun u hu' => ⟨by rw [k9.i (n6 _ _)]; exact (hu u hu').2.1, (hu u hu').2.2.2.1, fun f hf => by rw [tf9]; exact ((hu u hu').2.2.2.2 f hf).1⟩) (fun c V5 f5 e1 e2 m5 => ⟨(c0 c).2, fun _ => ?_⟩) (fun c V5 V6 f5 e1 e2 f6 hh => ⟨(c1 c).2.2, fun _ => ?_⟩)
        · refine (hS.nk hI hq (k9'.trans (f5.mono (fun a f j y => rbS_ek y))) e1 (Or.inl (by rw [e2, k9.i (n6 _ _)])) ⟨?_, hI.hnd.2⟩ m5.1.2.2.2.2.2.2.2.2.1).mono hB
          rw [f5.i (fun y => by have := (rbS_6 y).1; omega), (c0 c).1, f4.i (fun y => by have := y.2; omega)]
          exact hI.hnd.1
        · have hb : p < plR R := by rw [(c1 c).1]; exact List.mem_range.mp (List.mem_filter.mp (bst_mem (sc := smQ R nt od FT U) c)).1
          refine (hS.nk hI hq ((k9'.trans (f5.mono (fun a f j y => rbS_ek y))).trans (f6.mono (fun a f j y => hnS_ek y))) (by rw [f6.i (fun y => by have := y.2.1; omega)]; exact e1) (Or.inl (by rw [f6.i (fun y => by have := y.2.1; omega), e2, k9.i (n6 _ _)])) (h' := p) ⟨?_, hb⟩ (by rw [(c1 c).1]; exact hh)).mono hB
          rw [f6.i (fun y => by have := y.1; omega), f5.i (fun y => by have := (rbS_6 y).1; omega), (c1 c).2.1]
          exact wrI_at
      refine c_mostRobust (by omega) hW hI hF (fun c V4 f4 => w_X11_robust_27 (by rw [f4.l]; exact hI.2.1.1) (by omega) ⟨fun _ => ref V4 V4 0 0 f4 (fun _ => ⟨rfl, rfl⟩) (fun y => absurd c y), fun w => absurd (by decide) w⟩) (fun c V4 f4 => ?_)
      have hb : bst (smQ R nt od FT U) (rbL R nt FT U h px) < plR R := List.mem_range.mp (List.mem_filter.mp (bst_mem (sc := smQ R nt od FT U) c)).1
      refine w_X11_robust_27 (by rw [f4.l]; exact hI.2.1.1) (by omega) ⟨fun w => absurd w (nI_pos (by omega)), fun _ => w_X3_moveTo_0 (by rw [f4.l]; exact hI.2.1.1) (fun V9 e9 => ⟨fun y => absurd y (by decide), fun _ => ref V4 V9 1 _ f4 (fun y => absurd y c) (fun _ => ⟨rfl, e9, rfl⟩)⟩)⟩
    · refine w_X11_robust_27 hI.2.1.1 (by omega) ⟨fun _ => ?_, fun w => absurd (by decide) w⟩
      refine w_X12_robust_0 (by omega) (c_isProblem_y hI.mi hq ⟨fun _ => ?_, fun w => absurd w (by decide)⟩)
      rw [nI_clamp (show q < 2 ^ 31 by omega), e29]
      exact ⟨vp_in_nI (by omega) (by decide), fun w => absurd z w, fun _ => ⟨rfl, fun _ => hS.mono hB⟩⟩)
end
