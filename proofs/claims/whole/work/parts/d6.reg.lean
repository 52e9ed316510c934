/-! regret -/
def lrT (S : Nat → Int64) (o : Option Int64) (p : Nat) : Option Int64 := match o with
  | none => some (S p)
  | some y => if y ≤ S p then some y else some (S p)
def lI (o : Option Int64) : Int64 := match o with
  | none => -9223372036854775808
  | some y => y
theorem lrT_some {S : Nat → Int64} {o : Option Int64} {p : Nat} : lrT S o p ≠ none := by
  cases o with
  | none => exact fun z => absurd z (by simp [lrT])
  | some y =>
    show (if y ≤ S p then some y else some (S p)) ≠ none
    by_cases c : y ≤ S p
    · rw [if_pos c]; simp
    · rw [if_neg c]; simp
theorem lrT_bd {S : Nat → Int64} {P : Int64 → Prop} (hS : ∀ p, P (S p)) {o : Option Int64} (ho : ∀ y, o = some y → P y) {p : Nat} : ∀ y, lrT S o p = some y → P y := by
  intro y e
  cases o with
  | none => rw [← Option.some.inj e]; exact hS p
  | some z =>
    have e : (if z ≤ S p then some z else some (S p)) = some y := e
    by_cases c : z ≤ S p
    · rw [if_pos c] at e; rw [← Option.some.inj e]; exact ho z rfl
    · rw [if_neg c] at e; rw [← Option.some.inj e]; exact hS p
theorem fA_if {α : Type} {A F : Nat → Bool} {g : α → Nat → α} {a : α} {b : Nat} : fA A (fun o p => if F p = true then g o p else o) a b = ((List.range b).filter (fun p => A p && F p)).foldl g a := by
  rw [fA_foldl, ← List.foldl_filter, List.filter_filter]
  have e : (fun a => F a && A a) = fun p => A p && F p := funext fun p => Bool.and_comm _ _
  rw [e]
section
variable {E : EE} {d : Nat} {V V' V1 V2 : VH} {q B : Nat} {t : Nat → Int32} {n : Nat} {R : List SR} {nt fa : Nat → Int32} {h h' : Nat} {x b : Int32} {cs : Nat → Int32} {U : Nat} {od : Nat → Int32} {FT : Nat → Nat → Int32}
abbrev lgU (R : List SR) (nt : Nat → Int32) (FT : Nat → Nat → Int32) (h : Nat) (x : Int32) (l u b : Nat) : Option Int64 := ((List.range b).filter (goo (szR R) (tcR R 1) (tst x) h (scQ R nt (FT u)))).foldl (lrT (fun p => scQ R nt (FT u) p l)) none
abbrev ovU (R : List SR) (nt : Nat → Int32) (FT : Nat → Nat → Int32) (h : Nat) (x : Int32) (l u : Nat) : Int64 := scQ R nt (FT u) h l - lI (lgU R nt FT h x l u (plR R))
def moU (R : List SR) (nt : Nat → Int32) (FT : Nat → Nat → Int32) (h : Nat) (x : Int32) (l : Nat) : Nat → Int64
  | 0 => -9223372036854775808
  | u + 1 => lmax (moU R nt FT h x l u) (ovU R nt FT h x l u)
theorem moU_s {l u : Nat} : moU R nt FT h x l (u + 1) = lmax (moU R nt FT h x l u) (ovU R nt FT h x l u) := by rw [moU]
theorem lgU_bd (hs : PrS t n R nt) {l u : Nat} : ∀ b y, lgU R nt FT h x l u b = some y → -53000000000000 ≤ y.toInt ∧ y.toInt ≤ 53000000000000 := by
  intro b
  induction b with
  | zero => intro y e; exact absurd e (by simp [lgU])
  | succ b ih =>
    intro y e
    unfold lgU at e
    rw [rng_flt_s] at e
    by_cases c : goo (szR R) (tcR R 1) (tst x) h (scQ R nt (FT u)) b = true
    · rw [if_pos c, List.foldl_append] at e
      exact lrT_bd (P := fun y => -53000000000000 ≤ y.toInt ∧ y.toInt ≤ 53000000000000) (fun p => scQ_bd hs (FT u) p l) ih y e
    · rw [if_neg c] at e
      exact ih y e
theorem ne_no {y : Int64} (h : -200000000000000 ≤ y.toInt) : y ≠ -9223372036854775808 := fun z => by
  rw [z] at h
  exact absurd h (by decide)
theorem ovU_ne (hs : PrS t n R nt) {l u : Nat} (hn : lgU R nt FT h x l u (plR R) ≠ none) : ovU R nt FT h x l u ≠ -9223372036854775808 := by
  cases o : lgU R nt FT h x l u (plR R) with
  | none => exact absurd o hn
  | some y =>
    have b1 := lgU_bd hs (plR R) y o
    have b2 := scQ_bd hs (FT u) h l
    refine ne_no ?_
    show -200000000000000 ≤ (scQ R nt (FT u) h l - lI (lgU R nt FT h x l u (plR R))).toInt
    rw [o]
    show -200000000000000 ≤ (scQ R nt (FT u) h l - y).toInt
    rw [Int64.toInt_sub, Int.bmod_eq_of_le (by omega) (by omega)]
    omega
theorem c_regretIn {l u : Nat} {K : Int64 → VH → Prop} (h0 : 8 < d) (hW : WF V) (hI : PbI V q t n R nt fa h x cs) (hF : FtI V q R U od FT) (f1 : Fc V V1 (csS q)) (hu : u < U) (hl : l < 3) (hk0 : lgU R nt FT h x l u (plR R) = none → ∀ V', Fc V V' (csS q) → K (-9223372036854775808) V') (hk1 : lgU R nt FT h x l u (plR R) ≠ none → ∀ V', Fc V V' (csS q) → K (ovU R nt FT h x l u) V') : vMJ E d M_X3_regretIn [sl (q + 1) 0, wi (nI u), wi (nI l)] V1 K := by
  have p20 := hI.p20
  have hs := hI.1
  obtain ⟨_, _, _, bF, _⟩ := hF.2.2.2 u hu
  have hg : ∀ {V2}, Fc V V2 (csS q) → PG (vL V2) (q + 1) := fun f2 => by rw [f2.l]; exact hI.2.1.1
  have n30 : vN V (q + 1) 30 = 16 := vnP hW hI.2.1.1 (by decide)
  refine w_X3_regretIn_0 (hg f1) (by omega) (c_factsIn hI hF hW f1 hu (fun V2 f2 _ r2 => ⟨⟨rfl, rfl⟩, ?_⟩))
  have hI2 := hI.csq f2
  rw [hI2.hnd.1, hI2.2.1.2.2.2.2.2.2.2.2.2.1]
  refine c_lowest (by omega) hI2.sp hI2.hnd.2 ?_
  have fin : ∀ (m : Nat) (y : Int32) (V3 : VH), Fc V V3 (csS q) → (∀ f, f < tcR R 0 → vI V3 (q + 1) 30 f = FT u f) → vwp E d M_X3_regretIn 132 [some (sl (q + 1) 0), some (wi (nI u)), some (wi (nI l)), some (sl (q + 1) 30), some (wj (lI (lgU R nt FT h x l u (plR R)))), none, some (wi y), some (wi (nI m)), none] [] V3 (zj K) := fun m y V3 f3 r3 => by
    have e8 : vI V3 (q + 1) 0 8 = nI h := by rw [f3.i (fun y => by have := y.2; omega)]; exact hI.hnd.1
    cases o : lgU R nt FT h x l u (plR R) with
    | none => exact w_X3_regretIn_132 (hg f3) (sP_30 (hg f3)) (by omega) ⟨fun z => absurd rfl z, fun _ => hk0 o V3 f3⟩
    | some z =>
      have bz := lgU_bd hs (plR R) z o
      refine w_X3_regretIn_132 (hg f3) (sP_30 (hg f3)) (by omega) ⟨fun _ => ?_, fun w => absurd w (ne_no (y := z) (by omega))⟩
      rw [e8]
      refine c_weighF (by omega) hW hI f3 r3 (by have := hI.hnd.2; omega) (fun V4 f4 _ j4 => ?_)
      rw [f4.n, f3.n, nI_clamp (show l < 2 ^ 31 by omega), j4 l hl]
      refine ⟨rfl, vp_in_nI hl (by decide), ?_⟩
      have := hk1 (by rw [o]; simp) V4 f4
      unfold ovU at this
      rw [o] at this
      exact this
  have eG : fA (agr (szR R) (tcR R 1) (tst x) h) (fun o p => if decide (scQ R nt (FT u) p 0 = 0) = true then lrT (fun p => scQ R nt (FT u) p l) o p else o) none (plR R) = lgU R nt FT h x l u (plR R) := fA_if
  refine en_loop (fx := tst x) (h := h) (f := fun o p => if decide (scQ R nt (FT u) p 0 = 0) = true then lrT (fun p => scQ R nt (FT u) p l) o p else o) (a := none) hI.sp.pos hI.hnd.2 (fun c m o => (∀ y, o = some y → -53000000000000 ≤ y.toInt) → ∀ V3, Fc V V3 (csS q) → (∀ f, f < tcR R 0 → vI V3 (q + 1) 30 f = FT u f) → vwp E d M_X3_regretIn 31 [some (sl (q + 1) 0), some (wi (nI u)), some (wi (nI l)), some (sl (q + 1) 30), some (wj (lI o)), none, some (wi (cuI c)), some (wi (nI m)), none] [] V3 (zj K)) (fun m hy V3 f3 r3 => ?_) (fun p m o hp hm ha ih hy V3 f3 r3 => ?_) (fun y z => absurd z (by simp)) V2 f2 r2
  · have e := fin m (cuI none) V3 f3 r3
    rw [← eG] at e
    exact w_X3_regretIn_31 (hg f3) (sP_30 (hg f3)) (by omega) ⟨fun _ => e, fun _ => ⟨fun _ => e, fun z => absurd (by decide) z⟩⟩
  · have hp : p < plR R := hp
    have S3 := (hI.csq f3).sp
    have fs := fea_sc E hs bF hI.2.1.2.2.2.2.1.1 p
    refine w_X3_regretIn_31 (hg f3) (sP_30 (hg f3)) (by omega) ⟨fun z => absurd z (by rw [S3.2.2.2.1]; exact nI_ge (show m < plR R by omega) (by show plR R < _; omega)), fun _ => ⟨fun z => absurd z (nI_pos (by omega)), fun _ => c_weighF (by omega) hW hI f3 r3 (by omega) (fun V4 f4 g4 j4 => ?_)⟩⟩
    have r4 : ∀ f, f < tcR R 0 → vI V4 (q + 1) 30 f = FT u f := fun f hf => by rw [g4.i (fun y => by have := y.2; omega)]; exact r3 f hf
    have hd4 : vI V4 (q + 1) 9 0 = vI V (q + 1) 9 0 := f4.i (fun y => by have := y.2; omega)
    have next : ∀ (o' : Option Int64) (r : Int32), o' = (if decide (scQ R nt (FT u) p 0 = 0) = true then lrT (fun p => scQ R nt (FT u) p l) o p else o) → vwp E d M_X3_regretIn 111 [some (sl (q + 1) 0), some (wi (nI u)), some (wi (nI l)), some (sl (q + 1) 30), some (wj (lI o')), none, some (wi (nI p)), some (wi (nI m)), some (wi r)] [] V4 (zj K) := fun o' r eo => by
      have hy' : ∀ y, o' = some y → -53000000000000 ≤ y.toInt := fun y ey => by
        rw [ey] at eo
        by_cases c : decide (scQ R nt (FT u) p 0 = 0) = true
        · rw [if_pos c] at eo
          exact lrT_bd (P := fun y => -53000000000000 ≤ y.toInt) (fun p => (scQ_bd hs (FT u) p l).1) hy y eo.symm
        · rw [if_neg c] at eo; exact hy y eo.symm
      rw [← eo] at ih
      have ih := ih hy' V4 f4 r4
      have hI4 := hI.csq f4
      refine w_X3_regretIn_111 (hg f4) (sP_30 (hg f4)) (by omega) ?_
      rw [hI4.2.1.2.2.2.2.2.2.2.2.2.1, nI_1]
      refine c_following (by omega) hI4.sp hp (fun e => ?_) (fun q' e => ?_)
      · rw [e] at ih; exact ⟨rfl, ih⟩
      · rw [e] at ih; exact ⟨rfl, ih⟩
    have take : ∀ (y4 : Int64) (r : Int32), (if decide (scQ R nt (FT u) p 0 = 0) = true then lrT (fun p => scQ R nt (FT u) p l) o p else o) = some (scQ R nt (FT u) p l) → vwp E d M_X3_regretIn 103 [some (sl (q + 1) 0), some (wi (nI u)), some (wi (nI l)), some (sl (q + 1) 30), some (wj y4), none, some (wi (nI p)), some (wi (nI m)), some (wi r)] [] V4 (zj K) := fun y4 r e => by
      refine w_X3_regretIn_103 (hg f4) (sP_30 (hg f4)) ⟨vp_in_nI hl (by decide), ?_⟩
      rw [nI_clamp (show l < 2 ^ 31 by omega), j4 l hl]
      exact next (some (scQ R nt (FT u) p l)) r e.symm
    refine ⟨by rw [g4.n], ?_⟩
    rw [hd4]
    refine ⟨fun z => next o _ (by rw [if_neg (fun w => z (fs.mpr (of_decide_eq_true w)))]), fun z => ?_⟩
    have zt : decide (scQ R nt (FT u) p 0 = 0) = true := decide_eq_true (fs.mp z)
    cases ho : o with
    | none => exact ⟨fun _ => take _ _ (by rw [if_pos zt, ho]; rfl), fun w => absurd rfl w⟩
    | some y =>
      refine ⟨fun w => absurd w (ne_no (y := y) (by have := hy y ho; omega)), fun _ => ?_⟩
      rw [nI_clamp (show l < 2 ^ 31 by omega), j4 l hl]
      refine ⟨vp_in_nI hl (by decide), fun w => ?_, fun w => take _ _ ?_⟩
      · have w : y ≤ scQ R nt (FT u) p l := w
        have := next (some y) (stQ R nt (FT u) p) (by rw [if_pos zt, ho]; show some y = if y ≤ scQ R nt (FT u) p l then some y else some (scQ R nt (FT u) p l); rw [if_pos w])
        exact this
      · have w : ¬ y ≤ scQ R nt (FT u) p l := w
        rw [if_pos zt, ho]
        show (if y ≤ scQ R nt (FT u) p l then some y else some (scQ R nt (FT u) p l)) = _
        rw [if_neg w]
end
