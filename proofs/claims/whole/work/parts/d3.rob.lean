/-! robust -/
section
variable {E : EE} {d : Nat} {V V' V1 V2 : VH} {q B : Nat} {t : Nat → Int32} {n : Nat} {R : List SR} {nt fa : Nat → Int32} {h h' : Nat} {x b : Int32} {cs : Nat → Int32} {U : Nat} {od : Nat → Int32} {FT : Nat → Nat → Int32}
theorem StpJ.no (hS : StpJ B V) (hq : q < 4) (e1 : vI V' 6 0 62 = -1) (e2 : vI V' 6 0 63 = vI V 6 33 q ∨ vI V' 6 0 63 = vI V 6 0 63) (e3 : ∀ j, vI V' 6 33 j = vI V 6 33 j) : StpJ B V' := by
  obtain ⟨s, c, a1, a2, a3, a4⟩ := hS
  have no : ∀ q', q' < 5 → ¬ vI V' 6 0 62 = nI q' := fun q' h1 z => by
    rw [e1] at z
    exact absurd (by rw [← z]; decide) (nI_pos (n := q') (by omega))
  rcases e2 with e2 | e2
  · exact ⟨s, s q, fun q' hq' => by rw [e3]; exact a1 q' hq', by rw [e2]; exact (a1 q (by omega)).1, (a1 q (by omega)).2, fun q' h1 z => absurd z (no q' h1)⟩
  · exact ⟨s, c, fun q' hq' => by rw [e3]; exact a1 q' hq', by rw [e2]; exact a2, a3, fun q' h1 z => absurd z (no q' h1)⟩
/-- a call behind which the reference knows no problem -/
theorem JS.nk (hJ : JS B V) (hI : PbI V q t n R nt fa h x cs) (hq : q < 4) (k : Fc V V' (enK q)) (e1 : vI V' 6 0 62 = -1) (e2 : vI V' 6 0 63 = vI V 6 33 q ∨ vI V' 6 0 63 = vI V 6 0 63) (hh : vI V' (q + 1) 0 8 = nI h' ∧ h' < plR R) (hm : Hq V' q (tcR R 1) (szR R) h') : JS B V' := by
  have k' : Fc V V' (enS q) := k.mono (fun a f j y => y.1)
  have no : ∀ q', q' < 4 → ¬ vI V' 6 0 62 = nI q' := fun q' h1 z => by
    rw [e1] at z
    exact absurd (by rw [← z]; decide) (nI_pos (n := q') (by omega))
  have hI' := hI.en k' (fun z _ => absurd z (no q hq)) hh hm
  exact hJ.en hq k' (hJ.2.1.ex k (fun y => y.2.1 (by omega)) (fun y => y.2.1 (by omega)) (fun y => y.2.1 (by omega)) (fun y => y.2.2 (by omega)) (fun y => y.2.2 (by omega)) (fun y => by have := y.1; unfold enS at this; omega)) (hJ.2.2.2.1.ex k (fun j hj y => y.2.1 (by omega)) (fun j h1 h2 y => y.2.2 (by omega))) (hJ.2.2.2.2.2.2.1.no hq e1 e2 (fun j => k.i (fun y => by have := y.1; unfold enS at this; omega))) (fun q' h1 _ => no q' h1) (Or.inr ⟨t, n, R, nt, fa, h', x, cs, hI'⟩)
abbrev rbL (R : List SR) (nt : Nat → Int32) (FT : Nat → Nat → Int32) (U h : Nat) (x : Int32) : List Nat := (List.range (plR R)).filter (fun p => agr (szR R) (tcR R 1) (tst x) h p && alF R nt FT U p)
theorem c_mostRobust {K : Int32 → VH → Prop} (h0 : 8 < d) (hW : WF V) (hI : PbI V q t n R nt fa h x cs) (hF : FtI V q R U od FT) (hk0 : rbL R nt FT U h x = [] → ∀ V', Fc V V' (csS q) → K (-1) V') (hk1 : rbL R nt FT U h x ≠ [] → ∀ V', Fc V V' (csS q) → K (nI (bst (smQ R nt od FT U) (rbL R nt FT U h x))) V') : vMI E d M_X3_mostRobust [sl (q + 1) 0] V K := by
  have hg := hI.2.1.1
  have p20 := hI.p20
  refine w_X3_mostRobust_0 hg (by omega) ?_
  rw [hI.hnd.1, hI.2.1.2.2.2.2.2.2.2.2.2.1]
  refine c_lowest (by omega) hI.sp hI.hnd.2 ?_
  have stt : ∀ (o : Option Nat) (V1 : VH), o = (if rbL R nt FT U h x = [] then none else some (bst (smQ R nt od FT U) (rbL R nt FT U h x))) → Fc V V1 (csS q) → K (cuI o) V1 := fun o V1 eo f1 => by
    by_cases c : rbL R nt FT U h x = []
    · rw [if_pos c] at eo
      rw [eo]; exact hk0 c V1 f1
    · rw [if_neg c] at eo
      rw [eo]; exact hk1 c V1 f1
  refine en_loop (fx := tst x) (h := h) (f := fun o p => if alF R nt FT U p = true then fbs (smQ R nt od FT U) o p else o) (a := none) hI.sp.pos hI.hnd.2 (fun c m o => (∀ c, o = some c → c < plR R) → ∀ V1, Fc V V1 (csS q) → (∀ c, o = some c → ∀ l, l < 3 → vJ V1 (q + 1) 31 l = smQ R nt od FT U c l) → vwp E d M_X3_mostRobust 20 [some (sl (q + 1) 0), some (wi (cuI o)), some (wi (cuI c)), some (wi (nI m))] [] V1 (zi K)) (fun m hlt V1 f1 ho => ?_) (fun p m o hp hm ha ih hlt V1 f1 ho => ?_) (fun c z => absurd z (by simp)) V Fc.refl (fun c z => absurd z (by simp))
  · have e := stt _ V1 fbs_fold f1
    exact w_X3_mostRobust_20 (by rw [f1.l]; exact hg) (by omega) ⟨fun _ => e, fun _ => ⟨fun _ => e, fun z => absurd (by decide) z⟩⟩
  · have hp : p < plR R := hp
    have hg1 : PG (vL V1) (q + 1) := by rw [f1.l]; exact hg
    have S1 : Sp V1 (q + 1) (tcR R 1) (szR R) (vlR R) := hI.sp.fc f1 (fun f i z y => by have := y.2; omega)
    have next : ∀ (V2 : VH) (o' : Option Nat), Fc V V2 (csS q) → o' = (if alF R nt FT U p = true then fbs (smQ R nt od FT U) o p else o) → (∀ c, o' = some c → c < plR R) → (∀ c, o' = some c → ∀ l, l < 3 → vJ V2 (q + 1) 31 l = smQ R nt od FT U c l) → vwp E d M_X3_mostRobust 77 [some (sl (q + 1) 0), some (wi (cuI o')), some (wi (nI p)), some (wi (nI m))] [] V2 (zi K) := fun V2 o' f2 eo hlt' ho' => by
      rw [← eo] at ih
      have ih := ih hlt' V2 f2 ho'
      refine w_X3_mostRobust_77 (by rw [f2.l]; exact hg) (by omega) ?_
      rw [f2.i (fun y => by have := y.2; omega), hI.2.1.2.2.2.2.2.2.2.2.2.1, nI_1]
      refine c_following (by omega) (hI.sp.fc f2 (fun f i z y => by have := y.2; omega)) hp (fun e => ?_) (fun q' e => ?_)
      · rw [e] at ih; exact ih
      · rw [e] at ih; exact ih
    refine w_X3_mostRobust_20 hg1 (by omega) ⟨fun z => absurd z (by rw [S1.2.2.2.1]; exact nI_ge (show m < plR R by omega) (by show plR R < _; omega)), fun _ => ⟨fun z => absurd z (nI_pos (by omega)), fun _ => c_sumF (by omega) hW hI hF f1 (by omega) (fun V2 f2 e31 e28 => ⟨fun z => ?_, fun z => ?_⟩)⟩⟩
    · exact next V2 o f2 (by rw [if_neg (by rw [bI_0.mp z]; decide)]) hlt (fun c ec l hl => by rw [e31 l]; exact ho c ec l hl)
    · have eo : (if alF R nt FT U p = true then fbs (smQ R nt od FT U) o p else o) = fbs (smQ R nt od FT U) o p := if_pos (bI_1.mp z)
      have take : fbs (smQ R nt od FT U) o p = some p → vwp E d M_X3_mostRobust 61 [some (sl (q + 1) 0), some (wi (cuI o)), some (wi (nI p)), some (wi (nI m))] [] V2 (zi K) := fun eb => by
        refine w_X3_mostRobust_61 (by rw [f2.l]; exact hg) (by omega) (fun V6 e6 => ?_)
        have e6 : V6 = cpyJ V2 (q + 1) 28 (q + 1) 31 0 0 3 := e6
        have f6 : Fc V V6 (csS q) := f2.trans (by rw [e6]; exact Fc_cpyJ (fun i => ⟨rfl, by omega⟩))
        exact next V6 (some p) f6 (by rw [eo, eb]) (fun c ec => by rw [← Option.some.inj ec]; exact hp) (fun c ec l hl => by rw [← Option.some.inj ec, e6, cpy3 hl]; exact e28 l hl)
      cases o with
      | none => exact ⟨fun _ => take rfl, fun z => absurd (by decide) z⟩
      | some c =>
        have hc := hlt c rfl
        refine ⟨fun z => absurd z (nI_pos (n := c) (by omega)), fun _ => ?_⟩
        have e31c : ∀ l, l < 3 → vJ V2 (q + 1) 31 l = smQ R nt od FT U c l := fun l hl => by rw [e31 l]; exact ho c rfl l hl
        refine c_isLess (sc := smQ R nt od FT U) (p := p) (c := c) (by rw [f2.l]; exact sP_28 hg) (by rw [f2.l]; exact sP_31 hg) (by rw [f2.n]; exact vnP hW hg (by decide)) (by rw [f2.n]; exact vnP hW hg (by decide)) e28 e31c ⟨fun z => ?_, fun z => ?_⟩
        · have eb : fbs (smQ R nt od FT U) (some c) p = some c := by
            show (if btr (smQ R nt od FT U) p c = true then some p else some c) = some c
            rw [bI_0.mp z]; rfl
          exact next V2 (some c) f2 (by rw [eo, eb]) hlt (fun c' ec l hl => by rw [← Option.some.inj ec]; exact e31c l hl)
        · have eb : fbs (smQ R nt od FT U) (some c) p = some p := by
            show (if btr (smQ R nt od FT U) p c = true then some p else some c) = some p
            rw [bI_1.mp z]; rfl
          exact take eb
/-- the reference weighs all plans in a future -/
theorem c_weighU {u : Nat} {K : VH → Prop} (h0 : 170 < d) (hs : PrS t n R nt) (hm : MiQ V q t n R fa h x cs) (hu6 : u < 6) (bF : Bds (tcR R 0) (FT u)) (eF : ∀ f, f < tcR R 0 → FT u f = tfv V q (some u) f) (hk : ∀ V', Fc V V' waS → WqR V' R nt (FT u) → vI V' 6 0 62 = -1 → vI V' 6 0 63 = vI V 6 33 q → K V') : vMV E d M_X12_weighAll [sl 6 0, wi (nI q), wi (nI u)] V K := by
  refine c_weighAllM (u := some u) (by omega) hm.1.2.2.2.2.1 (hm.1.rq hs (by omega)) (fun r _ => PrS.dx r) (fun a _ => PrS.dxa a) (hs.2.2.2.1.1 0 (by decide)) (hm.1.2.2.1.1 0 (by decide)).1 (fun f hf => by rw [← eF f hf]; exact bF f hf) (fun v hv k hk => hs.vls hv hk) (fun j ej => by rw [← Option.some.inj ej]; exact hu6) (fun V' f w a b => hk V' f (WqR.fcts (R := R) (nt := nt) w (fun f hf => (eF f hf).symm)) a b)
end
