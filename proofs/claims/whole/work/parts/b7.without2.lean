def oI (o : Option Nat) : Int32 := match o with
  | none => 0
  | some _ => 1
theorem fbs_fold {sc : Nat → Nat → Int64} {F : Nat → Bool} {A : Nat → Bool} {b : Nat} : fA A (fun o p => if F p = true then fbs sc o p else o) none b = if (List.range b).filter (fun p => A p && F p) = [] then none else some (bst sc ((List.range b).filter (fun p => A p && F p))) := by
  rw [fA_foldl, ← List.foldl_filter, List.filter_filter, fbs_list]
  have e : (fun a => F a && A a) = fun p => A p && F p := funext fun p => Bool.and_comm _ _
  rw [e]
section
variable {E : EE} {d : Nat} {V V' V1 V2 : VH} {q B : Nat} {t : Nat → Int32} {n : Nat} {R : List SR} {nt fa : Nat → Int32} {h h' : Nat} {x b : Int32} {cs : Nat → Int32}
abbrev woL (R : List SR) (nt fa : Nat → Int32) (h : Nat) (x : Int32) (r : Nat) : List Nat := gds (szR R) (tcR R 1) (tst x) h (scW R nt fa r)
/-- the class's trial of one plan -/
theorem bl_one {r p m : Nat} {x2 x3 : Int32} {K : Int32 → VH → Prop} (h0 : 6 < d) (hW : WF V) (hI : PbI V q t n R nt fa h x cs) (s : Scd V q R nt fa) (hr : r < tcR R 2) (hp : p < plR R) (f1 : Fc V V1 (csS q))
    (hk : ∀ V2, Fc V V2 (csS q) → (∀ l, vJ V2 (q + 1) 28 l = vJ V1 (q + 1) 28 l) → (∀ l, l < 3 → vJ V2 (q + 1) 31 l = scW R nt fa r p l) → (x2 = 0 → vwp E d M_X3_bestLacking 172 [some (sl (q + 1) 0), some (wi (nI r)), some (wi x2), some (wi x3), some (wi (nI p)), some (wi (nI m)), some (wi 3)] [] V2 (zi K)) ∧ (¬ (x2 = 0) → vMI E (d - 1) M_X3_isLess [sl (q + 1) 31, sl (q + 1) 28] V2 (fun r13 V13 => (r13 = 0 → vwp E d M_X3_bestLacking 186 [some (sl (q + 1) 0), some (wi (nI r)), some (wi x2), some (wi x3), some (wi (nI p)), some (wi (nI m)), some (wi 3)] [] V13 (zi K)) ∧ (¬ (r13 = 0) → vwp E d M_X3_bestLacking 172 [some (sl (q + 1) 0), some (wi (nI r)), some (wi x2), some (wi x3), some (wi (nI p)), some (wi (nI m)), some (wi 3)] [] V13 (zi K))))) :
    vwp E d M_X3_bestLacking 70 [some (sl (q + 1) 0), some (wi (nI r)), some (wi x2), some (wi x3), some (wi (nI p)), some (wi (nI m)), some (wi 0)] [] V1 (zi K) := by
  have r24 : tcR R 2 ≤ 24 := hI.1.2.2.2.1.1 2 (by decide)
  have p20 := hI.p20
  obtain ⟨l3, el, ⟨w, ew, w1, w2⟩, _⟩ := hI.1.rule hr
  have fill : ∀ k l V2, l + k = 3 → Fc V V2 (csS q) → (∀ j, vJ V2 (q + 1) 28 j = vJ V1 (q + 1) 28 j) → (∀ j, j < l → vJ V2 (q + 1) 31 j = scQ R nt fa p j) → vwp E d M_X3_bestLacking 70 [some (sl (q + 1) 0), some (wi (nI r)), some (wi x2), some (wi x3), some (wi (nI p)), some (wi (nI m)), some (wi (nI l))] [] V2 (zi K) := by
    intro k
    induction k with
    | zero =>
      intro l V2 e f2 e28 e31
      have l3' : l = 3 := by omega
      subst l3'
      have hg2 : PG (vL V2) (q + 1) := by rw [f2.l]; exact hI.2.1.1
      refine w_X3_bestLacking_70 hg2 (by omega) ⟨fun _ => c_lookQ (by omega) hI f2 (by omega) (fun V3 f3 g3 s3 => ?_), fun z => absurd (nI_le (a := 3) (b := 3) (Nat.le_refl _) (by decide)) z⟩
      have c10 : vI V3 (q + 1) 10 r = nI (lvn R r) := by
        rw [f3.i (fun y => by have := y.2; omega)]
        exact ((hI.2.1.rl (E := E) (d := d) hI.1 (by omega)).2.2.2.2.2.1 r hr).2.1
      have c11 : vI V3 (q + 1) 11 r = wtR R r := by
        rw [f3.i (fun y => by have := y.2; omega)]
        exact ((hI.2.1.rl (E := E) (d := d) hI.1 (by omega)).2.2.2.2.2.1 r hr).2.2.1
      rw [nI_clamp (show r < 2 ^ 31 by omega), c10, c11, nI_clamp (show lvn R r < 2 ^ 31 by omega)]
      have v3 : vp_in (nI (lvn R r)) 3 := vp_in_nI l3 (by decide)
      refine ⟨vp_in_nI (by omega) (by decide), v3, vp_in_nI (by omega) (by decide), c_runQ (by omega) hW hI f3 s3 hr (fun V7 f7 g7 => ⟨v3, fun V12 e12 => ?_⟩)⟩
      have j3 : ∀ a l, vJ V3 (q + 1) a l = vJ V2 (q + 1) a l ∨ a = 18 := fun a l => by
        by_cases c : a = 18
        · exact Or.inr c
        · exact Or.inl (g3.j (fun y => c y.2))
      have k3 : ∀ a l, a ≠ 18 → vJ V3 (q + 1) a l = vJ V2 (q + 1) a l := fun a l c => (j3 a l).resolve_right c
      have k7 : ∀ a l, a ≠ 9 → a ≠ 17 → vJ V7 (q + 1) a l = vJ V3 (q + 1) a l := fun a l c1 c2 => g7.j (fun y => by have := y.2; omega)
      have f12 : Fc V V12 (csS q) := f7.trans (by rw [e12]; exact Fc_wrJ ⟨rfl, by omega⟩)
      refine hk V12 f12 (fun j => ?_) (fun j hj => ?_)
      · rw [e12, wrJ_ne (fun z => by omega), k7 28 j (by decide) (by decide), k3 28 j (by decide)]; exact e28 j
      · unfold scW
        by_cases c : j = lvn R r
        · rw [if_pos c, e12, c, wrJ_at, k3 31 _ (by decide), e31 _ l3]
        · rw [if_neg c, e12, wrJ_ne (fun z => c z.2.2), k7 31 j (by decide) (by decide), k3 31 j (by decide)]; exact e31 j hj
    | succ k ih =>
      intro l V2 e f2 e28 e31
      have hg2 : PG (vL V2) (q + 1) := by rw [f2.l]; exact hI.2.1.1
      have hl : l < 3 := by omega
      refine w_X3_bestLacking_70 hg2 (by omega) ⟨fun z => absurd z (nI_ge (b := 3) hl (by decide)), fun _ => c_scoreOf hg2 (s.fc f2).1 hp hl ⟨vp_in_nI hl (by decide), fun V21 e21 => ?_⟩⟩
      rw [nI_1, nI_clamp (show l < 2 ^ 31 by omega)] at *
      refine ih (l + 1) V21 (by omega) (f2.trans (by rw [e21]; exact Fc_wrJ ⟨rfl, by omega⟩)) (fun j => by rw [e21, wrJ_ne (fun z => by omega)]; exact e28 j) (fun j hj => ?_)
      by_cases c : j = l
      · rw [e21, c, wrJ_at]
      · rw [e21, wrJ_ne (fun z => c z.2.2)]; exact e31 j (by omega)
  exact fill 3 0 V1 rfl f1 (fun _ => rfl) (fun j hj => absurd hj (Nat.not_lt_zero j))
theorem c_bestLacking {r : Nat} {K : Int32 → VH → Prop} (h0 : 6 < d) (hW : WF V) (hI : PbI V q t n R nt fa h x cs) (s : Scd V q R nt fa) (hr : r < tcR R 2) (hk0 : woL R nt fa h x r = [] → ∀ V', Fc V V' (csS q) → K 0 V') (hk1 : woL R nt fa h x r ≠ [] → ∀ V', Fc V V' (csS q) → (∀ l, l < 3 → vJ V' (q + 1) 28 l = scW R nt fa r (bst (scW R nt fa r) (woL R nt fa h x r)) l) → K 1 V') : vMI E d M_X3_bestLacking [sl (q + 1) 0, wi (nI r)] V K := by
  have hg := hI.2.1.1
  have p20 := hI.p20
  have hs := hI.1
  have bd := hI.bd.2
  have r24 : tcR R 2 ≤ 24 := hs.2.2.2.1.1 2 (by decide)
  refine w_X3_bestLacking_0 hg (by omega) ?_
  rw [hI.hnd.1, hI.2.1.2.2.2.2.2.2.2.2.2.1]
  refine c_lowest (by omega) hI.sp hI.hnd.2 ?_
  generalize eY : vI V (q + 1) 9 0 &&& (((1 : Int32) <<< (nI r &&& 31)) ^^^ (-1)) = y
  have F : Nat → Bool := fun p => decide (stQ R nt fa p &&& y = 0)
  have eF : ∀ p, decide (stQ R nt fa p &&& y = 0) = decide (scW R nt fa r p 0 = 0) := fun p => by
    rw [← eY]
    exact decide_eq_decide.mpr (fea_wo E hs bd hI.2.1.2.2.2.2.1.1 hr p)
  have fin : fA (agr (szR R) (tcR R 1) (tst x) h) (fun o p => if decide (stQ R nt fa p &&& y = 0) = true then fbs (scW R nt fa r) o p else o) none (plR R) = if woL R nt fa h x r = [] then none else some (bst (scW R nt fa r) (woL R nt fa h x r)) := by
    rw [fbs_fold]
    have e : (fun p => agr (szR R) (tcR R 1) (tst x) h p && decide (stQ R nt fa p &&& y = 0)) = goo (szR R) (tcR R 1) (tst x) h (scW R nt fa r) := funext fun p => by
      show _ = (agr (szR R) (tcR R 1) (tst x) h p && decide (scW R nt fa r p 0 = 0))
      rw [eF p]
    rw [e]
    rfl
  have stt : ∀ (o : Option Nat) (V1 : VH), o = (if woL R nt fa h x r = [] then none else some (bst (scW R nt fa r) (woL R nt fa h x r))) → Fc V V1 (csS q) → (∀ c, o = some c → ∀ l, l < 3 → vJ V1 (q + 1) 28 l = scW R nt fa r c l) → bz (oI o) ∧ K (oI o) V1 := fun o V1 eo f1 ho => by
    by_cases c : woL R nt fa h x r = []
    · rw [if_pos c] at eo
      rw [eo]
      exact ⟨Or.inl rfl, hk0 c V1 f1⟩
    · rw [if_neg c] at eo
      rw [eo] at ho ⊢
      exact ⟨Or.inr rfl, hk1 c V1 f1 (ho _ rfl)⟩
  refine en_loop (fx := tst x) (h := h) (f := fun o p => if decide (stQ R nt fa p &&& y = 0) = true then fbs (scW R nt fa r) o p else o) (a := none) hI.sp.pos hI.hnd.2 (fun c m o => ∀ V1, Fc V V1 (csS q) → (∀ c, o = some c → ∀ l, l < 3 → vJ V1 (q + 1) 28 l = scW R nt fa r c l) → vwp E d M_X3_bestLacking 36 [some (sl (q + 1) 0), some (wi (nI r)), some (wi (oI o)), some (wi y), some (wi (cuI c)), some (wi (nI m)), none] [] V1 (zi K)) (fun m V1 f1 ho => ?_) (fun p m o hp hm ha ih V1 f1 ho => ?_) V Fc.refl (fun c z => absurd z (by simp))
  · have e := stt _ V1 fin f1 ho
    exact w_X3_bestLacking_36 (by rw [f1.l]; exact hg) (by omega) ⟨fun _ => e, fun _ => ⟨fun _ => e, fun z => absurd (by decide) z⟩⟩
  · have hp : p < plR R := hp
    have hg1 : PG (vL V1) (q + 1) := by rw [f1.l]; exact hg
    have S1 : Sp V1 (q + 1) (tcR R 1) (szR R) (vlR R) := hI.sp.fc f1 (fun f i z y => by have := y.2; omega)
    have next : ∀ (V2 : VH) (o' : Option Nat), Fc V V2 (csS q) → o' = (if decide (stQ R nt fa p &&& y = 0) = true then fbs (scW R nt fa r) o p else o) → (∀ c, o' = some c → ∀ l, l < 3 → vJ V2 (q + 1) 28 l = scW R nt fa r c l) → vwp E d M_X3_bestLacking 188 [some (sl (q + 1) 0), some (wi (nI r)), some (wi (oI o')), some (wi y), some (wi (nI p)), some (wi (nI m)), none] [] V2 (zi K) := fun V2 o' f2 eo ho' => by
      rw [← eo] at ih
      have ih := ih V2 f2 ho'
      refine w_X3_bestLacking_188 (by rw [f2.l]; exact hg) (by omega) ?_
      rw [f2.i (fun y => by have := y.2; omega), hI.2.1.2.2.2.2.2.2.2.2.2.1, nI_1]
      refine c_following (by omega) (hI.sp.fc f2 (fun f i z y => by have := y.2; omega)) hp (fun e => ?_) (fun q' e => ?_)
      · rw [e] at ih; exact ih
      · rw [e] at ih; exact ih
    refine w_X3_bestLacking_36 hg1 (by omega) ⟨fun z => absurd z (by rw [S1.2.2.2.1]; exact nI_ge (show m < plR R by omega) (by show plR R < _; omega)), fun _ => ⟨fun z => absurd z (nI_pos (by omega)), fun _ => c_setOf hg1 (s.fc f1).1 hp ⟨fun z => ?_, fun z => ?_⟩⟩⟩
    · exact next V1 o f1 (by rw [if_neg (fun w => z (of_decide_eq_true w))]) ho
    · have eo : (if decide (stQ R nt fa p &&& y = 0) = true then fbs (scW R nt fa r) o p else o) = fbs (scW R nt fa r) o p := if_pos (decide_eq_true z)
      refine bl_one h0 hW hI s hr hp f1 (fun V2 f2 e28 e31 => ?_)
      have take : fbs (scW R nt fa r) o p = some p → ∀ V3, Fc V V3 (csS q) → (∀ l, l < 3 → vJ V3 (q + 1) 31 l = scW R nt fa r p l) → vwp E d M_X3_bestLacking 172 [some (sl (q + 1) 0), some (wi (nI r)), some (wi (oI o)), some (wi y), some (wi (nI p)), some (wi (nI m)), some (wi 3)] [] V3 (zi K) := fun eb V3 f3 e3 => by
        refine w_X3_bestLacking_172 (by rw [f3.l]; exact hg) (by omega) (fun V6 e6 => ?_)
        have e6 : V6 = cpyJ V3 (q + 1) 31 (q + 1) 28 0 0 3 := e6
        have f6 : Fc V V6 (csS q) := f3.trans (by rw [e6]; exact Fc_cpyJ (fun i => ⟨rfl, by omega⟩))
        exact w_X3_bestLacking_186 (by rw [f6.l]; exact hg) (next V6 (some p) f6 (by rw [eo, eb]) (fun c ec l hl => by rw [← Option.some.inj ec, e6, cpy3 hl]; exact e3 l hl))
      cases o with
      | none => exact ⟨fun _ => take rfl V2 f2 e31, fun z => absurd rfl z⟩
      | some c =>
        refine ⟨fun z => absurd z (show ¬ (1 : Int32) = 0 by decide), fun _ => ?_⟩
        have e28c : ∀ l, l < 3 → vJ V2 (q + 1) 28 l = scW R nt fa r c l := fun l hl => by rw [e28 l]; exact ho c rfl l hl
        refine c_isLess (sc := scW R nt fa r) (p := p) (c := c) (by rw [f2.l]; exact sP_31 hg) (by rw [f2.l]; exact sP_28 hg) (by rw [f2.n]; exact vnP hW hg (by decide)) (by rw [f2.n]; exact vnP hW hg (by decide)) e31 e28c ⟨fun z => ?_, fun z => ?_⟩
        · have eb : fbs (scW R nt fa r) (some c) p = some c := by
            show (if btr (scW R nt fa r) p c = true then some p else some c) = some c
            rw [bI_0.mp z]; rfl
          exact w_X3_bestLacking_186 (by rw [f2.l]; exact hg) (next V2 (some c) f2 (by rw [eo, eb]) (fun c' ec l hl => by rw [← Option.some.inj ec]; exact e28c l hl))
        · have eb : fbs (scW R nt fa r) (some c) p = some p := by
            show (if btr (scW R nt fa r) p c = true then some p else some c) = some p
            rw [bI_1.mp z]; rfl
          exact take eb V2 f2 e31
end
