/-! has, choices, mend -/
/-- plans with value number w of u -/
def qVl (R : List SR) (u : Nat) (w : Int32) (p : Nat) : Bool := decide (nI (Dg (szR R) (tcR R 1) u p) = w)
section
variable {E : EE} {d : Nat} {V V' : VH} {g q B : Nat} {t : Nat → Int32} {n : Nat} {R : List SR} {nt fa : Nat → Int32} {h h' : Nat} {x b : Int32} {cs : Nat → Int32}
theorem c_keepValue {u m : Nat} {w : Int32} {L : List Nat} {K : Int32 → VH → Prop} (h0 : 1 < d) (hS : Sp V g (tcR R 1) (szR R) (vlR R)) (hu : u < tcR R 1) (hm : m ≤ vN V g 20) (hm2 : vN V g 20 ≤ 20000) (hL : Ls V g L) (hn : ∀ x ∈ L, x < 20000) (hlen : L.length ≤ m) (hk : ∀ V', Fc V V' (lsS g) → Ls V' g (L.filter (qVl R u w)) → K (nI (L.filter (qVl R u w)).length) V') : vMI E d M_X9_keepValue [sl g 19, sl g 5, wi (nI u), wi w] V K := by
  have hg := hS.1
  have sift : ∀ (k j : Nat) (V1 : VH), j + k = L.length → Fc V V1 (lsS g) → vI V1 g 19 3 = nI L.length → Sft V1 g L (qVl R u w) j → vwp E d M_X9_keepValue 6 [some (sl g 19), some (sl g 5), some (wi (nI u)), some (wi w), some (wi (nI ((L.take j).filter (qVl R u w)).length)), some (wi (nI j))] [] V1 (zi K) := by
    intro k
    induction k with
    | zero =>
      intro j V1 ej f1 l1 s1
      have hg1 : PG (vL V1) g := by rw [f1.l]; exact hg
      refine w_X9_keepValue_6 hg1 (by omega) ⟨fun _ V2 e2 => ?_, fun z => absurd (by rw [l1]; exact nI_le (by omega) (by omega)) z⟩
      have e : L.take j = L := List.take_of_length_le (by omega)
      have l2 := s1.end_ (by omega) e2
      rw [e]
      exact hk V2 (f1.trans (by rw [e2]; exact Fc_wrI ⟨rfl, Or.inl ⟨rfl, rfl⟩⟩)) l2
    | succ k ih =>
      intro j V1 ej f1 l1 s1
      have hg1 : PG (vL V1) g := by rw [f1.l]; exact hg
      have S1 : Sp V1 g (tcR R 1) (szR R) (vlR R) := hS.fc f1 (fun f i z y => by obtain ⟨_, y⟩ := y; omega)
      have n1 : vN V1 = vN V := f1.n
      have hj : j < L.length := by omega
      have pl := hn _ (getD_mem hj)
      have sl := sft_len (L := L) (P := qVl R u w) (j := j)
      refine w_X9_keepValue_6 hg1 (by omega) ⟨fun z => absurd z (by rw [l1]; exact nI_ge (by omega) (by omega)), fun _ => ?_⟩
      rw [n1, nI_clamp (show j < 2 ^ 31 by omega), s1.2 j (Nat.le_refl _) (by omega)]
      refine ⟨vp_in_nI (by omega) (by omega), c_placeOf S1 hu (by omega) ⟨fun z => ?_, fun z => ?_⟩⟩
      · obtain ⟨s2, e2⟩ := s1.no (by omega) (by unfold qVl; rw [decide_eq_false z]; decide)
        refine w_X9_keepValue_48 hg1 ?_
        rw [nI_1, ← e2]
        exact ih (j + 1) V1 (by omega) f1 l1 s2
      · rw [n1, nI_clamp (show ((L.take j).filter (qVl R u w)).length < 2 ^ 31 by omega), s1.2 j (Nat.le_refl _) (by omega)]
        refine ⟨vp_in_nI (by omega) (by omega), vp_in_nI (by omega) (by omega), fun V8 e8 => ?_⟩
        obtain ⟨s2, e2⟩ := s1.yes (by omega) (by unfold qVl; exact decide_eq_true z) e8
        have f8 : Fc V1 V8 (lsS g) := by rw [e8]; exact Fc_wrI ⟨rfl, Or.inr rfl⟩
        have hg8 : PG (vL V8) g := by rw [f8.l]; exact hg1
        refine w_X9_keepValue_48 hg8 ?_
        rw [nI_1, nI_1, ← e2]
        exact ih (j + 1) V8 (by omega) (f1.trans f8) (by rw [e8, wrI_ne (fun z => by omega)]; exact l1) s2
  refine w_X9_keepValue_0 hg ?_
  have := sift L.length 0 V (by omega) Fc.refl hL.1 (Sft.start hL)
  rw [List.take_zero, List.filter_nil] at this
  exact this
theorem c_show0 {x1 : Int64} {K : VH → Prop} (h0 : 0 < d) (hk : K (wrJ (wrJ V 0 28 10 0) 0 28 11 1)) : vMV E d M_X11_show [sl 0 28, wj x1, wj 0] V K :=
  w_X11_show_0 h0 (w_X11_show_12 ⟨fun z => absurd z (by decide), fun _ => ⟨fun _ => w_X11_show_48 ⟨fun _ => w_X11_show_62 (w_X11_show_70 (fun V1 e1 => ⟨fun _ => w_X11_show_87 (w_X11_show_95 (fun V2 e2 => by rw [e2, e1]; exact hk)), fun z => absurd rfl z⟩)), fun z => absurd rfl z⟩, fun z => absurd rfl z⟩⟩)
theorem jI_ne {n : Nat} (h : n ≠ 0) (h2 : n < 2 ^ 31) : Int32.toInt64 (nI n) ≠ 0 := fun z => h (by
  have : (Int32.toInt64 (nI n)).toInt = 0 := by rw [z]; decide
  rw [Int32.toInt_toInt64, show (nI n).toInt = (n : Int) from Int32.toInt_ofNat_of_lt h2] at this
  omega)
theorem has_go {u : Nat} {w y b : Int32} {K : Int32 → VH → Prop} (h0 : 3 < d) (hm : KnM V q t n R nt fa h x cs) (hu : u < tcR R 1) (hk1 : (gL b R nt fa h x).length = 0 → K 0 (wrJ (wrJ V 6 0 2 0) 6 0 3 1)) (hk2 : (gL b R nt fa h x).length ≠ 0 → K (nI ((gL b R nt fa h x).filter (qVl R u w)).length) (wrJ (wrJ V 6 0 2 (Int32.toInt64 (nI ((gL b R nt fa h x).filter (qVl R u w)).length) / gcj (Int32.toInt64 (nI ((gL b R nt fa h x).filter (qVl R u w)).length)) (Int32.toInt64 (nI (gL b R nt fa h x).length)))) 6 0 3 (Int32.toInt64 (nI (gL b R nt fa h x).length) / gcj (Int32.toInt64 (nI ((gL b R nt fa h x).filter (qVl R u w)).length)) (Int32.toInt64 (nI (gL b R nt fa h x).length))))) : ∀ m p, p + m = plR R → vwp E d M_X12_has 43 [some (sl 6 0), some (wi (nI q)), some (wi (nI u)), some (wi y), some (wi b), some (wi (fbI R nt fa h x)), some (wi w), some (wi (nI (cnL (fun p => qVl R u w p && gPB b R nt fa h x p) p))), some (wi (nI (cnL (gPB b R nt fa h x) p))), some (wi (nI p))] [] V (zi K) := by
  have p20 := hm.p20
  have q5 := hm.q5
  have pl := hm.pl
  have eF : ((gL b R nt fa h x).filter (qVl R u w)).length = cnL (fun p => qVl R u w p && gPB b R nt fa h x p) (plR R) := by
    rw [gL_flt, List.filter_filter]; rfl
  have eL := gL_len (b := b) (R := R) (nt := nt) (fa := fa) (h := h) (x := x)
  intro m
  induction m with
  | zero =>
    intro p e
    have : p = plR R := by omega
    subst this
    have le := cnL_le (gPB b R nt fa h x) (plR R)
    refine w_X12_has_43 (by omega) ?_
    rw [nI_clamp (show q < 2 ^ 31 by omega), pl]
    refine ⟨vp_in_nI q5 (by decide), fun _ => ⟨fun z => w_X12_has_132 (by omega) (c_showM (jI_ne (fun y => z (by rw [y]; rfl)) (by omega)) ?_), fun z => w_X12_has_132 (by omega) (c_showM (by decide) ?_)⟩, fun z => absurd (nI_le (Nat.le_refl _) (by omega)) z⟩
    · have := hk2 (by rw [eL]; exact fun y => z (by rw [y]; rfl))
      rw [eF, eL] at this
      exact this
    · have z0 : cnL (gPB b R nt fa h x) (plR R) = 0 := (nI_eq (b := 0) (by omega) (by decide)).mp z
      have := hk1 (by rw [eL]; exact z0)
      have f0 : cnL (fun p => qVl R u w p && gPB b R nt fa h x p) (plR R) = 0 := by
        rw [← eF]
        have := List.length_filter_le (qVl R u w) (gL b R nt fa h x)
        omega
      rw [f0]
      rw [show Int32.toInt64 (nI 0) / gcj (Int32.toInt64 (nI 0)) 1 = 0 from by decide, show (1 : Int64) / gcj (Int32.toInt64 (nI 0)) 1 = 1 from by decide]
      exact this
  | succ m ih =>
    intro p e
    have hp : p < plR R := by omega
    have no : gPB b R nt fa h x p = false → vwp E d M_X12_has 110 [some (sl 6 0), some (wi (nI q)), some (wi (nI u)), some (wi y), some (wi b), some (wi (fbI R nt fa h x)), some (wi w), some (wi (nI (cnL (fun p => qVl R u w p && gPB b R nt fa h x p) p))), some (wi (nI (cnL (gPB b R nt fa h x) p))), some (wi (nI p))] [] V (zi K) := fun z => by
      refine w_X12_has_110 ?_
      have i := ih (p + 1) (by omega)
      rw [cnL_s, cnL_s, z, Bool.and_false, if_neg (by decide), Nat.add_zero, Nat.add_zero] at i
      rw [nI_1]; exact i
    have yes : gPB b R nt fa h x p = true → vwp E d M_X12_has 84 [some (sl 6 0), some (wi (nI q)), some (wi (nI u)), some (wi y), some (wi b), some (wi (fbI R nt fa h x)), some (wi w), some (wi (nI (cnL (fun p => qVl R u w p && gPB b R nt fa h x p) p))), some (wi (nI (cnL (gPB b R nt fa h x) p))), some (wi (nI p))] [] V (zi K) := fun z => by
      have i := ih (p + 1) (by omega)
      refine w_X12_has_84 (by omega) (c_place hm.sq hu (by omega) ⟨fun y => w_X12_has_107 (w_X12_has_110 ?_), fun y => w_X12_has_107 (w_X12_has_110 ?_)⟩)
      · have qv : qVl R u w p = false := decide_eq_false y
        rw [cnL_s, cnL_s, z, qv, Bool.false_and, if_neg (by decide), if_pos rfl, Nat.add_zero] at i
        rw [nI_1, nI_1, Int32.add_zero]; exact i
      · have qv : qVl R u w p = true := decide_eq_true y
        rw [cnL_s, cnL_s, z, qv, Bool.true_and, if_pos rfl] at i
        rw [nI_1, nI_1, nI_1]; exact i
    refine w_X12_has_43 (by omega) ?_
    rw [nI_clamp (show q < 2 ^ 31 by omega), pl]
    refine ⟨vp_in_nI q5 (by decide), fun z => absurd z (nI_ge hp (by omega)), fun _ => ⟨fun zb => c_isGood (by omega) hm.sq hm.hq hm.pq hm.tq hp ⟨fun z => no ?_, fun z => yes ?_⟩, fun zb => c_isBestM (by omega) hm hp zb ⟨fun z => no (bI_0.mp z), fun z => yes (bI_1.mp z)⟩⟩⟩
    · rw [bI_0] at z; subst zb; rw [gPB_0]; exact z
    · rw [bI_1] at z; subst zb; rw [gPB_0]; exact z
/-- a call that shows a fraction -/
theorem JS.es (hJ : JS B V) (hI : PbI V q t n R nt fa h x cs) (hq : q < 4) (k : Fc V V' (enS q)) (hs : ∀ j, j < 4 → vI V' 0 16 j = vI V 0 16 j) (hs2 : ∀ j, 76 ≤ j → j ≤ 79 → vI V' 6 0 j = vI V 6 0 j) (w : WqR V' R nt fa) (e1 : vI V' 6 0 62 = nI q) (e2 : vI V' 6 0 63 = vI V 6 33 q) (hb1 : vI V' 0 28 9 = vI V 0 28 9) (hb2 : vJ V' 0 28 10 = vJ V' 6 0 2) (hb3 : vJ V' 0 28 11 = vJ V' 6 0 3) (hh : vI V' (q + 1) 0 8 = nI h' ∧ h' < plR R) (hm : Hq V' q (tcR R 1) (szR R) h') : JS B V' := by
  have hI' := hI.en k (fun _ _ => w) hh hm
  refine hJ.en hq k ⟨?_, hb2, hb3⟩ ?_ (hJ.2.2.2.2.2.2.1.kn hq e1 e2 (fun j => k.i (fun y => by unfold enS at y; omega))) (fun q' h1 h2 z => ?_) (Or.inr ⟨t, n, R, nt, fa, h', x, cs, hI'⟩)
  · rw [hb1, k.i (fun y => by unfold enS at y; omega)]; exact hJ.2.1.1
  · unfold SeJ
    rw [hs 0 (by omega), hs 1 (by omega), hs 2 (by omega), hs 3 (by omega), hs2 76 (by omega) (by omega), hs2 77 (by omega) (by omega), hs2 78 (by omega) (by omega), hs2 79 (by omega) (by omega)]
    exact hJ.2.2.2.1
  · rw [e1] at z
    exact h2 ((nI_eq (by omega) (by omega)).mp z).symm
theorem wrJ_I {a b f k i : Nat} {v : Int64} : vI (wrJ V a b k v) g f i = vI V g f i := rfl
end
section
variable {E : EE} {d x B B' : Nat}
theorem o_has (h0 : 190 < d) (hB : B ≤ B') : VO_has E d (JA x B) (JA x B') := fun V a0 a1 a2 a3 hJ _ => liftI hJ (fun hW hS => by
  rcases hS.inQ a0 with ⟨hP, hM⟩ | ⟨q, t, n, R, nt, fa, h, px, cs, hq, rfl, hI⟩
  · exact nul_has (J := fun V2 => WF V2 → JS B' V2) (by omega) hW hP hM (fun _ => hS.mono hB)
  · have p20 := hI.p20
    refine w_X11_has_0 (by omega) (c_scoredQ (by omega) hW hq hS hI (fun V1 hS1 hI1 s1 => ⟨fun z => absurd hI1.2.1.1.1 z, fun _ => ⟨hI1.2.1.1.2, c_isVar hI1.sp (fun hn => ⟨fun z => absurd rfl z, fun _ => ?_⟩) (fun u hu e => ⟨fun _ => c_gatherFor (b := a3) (by omega) hI1 s1 (fun V4 f4 l4 => ?_), fun z => absurd z (by decide)⟩)⟩⟩))
    · exact w_X12_has_0 (by omega) (c_isVarM (by omega) hI1.1 hI1.mi hq (fun _ => ⟨fun z => absurd rfl z, fun _ => ⟨rfl, fun _ => hS1.mono hB⟩⟩) (fun u hu e => absurd e (hn u hu)))
    · subst e
      have gl := gL_le (b := a3) (R := R) (nt := nt) (fa := fa) (h := h) (x := px)
      have S4 : Sp V4 (q + 1) (tcR R 1) (szR R) (vlR R) := hI1.sp.fc f4 (fun f i z y => by obtain ⟨_, y⟩ := y; omega)
      obtain ⟨t1, t2, t3, _⟩ := s1.1
      generalize eW : cuI (fsb (fun k => decide (vlR R u k = a2)) (szR R u)) = w
      have body : vMI E (d - 1) M_X9_keepValue [sl (q + 1) 19, sl (q + 1) 5, wi (nI u), wi w] V4 (fun r18 V18 => vMV E (d - 1) M_X11_show [sl 0 28, wj (Int32.toInt64 r18), wj (Int32.toInt64 (nI (gL a3 R nt fa h px).length))] V18 (fun V22 => vMI E d M_X12_has [sl 6 0, wi (nI q), wi (nI u), wi a2, wi a3] V22 (fun r' V2 => r18 = r' ∧ (WF V2 → JS B' V2)))) := by
        refine c_keepValue (m := plR R) (R := R) (by omega) S4 hu (by rw [f4.n]; omega) (by rw [f4.n]; omega) l4 (fun p hp => by have := gL_lt hp; omega) gl (fun V8 f8 l8 => ?_)
        have fl := List.length_filter_le (qVl R u w) (gL a3 R nt fa h px)
        have f18 : Fc V1 V8 (lsS (q + 1)) := f4.trans f8
        have ref : ∀ (v10 v11 : Int64) (r : Int32), ((gL a3 R nt fa h px).length = 0 → r = 0 ∧ v10 = 0 ∧ v11 = 1) → ((gL a3 R nt fa h px).length ≠ 0 → r = nI ((gL a3 R nt fa h px).filter (qVl R u w)).length ∧ v10 = Int32.toInt64 (nI ((gL a3 R nt fa h px).filter (qVl R u w)).length) / gcj (Int32.toInt64 (nI ((gL a3 R nt fa h px).filter (qVl R u w)).length)) (Int32.toInt64 (nI (gL a3 R nt fa h px).length)) ∧ v11 = Int32.toInt64 (nI (gL a3 R nt fa h px).length) / gcj (Int32.toInt64 (nI ((gL a3 R nt fa h px).filter (qVl R u w)).length)) (Int32.toInt64 (nI (gL a3 R nt fa h px).length))) → vMI E d M_X12_has [sl 6 0, wi (nI q), wi (nI u), wi a2, wi a3] (wrJ (wrJ V8 0 28 10 v10) 0 28 11 v11) (fun r' V2 => r = r' ∧ (WF V2 → JS B' V2)) := by
          intro v10 v11 r c1 c2
          have k9 : Fc V1 (wrJ (wrJ V8 0 28 10 v10) 0 28 11 v11) (fun a f j => lsS (q + 1) a f j ∨ a = 0 ∧ f = 28 ∧ (j = 10 ∨ j = 11)) := (f18.mono (fun a f j y => Or.inl y)).trans ((Fc_wrJ (Or.inr ⟨rfl, rfl, Or.inl rfl⟩)).trans (Fc_wrJ (Or.inr ⟨rfl, rfl, Or.inr rfl⟩)))
          have n6 : ∀ f j, ¬ (lsS (q + 1) 6 f j ∨ 6 = 0 ∧ f = 28 ∧ (j = 10 ∨ j = 11)) := fun f j y => by rcases y with y | y; have := y.1; omega; exact absurd y.1 (by decide)
          have mi := hI1.mi.fc hI1.1 k9 (fun f j y => absurd y (n6 f j))
          refine w_X12_has_0 (by omega) (c_isVarM (by omega) hI1.1 mi hq (fun z => absurd rfl (z u hu)) (fun _ _ _ => ⟨fun _ => know_go (by omega) hI1 k9 n6 (fun V2 f2 w2 mi2 e1 e2 => c_fb (by omega) ⟨mi2, w2⟩ (c_placeOfM mi2.1.2.2.2.2.1 hu ?_)), fun z => absurd z (by decide)⟩))
          rw [eW]
          have fin : ∀ V3, V3 = wrJ (wrJ V2 6 0 2 v10) 6 0 3 v11 → JS B' V3 := fun V3 e3 => by
            have k3 : Fc V2 V3 (fun a f j => a = 6 ∧ f = 0 ∧ (j = 2 ∨ j = 3)) := by rw [e3]; exact (Fc_wrJ ⟨rfl, rfl, Or.inl rfl⟩).trans (Fc_wrJ ⟨rfl, rfl, Or.inr rfl⟩)
            have i3 : ∀ a f j, vI V3 a f j = vI V2 a f j := fun a f j => by rw [e3]; rfl
            have c20 : ∀ f j, vI V2 0 f j = vI V1 0 f j := fun f j => by
              rw [f2.i (fun y => by rcases y with ⟨y, _⟩ | ⟨y, _⟩ <;> omega), wrJ_I, wrJ_I, f18.i (fun y => by have := y.1; omega)]
            have kk : Fc V1 V3 (enS q) := ((k9.mono (fun a f j y => by
              rcases y with y | ⟨y1, y2, y3⟩
              · exact (lsS_ek y).1
              · exact Or.inr (Or.inr ⟨y1, by omega⟩))).trans (f2.mono (fun a f j y => (waS_ek y).1))).trans (k3.mono (fun a f j y => Or.inr (Or.inl ⟨y.1, by have := y.2; omega⟩)))
            refine (hS1.es (h' := h) hI1 hq kk (fun j hj => by rw [i3]; exact c20 16 j) (fun j h1 h2 => ?_) (w2.fc k3 (fun f j z y => by have := y.2.1; omega)) (by rw [i3]; exact e1) (by rw [i3]; exact e2) (by rw [i3]; exact c20 28 9) ?_ ?_ ⟨?_, hI1.hnd.2⟩ ⟨mi2.1.2.2.2.2.2.2.2.2.1.1, fun v hv => by rw [i3]; exact mi2.1.2.2.2.2.2.2.2.2.1.2 v hv⟩).mono hB
            · rw [i3, f2.i (fun y => by rcases y with ⟨_, y⟩ | ⟨_, y⟩ <;> omega), wrJ_I, wrJ_I, f18.i (fun y => by have := y.1; omega)]
            · rw [e3, wrJ_ne (fun z => by omega), wrJ_ne (fun z => by omega), f2.j (fun y => by rcases y with ⟨y, _⟩ | ⟨y, _⟩ <;> omega), wrJ_ne (fun z => by omega), wrJ_at, wrJ_ne (fun z => by omega), wrJ_at]
            · rw [e3, wrJ_ne (fun z => by omega), wrJ_ne (fun z => by omega), f2.j (fun y => by rcases y with ⟨y, _⟩ | ⟨y, _⟩ <;> omega), wrJ_at, wrJ_at]
            · rw [i3, f2.i (fun y => by rcases y with ⟨y, _⟩ | ⟨y, _⟩ <;> omega), wrJ_I, wrJ_I, f18.i (fun y => by have := y.2; omega)]
              exact hI1.hnd.1
          refine has_go (E := E) (d := d) (u := u) (w := w) (y := a2) (b := a3) (K := fun r' V2 => r = r' ∧ (WF V2 → JS B' V2)) (by omega) ⟨mi2, w2⟩ hu (fun z => ?_) (fun z => ?_) (plR R) 0 (Nat.zero_add _)
          · obtain ⟨z1, z2, z3⟩ := c1 z
            rw [z2, z3] at fin
            exact ⟨z1, fun _ => fin _ rfl⟩
          · obtain ⟨z1, z2, z3⟩ := c2 z
            rw [z2, z3] at fin
            exact ⟨z1, fun _ => fin _ rfl⟩
        by_cases c : (gL a3 R nt fa h px).length = 0
        · have e0 : ((gL a3 R nt fa h px).filter (qVl R u w)).length = 0 := by omega
          rw [c, e0]
          exact c_show0 (by omega) (ref 0 1 (nI 0) (fun _ => ⟨rfl, rfl, rfl⟩) (fun z => absurd c z))
        · exact c_show (by omega) (jI_ne c (by omega)) (ref _ _ _ (fun z => absurd z c) (fun _ => ⟨rfl, rfl, rfl⟩))
      refine c_placeOfValue S4 (fun hn => ?_) (fun u' k hu' eu hk ek mn => ?_)
      · have : w = -1 := by
          rw [← eW]
          rcases fsb_pl (sz := szR R u) (vl := vlR R u) (y := a2) with ⟨w1, _⟩ | ⟨k, hk, ek, _⟩
          · rw [w1]; rfl
          · exact absurd ek (hn u hu rfl k hk)
        rw [this] at body; exact body
      · have : u = u' := (nI_eq (by have := hI.v12; omega) (by have := hI.v12; omega)).mp eu
        subst this
        have : w = nI k := by
          rw [← eW]
          rcases fsb_pl (sz := szR R u) (vl := vlR R u) (y := a2) with ⟨_, w2⟩ | ⟨k', hk', ek', mn', w2⟩
          · exact absurd ek (w2 k hk)
          · rw [w2]
            have : k = k' := by
              rcases Nat.lt_trichotomy k k' with z | z | z
              · exact absurd ek (mn' k z)
              · exact z
              · exact absurd ek' (mn k' z)
            rw [this]; rfl
        rw [this] at body; exact body)
end
