/-! values of the reference: units and factors -/
def mSp (E : EE) (d c : Nat) (V : VH) (K : Int64 → VH → Prop) : Prop := (c = 306 → vMJ E d M_X12_allValue [sl 6 0] V K) ∧ (c = 307 → vMJ E d M_X12_rowValue [sl 6 0] V K) ∧ (c = 308 → vMJ E d M_X12_lexValue [sl 6 0] V K) ∧ (c = 309 → vMJ E d M_X12_ringValue [sl 6 0] V K) ∧ (c = 310 → vMJ E d M_X12_autoValue [sl 6 0] V K) ∧ (c = 311 → vMJ E d M_X12_busyValue [sl 6 0] V K) ∧ (c = 312 → vMJ E d M_X12_apartValue [sl 6 0] V K)
/-- special tests say what their step says -/
def SpH (E : EE) (p : Nat) (T : Nat → TK) (M : MN) (L nv : Nat) (fa se nt : Nat → Int32) : Prop := ∀ (d i nb j1 : Nat) (N : List Int32), 3 < d → 306 ≤ (T i).1 → (T i).1 ≤ 312 → lst T M (T i).1 (i + 2) = .inr (j1, N) → (T j1).1 = 41 → i + 2 ≤ j1 → j1 < L → Ntd nt nb N → nb < 2 ^ 31 → Tv (spx nt (cut nv se) (nI ((T i).1 - 284)) nb) ∧ ∀ (V : VH) (K : Int64 → VH → Prop), EM V p T M 0 L fa se → EA V p (i + 2) → (∀ V', Fc V V' evS → EA V' p j1 → K (Int32.toInt64 (spx nt (cut nv se) (nI ((T i).1 - 284)) nb)) V') → mSp E d (T i).1 V K
section
variable {E : EE} {p : Nat} {T : Nat → TK} {M : MN} {L nf nv : Nat} {fa se nt : Nat → Int32} {f o : Nat}
theorem not_b (v : Int32) : Tv (if v = 0 then 1 else 0) ∧ Sv (if v = 0 then 1 else 0) := by
  by_cases c : v = 0
  · rw [if_pos c]; exact ⟨⟨by rw [t_1]; omega, by rw [t_1]; omega⟩, by rw [t_1]; omega, by rw [t_1]; omega⟩
  · rw [if_neg c]; exact ⟨⟨by rw [t_0]; omega, by rw [t_0]; omega⟩, by rw [t_0]; omega, by rw [t_0]; omega⟩
theorem PV_unit (hT : TL T L) (hL : L ≤ 20000) (hT2 : ∀ j, (T j).1 < 317) (hS : SpH E p T M L nv fa se nt) (h3 : ¬ 12 ≤ o → PV E p T M L nf nv fa se nt f 3 0 (o + 1)) (h0 : ¬ 12 ≤ o → PV E p T M L nf nv fa se nt f 0 0 (o + 1)) (h4 : PV E p T M L nf nv fa se nt f 4 0 o) : PV E p T M L nf nv fa se nt (f + 1) 3 0 o := by
  intro d i nb i1 C N st hd ho hi hnb hi1 hf e hN hs
  have hd' : 20 + 10 * (13 - o) + 5 ≤ d := hd
  have r0 : rnk 0 = 7 := rfl
  have r3 : rnk 3 = 4 := rfl
  have r4 : rnk 4 = 3 := rfl
  have d3 : rkD 3 = 5 := rfl
  have d0 : rkD 0 = 8 := rfl
  have d4 : rkD 4 = 4 := rfl
  have n0 : nds 0 = 5 := rfl
  have n3 : nds 3 = 3 := rfl
  have n4 : nds 4 = 2 := rfl
  rw [prs_3] at e
  have km : ∀ {V : VH} {j : Nat}, EM V p T M 0 L fa se → EA V p j → j < L → ∀ m : Nat, m < 1000 → (vI V 6 5 (Int32.toNatClampNeg (vI V 6 0 54)) = nI m ↔ (T j).1 = m) := fun {V j} hm ha hj m hm' => by rw [(hm.kd ha (Nat.zero_le _) hj).2.1]; exact kq m (hT2 j) hm'
  by_cases c1 : (T i).1 = 126
  · rw [if_pos c1] at e
    by_cases c12 : 12 ≤ o
    · rw [if_pos c12] at e
      exact nomatch (show (Sum.inl (7, (T i).f) : RS) = Sum.inr (i1, C, N) from e)
    rw [if_neg c12] at e
    obtain ⟨j1, C1, N1, p1, e⟩ := rsB_inr e
    obtain ⟨e1, e2, e3⟩ := rsO_inr e
    subst e1; subst e2; subst e3
    have iL : i < L := hT.lt hi (by rw [c1]; decide) (by rw [c1]; decide)
    obtain ⟨v1, x1, b1, k1⟩ := h3 c12 (d - 1) (i + 1) nb j1 C1 N1 st (by omega) (by omega) (by omega) (by omega) hi1 (by omega) p1 hN (by omega)
    refine ⟨if v1 = 0 then 1 else 0, ?_, (not_b v1).1, fun V K hm ha hk => ?_⟩
    · rw [exc_app, x1, exc_cons, exc_nil, stp_1 (by decide) (by decide) (by omega), on1_6]
    · show vMJ E d M_X12_unitValue [sl 6 0] V K
      have q := (km hm ha iL 126 (by decide)).mpr c1
      refine w_X12_unitValue_0 (by omega) ⟨(hm.kd ha (Nat.zero_le _) iL).1, fun z => absurd q z, fun _ V2 e2 => ?_⟩
      obtain ⟨a2, f2⟩ := ha.st 1 e2 rfl
      refine k1 V2 _ (hm.fc f2) a2 (fun V3 f3 a3 => ?_)
      have kk := hk V3 (f2.trans f3) a3
      refine ⟨fun z => ?_, fun z => ?_⟩
      · rw [if_neg (fun y => z (by rw [y]; rfl)), j_0] at kk; exact kk
      · rw [if_pos (j_inj.mp (z.trans j_0.symm)), j_1] at kk; exact kk
  rw [if_neg c1] at e
  by_cases c2 : (T i).1 = 123
  · rw [if_pos c2] at e
    by_cases c12 : 12 ≤ o
    · rw [if_pos c12] at e
      exact nomatch (show (Sum.inl (7, (T i).f) : RS) = Sum.inr (i1, C, N) from e)
    rw [if_neg c12] at e
    obtain ⟨j1, C1, N1, p1, e⟩ := rsB_inr e
    have iL : i < L := hT.lt hi (by rw [c2]; decide) (by rw [c2]; decide)
    by_cases c3 : (T j1).1 = 125
    · rw [if_pos c3] at e
      obtain ⟨e1, e2, e3⟩ := rsO_inr e
      subst e1; subst e2; subst e3
      obtain ⟨v1, x1, b1, k1⟩ := h0 c12 (d - 1) (i + 1) nb j1 C1 N1 st (by omega) (by omega) (by omega) (by omega) (by omega) (by omega) p1 hN (by omega)
      refine ⟨v1, x1, b1, fun V K hm ha hk => ?_⟩
      show vMJ E d M_X12_unitValue [sl 6 0] V K
      have q := (km hm ha iL 123 (by decide)).mpr c2
      have q1 := fun z => c1 ((km hm ha iL 126 (by decide)).mp z)
      refine w_X12_unitValue_0 (by omega) ⟨(hm.kd ha (Nat.zero_le _) iL).1, fun _ => ⟨fun z => absurd q z, fun _ V2 e2 => ?_⟩, fun z => absurd z q1⟩
      obtain ⟨a2, f2⟩ := ha.st 1 e2 rfl
      refine k1 V2 _ (hm.fc f2) a2 (fun V3 f3 a3 V20 e20 => ?_)
      obtain ⟨a4, f4⟩ := a3.st 1 e20 rfl
      exact hk V20 ((f2.trans f3).trans f4) a4
    · rw [if_neg c3] at e
      exact nomatch (show (Sum.inl (rfe T j1) : RS) = Sum.inr (i1, C, N) from e)
  rw [if_neg c2] at e
  by_cases c3 : 306 ≤ (T i).1 ∧ (T i).1 ≤ 312
  · rw [if_pos c3] at e
    unfold spc at e
    by_cases c4 : (T (i + 1)).1 = 40
    · rw [if_pos c4] at e
      obtain ⟨j1, N1, p1, e⟩ := nrB_inr e
      by_cases c5 : (T j1).1 = 41
      · rw [if_pos c5] at e
        obtain ⟨e1, e2, e3⟩ := rsO_inr e
        subst e1; subst e2; subst e3
        have iL : i < L := hT.lt hi (by omega) (by omega)
        have iL2 : i + 1 < L := hT.lt (by omega) (by rw [c4]; decide) (by rw [c4]; decide)
        have fit := lst_fit (M := M) hT (w := (T i).1) (show i + 2 ≤ L by omega)
        rw [p1] at fit
        have fit' : i + 2 + 0 ≤ j1 := fit.1
        obtain ⟨b1, k1⟩ := hS (d - 1) i nb j1 N1 (by omega) c3.1 c3.2 p1 c5 (by omega) (by omega) hN (by omega)
        have o22 : (22 : Int32) ≤ nI ((T i).1 - 284) := nI_le (a := 22) (by omega) (by omega)
        refine ⟨spx nt (cut nv se) (nI ((T i).1 - 284)) nb, ?_, b1, fun V K hm ha hk => ?_⟩
        · rw [exc_cons, exc_nil, stp_s o22 (by omega), nI_clamp (show nb < 2 ^ 31 by omega)]
        · show vMJ E d M_X12_unitValue [sl 6 0] V K
          obtain ⟨kv, k2, _⟩ := hm.kd ha (Nat.zero_le _) iL
          have q1 := fun z => c1 ((km hm ha iL 126 (by decide)).mp z)
          have q2 := fun z => c2 ((km hm ha iL 123 (by decide)).mp z)
          have kn := fun m hm' => (km hm ha iL m hm')
          refine w_X12_unitValue_0 (by omega) ⟨kv, fun _ => ⟨fun _ => ⟨fun z => absurd z (by rw [k2]; exact nI_nlt (b := 306) c3.1 (by omega)), fun _ => ⟨fun z => absurd z (by rw [k2]; exact nI_nlt (a := 312) c3.2 (by decide)), fun _ V2 e2 => ?_⟩⟩, fun z => absurd z q2⟩, fun z => absurd z q1⟩
          obtain ⟨a2, f2⟩ := ha.st 2 e2 rfl
          have fin : ∀ V3, Fc V2 V3 evS → EA V3 p j1 → vwp E d M_X12_unitValue 186 [some (sl 6 0), some (wi (vI V 6 5 (Int32.toNatClampNeg (vI V 6 0 54)))), none, none, none, none, none] [wj (Int32.toInt64 (spx nt (cut nv se) (nI ((T i).1 - 284)) nb))] V3 (zj K) := by
            intro V3 f3 a3
            refine w_X12_unitValue_186 (fun V4 e4 => ?_)
            obtain ⟨a4, f4⟩ := a3.st 1 e4 rfl
            exact hk V4 ((f2.trans f3).trans f4) a4
          have sp := k1 V2 (fun r V3 => vwp E d M_X12_unitValue 186 [some (sl 6 0), some (wi (vI V 6 5 (Int32.toNatClampNeg (vI V 6 0 54)))), none, none, none, none, none] [wj r] V3 (zj K)) (hm.fc f2) a2 fin
          obtain ⟨s6, s7, s8, s9, s10, s11, s12⟩ := sp
          refine ⟨fun n6 => ⟨fun n7 => ⟨fun n8 => ⟨fun n9 => ⟨fun n10 => ⟨fun n11 => s12 ?_, fun z => s11 ((kn 311 (by decide)).mp z)⟩, fun z => s10 ((kn 310 (by decide)).mp z)⟩, fun z => s9 ((kn 309 (by decide)).mp z)⟩, fun z => s8 ((kn 308 (by decide)).mp z)⟩, fun z => s7 ((kn 307 (by decide)).mp z)⟩, fun z => s6 ((kn 306 (by decide)).mp z)⟩
          have m6 : ¬ (T i).1 = 306 := fun z => n6 ((kn 306 (by decide)).mpr z)
          have m7 : ¬ (T i).1 = 307 := fun z => n7 ((kn 307 (by decide)).mpr z)
          have m8 : ¬ (T i).1 = 308 := fun z => n8 ((kn 308 (by decide)).mpr z)
          have m9 : ¬ (T i).1 = 309 := fun z => n9 ((kn 309 (by decide)).mpr z)
          have m10 : ¬ (T i).1 = 310 := fun z => n10 ((kn 310 (by decide)).mpr z)
          have m11 : ¬ (T i).1 = 311 := fun z => n11 ((kn 311 (by decide)).mpr z)
          omega
      · rw [if_neg c5] at e
        exact nomatch (show (Sum.inl (rfe T j1) : RS) = Sum.inr (i1, C, N) from e)
    · rw [if_neg c4] at e
      exact nomatch (show (Sum.inl (rfe T (i + 1)) : RS) = Sum.inr (i1, C, N) from e)
  rw [if_neg c3] at e
  obtain ⟨j1, C1, N1, p1, e⟩ := rsB_inr e
  cases hr : rlo (T j1).1 with
  | none =>
    rw [hr] at e
    exact nomatch (show (Sum.inl (rfe T j1) : RS) = Sum.inr (i1, C, N) from e)
  | some op =>
    rw [hr] at e
    dsimp only at e
    obtain ⟨j2, C2, N2, p2, e⟩ := rsB_inr e
    obtain ⟨e1, e2, e3⟩ := rsO_inr e
    subst e1; subst e2; subst e3
    obtain ⟨g1, g2, g3, g4⟩ := prs_ok hT hi (Or.inl (by decide)) (by omega) p1
    rw [if_pos (by decide)] at g1
    have jL : j1 < L := hT.lt g2 (fun z => by rw [z, show rlo 0 = none from by decide] at hr; exact nomatch hr) (fun z => by rw [z, show rlo 3 = none from by decide] at hr; exact nomatch hr)
    obtain ⟨g5, g6, _, _⟩ := prs_ok hT (by omega) (Or.inl (by decide)) (by omega) p2
    rw [if_pos (by decide)] at g5
    obtain ⟨m1, m2⟩ := hN.app
    obtain ⟨v1, x1, b1, k1⟩ := h4 (d - 1) i nb j1 C1 N1 st (by omega) ho hi hnb (by omega) (by omega) p1 m1 (by omega)
    obtain ⟨v2, x2, b2, k2⟩ := h4 (d - 1) (j1 + 1) (nb + N1.length) j2 C2 N2 (v1 :: st) (by omega) ho (by omega) (by omega) hi1 (by omega) p2 m2 (by rw [List.length_cons]; omega)
    obtain ⟨b3, o1, o2⟩ := rel_b b1 b2 hr
    refine ⟨on2 op v1 v2, ?_, b3, fun V K hm ha hk => ?_⟩
    · rw [exc_app, exc_app, x1, x2, exc_cons, exc_nil, stp_2 o1 o2 (by omega)]
    · show vMJ E d M_X12_unitValue [sl 6 0] V K
      have iL : i < L := by omega
      obtain ⟨kv, kc, _⟩ := hm.kd ha (Nat.zero_le _) iL
      have q1 := fun z => c1 ((km hm ha iL 126 (by decide)).mp z)
      have q2 := fun z => c2 ((km hm ha iL 123 (by decide)).mp z)
      have go : ∀ x : Int32, vwp E d M_X12_unitValue 199 [some (sl 6 0), some (wi x), none, none, none, none, none] [] V (zj K) := by
        intro x
        refine w_X12_unitValue_199 (by omega) ?_
        refine k1 V _ hm ha (fun V1 f1 a1 => ?_)
        have hm1 := hm.fc f1
        obtain ⟨kw, kc1, _⟩ := hm1.kd a1 (Nat.zero_le _) jL
        refine ⟨kw, fun V4 e4 => ?_⟩
        obtain ⟨a4, f4⟩ := a1.st 1 e4 rfl
        refine k2 V4 _ (hm1.fc f4) a4 (fun V5 f5 a5 => ?_)
        rw [kc1]
        exact rel_m (hT2 j1) b1 b2 hr (hk V5 ((f1.trans f4).trans f5) a5)
      refine w_X12_unitValue_0 (by omega) ⟨kv, fun _ => ⟨fun _ => ⟨fun _ => go _, fun z => ⟨fun _ => go _, fun z1 => ?_⟩⟩, fun z => absurd z q2⟩, fun z => absurd z q1⟩
      exfalso
      rw [kc] at z z1
      refine c3 ⟨?_, ?_⟩
      · have : ¬ (T i).1 < 306 := fun y => z (nI_lt (b := 306) y (by decide))
        omega
      · have : ¬ 312 < (T i).1 := fun y => z1 (nI_lt (a := 312) y (by have := hT2 i; omega))
        omega
end
