/-! values of the reference: a factor -/
section
variable {E : EE} {p : Nat} {T : Nat → TK} {M : MN} {L nf nv : Nat} {fa se nt : Nat → Int32} {f o : Nat}
theorem labs_j {v : Int32} (h : 0 ≤ Int32.toInt64 v) : labs (Int32.toInt64 v) = Int32.toInt64 v := by
  unfold labs
  by_cases c : 0 < Int32.toInt64 v
  · rw [if_pos c]
  · rw [if_neg c]
    have : Int32.toInt64 v = 0 := Int64.le_antisymm (Int64.not_lt.mp c) h
    rw [this]; decide
theorem labs_n {x : Int64} (h : ¬ 0 ≤ x) : labs x = -x := by
  unfold labs
  rw [if_neg (fun z => h (Int64.le_of_lt z))]
/-- behind the last ) -/
theorem f297 {d j : Nat} {c v : Int32} {V : VH} {K : Int64 → VH → Prop} (ha : EA V p j) (hk : ∀ V', Fc V V' evS → EA V' p (j + 1) → K (Int32.toInt64 v) V') : vwp E d M_X12_factorValue 297 [some (sl 6 0), some (wi c), some (wj (Int32.toInt64 v)), none, none, none, none, none, none, none] [] V (zj K) := by
  refine w_X12_factorValue_297 (fun V1 e1 => ?_)
  obtain ⟨a1, f1⟩ := ha.st 1 e1 rfl
  exact hk V1 f1 a1
theorem f131 {d j : Nat} {c v : Int32} {V : VH} {K : Int64 → VH → Prop} (h0 : 0 < d) (hm : EM V p T M 0 L fa se) (ha : EA V p j) (jL : j < L) (cj : (T j).1 = 41) (c1 : ¬ c = 313) (c2 : ¬ c = 316) (hk : ∀ V', Fc V V' evS → EA V' p (j + 1) → K (Int32.toInt64 v) V') : vwp E d M_X12_factorValue 131 [some (sl 6 0), some (wi c), some (wj (Int32.toInt64 v)), none, none, none, none, none, none, none] [] V (zj K) := by
  obtain ⟨k1, k2, _⟩ := hm.kd ha (Nat.zero_le _) jL
  refine w_X12_factorValue_131 h0 ⟨k1, fun _ => ⟨fun _ => w_X12_factorValue_227 ⟨fun _ => f297 ha hk, fun z => absurd z c2⟩, fun z => absurd z c1⟩, fun z => absurd z (by rw [k2, cj]; decide)⟩
theorem PV_factor (hT : TL T L) (hL : L ≤ 20000) (hg : EG T M nf nv fa se) (h6 : ¬ 12 ≤ o → PV E p T M L nf nv fa se nt f 6 0 (o + 1)) (h0 : ¬ 12 ≤ o → PV E p T M L nf nv fa se nt f 0 0 (o + 1)) (h4 : ¬ 12 ≤ o → PV E p T M L nf nv fa se nt f 4 0 (o + 1)) (h17 : ¬ 12 ≤ o → PL E p T M L nf nv fa se nt f 17 19 (o + 1)) (h18 : ¬ 12 ≤ o → PL E p T M L nf nv fa se nt f 18 19 (o + 1)) : PV E p T M L nf nv fa se nt (f + 1) 6 0 o := by
  intro d i nb i1 C N st hd ho hi hnb hi1 hf e hN hs
  have hT2 : ∀ j, (T j).1 < 317 := fun j => (hg.1 j).1
  have hT9 : ∀ j, (T j).1 = 2 → (T j).2.2.1 ≤ 9999 := fun j => (hg.1 j).2
  have hd' : 20 + 10 * (13 - o) + 2 ≤ d := hd
  have r0 : rnk 0 = 7 := rfl
  have r6 : rnk 6 = 1 := rfl
  have r4 : rnk 4 = 3 := rfl
  have r17 : rnk 17 = 0 := rfl
  have r18 : rnk 18 = 0 := rfl
  have d6 : rkD 6 = 2 := rfl
  have d0 : rkD 0 = 8 := rfl
  have d4 : rkD 4 = 4 := rfl
  have d17 : rkD 17 = 5 := rfl
  have d18 : rkD 18 = 5 := rfl
  have n0 : nds 0 = 5 := rfl
  have n6 : nds 6 = 0 := rfl
  have n4 : nds 4 = 2 := rfl
  have l17 : nds (lps 17) = 2 := rfl
  have l18 : nds (lps 18) = 2 := rfl
  have m16 := hg.2.2.1
  have m12 := hg.2.2.2.1
  have km : ∀ {V : VH} {j : Nat}, EM V p T M 0 L fa se → EA V p j → j < L → ∀ m : Nat, m < 1000 → (vI V 6 5 (Int32.toNatClampNeg (vI V 6 0 54)) = nI m ↔ (T j).1 = m) := fun {V j} hm ha hj m hm' => by rw [(hm.kd ha (Nat.zero_le _) hj).2.1]; exact kq m (hT2 j) hm'
  rw [prs_6] at e
  by_cases c1 : (T i).1 = 1
  · rw [if_pos c1] at e
    have iL : i < L := hT.lt hi (by rw [c1]; decide) (by rw [c1]; decide)
    cases hM : M (T i).2.1 with
    | none => rw [hM] at e; exact nomatch (show (Sum.inl (4, (T i).f) : RS) = Sum.inr (i1, C, N) from e)
    | some q =>
      rw [hM] at e
      dsimp only at e
      have lim := hg.2.1 _ _ hM
      have go : q.1 ≤ 1 → ∀ (V : VH) (K : Int64 → VH → Prop), EM V p T M 0 L fa se → EA V p i → (∀ V', Fc V V' evS → EA V' p (i + 1) → K (Int32.toInt64 (if q.1 = 0 then fa q.2 else se q.2)) V') → vMJ E d M_X12_factorValue [sl 6 0] V K := by
        intro hq V K hm ha hk
        have q1 := (km hm ha iL 1 (by decide)).mpr c1
        have q2 : ¬ vI V 6 5 (Int32.toNatClampNeg (vI V 6 0 54)) = 2 := fun z => by have := (km hm ha iL 2 (by decide)).mp z; omega
        refine w_X12_factorValue_0 (by omega) ⟨(hm.kd ha (Nat.zero_le _) iL).1, fun _ => ⟨fun z => absurd q1 z, fun _ => ?_⟩, fun z => absurd z q2⟩
        exact ev_name hg hm ha (Nat.zero_le _) iL c1 hM hq hk
      by_cases c2 : q.1 = 0
      · rw [if_pos c2] at e
        obtain ⟨e1, e2, e3⟩ := rsO_inr e
        subst e1; subst e2; subst e3
        have lk := lim.1 c2
        have bb := hg.2.2.2.2.1 q.2 lk
        refine ⟨fa q.2, ?_, ⟨by have := bb.1; omega, by have := bb.2; omega⟩, fun V K hm ha hk => ?_⟩
        · rw [exc_cons, exc_nil, stp_0 (by decide) (by omega)]
          unfold lfv
          rw [if_neg (by decide), if_pos rfl, nI_clamp (show q.2 < 2 ^ 31 by omega), cut_in lk]
        · refine go (by omega) V K hm ha (fun V' f' a' => ?_)
          rw [if_pos c2]; exact hk V' f' a'
      · rw [if_neg c2] at e
        by_cases c3 : q.1 = 1
        · rw [if_pos c3] at e
          obtain ⟨e1, e2, e3⟩ := rsO_inr e
          subst e1; subst e2; subst e3
          have lk := lim.2 c3
          have bb := hg.2.2.2.2.2 q.2 lk
          refine ⟨se q.2, ?_, ⟨by have := bb.1; omega, by have := bb.2; omega⟩, fun V K hm ha hk => ?_⟩
          · rw [exc_cons, exc_nil, stp_0 (by decide) (by omega)]
            unfold lfv
            rw [if_neg (by decide), if_neg (by decide), nI_clamp (show q.2 < 2 ^ 31 by omega), cut_in lk]
          · refine go (by omega) V K hm ha (fun V' f' a' => ?_)
            rw [if_neg c2]; exact hk V' f' a'
        · rw [if_neg c3] at e
          exact nomatch (show (Sum.inl (4, (T i).f) : RS) = Sum.inr (i1, C, N) from e)
  rw [if_neg c1] at e
  by_cases c2 : (T i).1 = 2
  · rw [if_pos c2] at e
    obtain ⟨e1, e2, e3⟩ := rsO_inr e
    subst e1; subst e2; subst e3
    have iL : i < L := hT.lt hi (by rw [c2]; decide) (by rw [c2]; decide)
    have b9 := hT9 i c2
    have bI9 : (nI (T i).2.2.1).toInt = ((T i).2.2.1 : Int) := Int32.toInt_ofNat_of_lt (by omega)
    refine ⟨nI (T i).2.2.1, ?_, ⟨by rw [bI9]; omega, by rw [bI9]; omega⟩, fun V K hm ha hk => ?_⟩
    · rw [exc_cons, exc_nil, stp_0 (by decide) (by omega)]
      unfold lfv
      rw [if_pos rfl]
    · show vMJ E d M_X12_factorValue [sl 6 0] V K
      have q2 := (km hm ha iL 2 (by decide)).mpr c2
      refine w_X12_factorValue_0 (by omega) ⟨(hm.kd ha (Nat.zero_le _) iL).1, fun z => absurd q2 z, fun _ V2 e2 => ?_⟩
      obtain ⟨a2, f2⟩ := ha.st 1 e2 rfl
      have hp := hm.1
      have em : vI V2 6 0 54 - 1 = nI (20000 * p + i) := by
        rw [show vI V2 6 0 54 = nI (20000 * p + (i + 1)) from a2]
        exact (nI_sub (b := 1) (by omega)).trans (congrArg nI (by omega))
      rw [em, nI_clamp (show 20000 * p + i < 2 ^ 31 by omega), ((hm.fc f2).2.2.1 i (Nat.zero_le _) iL).2]
      have eu : nuv T M i = nI (T i).2.2.1 := by unfold nuv; rw [if_neg c1, if_pos c2]
      rw [eu]
      exact ⟨vp_in_nI (by omega) (by decide), hk V2 f2 a2⟩
  rw [if_neg c2] at e
  have pre : ∀ {V : VH} {K : Int64 → VH → Prop}, EM V p T M 0 L fa se → EA V p i → i < L → (∀ V2, Fc V V2 evS → EA V2 p (i + 1) → ((¬ (T i).1 = 45 → (¬ (T i).1 = 91 → (¬ (T i).1 = 40 → vwp E d M_X12_factorValue 122 [some (sl 6 0), some (wi (nI (T i).1)), none, none, none, none, none, none, none, none] [wi 1, wi (vI V2 6 0 54), sl 6 0] V2 (zj K)) ∧ ((T i).1 = 40 → vwp E d M_X12_factorValue 122 [some (sl 6 0), some (wi (nI (T i).1)), none, none, none, none, none, none, none, none] [wi 0, wi (vI V2 6 0 54), sl 6 0] V2 (zj K))) ∧ ((T i).1 = 91 → vMJ E (d - 1) M_X12_testValue [sl 6 0] V2 (fun r3 V3 => (¬ r3 = 0 → vwp E d M_X12_factorValue 93 [some (sl 6 0), some (wi (nI (T i).1)), none, none, none, none, none, none, none, none] [wj 0] V3 (zj K)) ∧ (r3 = 0 → vwp E d M_X12_factorValue 93 [some (sl 6 0), some (wi (nI (T i).1)), none, none, none, none, none, none, none, none] [wj 1] V3 (zj K))))) ∧ ((T i).1 = 45 → vMJ E (d - 1) M_X12_factorValue [sl 6 0] V2 (fun r5 V5 => vMJ E (d - 1) M_X12_held [wj (-r5)] V5 (fun r7 V7 => K r7 V7))))) → vMJ E d M_X12_factorValue [sl 6 0] V K := by
    intro V K hm ha iL k
    have q1 : ¬ vI V 6 5 (Int32.toNatClampNeg (vI V 6 0 54)) = 1 := fun z => c1 ((km hm ha iL 1 (by decide)).mp z)
    have q2 : ¬ vI V 6 5 (Int32.toNatClampNeg (vI V 6 0 54)) = 2 := fun z => c2 ((km hm ha iL 2 (by decide)).mp z)
    refine w_X12_factorValue_0 (by omega) ⟨(hm.kd ha (Nat.zero_le _) iL).1, fun _ => ⟨fun _ V2 e2 => ?_, fun z => absurd z q1⟩, fun z => absurd z q2⟩
    obtain ⟨a2, f2⟩ := ha.st 1 e2 rfl
    have kk := k V2 f2 a2
    have e45 := km hm ha iL 45 (by decide)
    have e91 := km hm ha iL 91 (by decide)
    have e40 := km hm ha iL 40 (by decide)
    rw [(hm.kd ha (Nat.zero_le _) iL).2.1] at e45 e91 e40 ⊢
    exact ⟨fun z => ⟨fun z1 => ⟨fun z2 => ((kk.1 (fun y => z (e45.mpr y))).1 (fun y => z1 (e91.mpr y))).1 (fun y => z2 (e40.mpr y)), fun z2 => ((kk.1 (fun y => z (e45.mpr y))).1 (fun y => z1 (e91.mpr y))).2 (e40.mp z2)⟩, fun z1 => (kk.1 (fun y => z (e45.mpr y))).2 (e91.mp z1)⟩, fun z => kk.2 (e45.mp z)⟩
  by_cases c3 : (T i).1 = 45
  · rw [if_pos c3] at e
    have iL : i < L := hT.lt hi (by rw [c3]; decide) (by rw [c3]; decide)
    by_cases c12 : 12 ≤ o
    · rw [if_pos c12] at e
      exact nomatch (show (Sum.inl (7, (T i).f) : RS) = Sum.inr (i1, C, N) from e)
    rw [if_neg c12] at e
    obtain ⟨j1, C1, N1, p1, e⟩ := rsB_inr e
    obtain ⟨e1, e2, e3⟩ := rsO_inr e
    subst e1; subst e2; subst e3
    obtain ⟨v1, x1, b1, k1⟩ := h6 c12 (d - 1) (i + 1) nb j1 C1 N1 st (by omega) (by omega) (by omega) (by omega) hi1 (by omega) p1 hN (by omega)
    refine ⟨on1 3 v1, by rw [exc_app, x1, exc_cons, exc_nil, stp_1 (by decide) (by decide) (by omega)], by rw [on1_3]; exact hld_b _, fun V K hm ha hk => ?_⟩
    refine pre hm ha iL (fun V2 f2 a2 => ⟨fun z => absurd c3 z, fun _ => ?_⟩)
    refine k1 V2 _ (hm.fc f2) a2 (fun V3 f3 a3 => ev_held ?_)
    have kk := hk V3 (f2.trans f3) a3
    rw [on1_3] at kk
    exact kk
  rw [if_neg c3] at e
  by_cases c4 : (T i).1 = 40
  · rw [if_pos c4] at e
    have iL : i < L := hT.lt hi (by rw [c4]; decide) (by rw [c4]; decide)
    by_cases c12 : 12 ≤ o
    · rw [if_pos c12] at e
      exact nomatch (show (Sum.inl (7, (T i).f) : RS) = Sum.inr (i1, C, N) from e)
    rw [if_neg c12] at e
    obtain ⟨j1, C1, N1, p1, e⟩ := rsB_inr e
    by_cases c5 : (T j1).1 = 41
    · rw [if_pos c5] at e
      obtain ⟨e1, e2, e3⟩ := rsO_inr e
      subst e1; subst e2; subst e3
      obtain ⟨v1, x1, b1, k1⟩ := h4 c12 (d - 1) (i + 1) nb j1 C1 N1 st (by omega) (by omega) (by omega) (by omega) (by omega) (by omega) p1 hN (by omega)
      refine ⟨v1, x1, b1, fun V K hm ha hk => ?_⟩
      refine pre hm ha iL (fun V2 f2 a2 => ⟨fun _ => ⟨fun _ => ⟨fun z => absurd c4 z, fun _ => w_X12_factorValue_122 (by omega) (fun V3 e3 => ?_)⟩, fun z => absurd z (by rw [c4]; decide)⟩, fun z => absurd z c3⟩)
      obtain ⟨a3, f3⟩ := a2.st 0 e3 rfl
      refine k1 V3 _ ((hm.fc f2).fc f3) a3 (fun V4 f4 a4 => ?_)
      refine f131 (by omega) (((hm.fc f2).fc f3).fc f4) a4 (by omega) c5 (by rw [c4]; decide) (by rw [c4]; decide) (fun V5 f5 a5 => hk V5 (((f2.trans f3).trans f4).trans f5) a5)
    · rw [if_neg c5] at e
      exact nomatch (show (Sum.inl (rfe T j1) : RS) = Sum.inr (i1, C, N) from e)
  rw [if_neg c4] at e
  by_cases c5 : (T i).1 = 91
  · rw [if_pos c5] at e
    have iL : i < L := hT.lt hi (by rw [c5]; decide) (by rw [c5]; decide)
    by_cases c12 : 12 ≤ o
    · rw [if_pos c12] at e
      exact nomatch (show (Sum.inl (7, (T i).f) : RS) = Sum.inr (i1, C, N) from e)
    rw [if_neg c12] at e
    obtain ⟨j1, C1, N1, p1, e⟩ := rsB_inr e
    by_cases c6 : (T j1).1 = 93
    · rw [if_pos c6] at e
      obtain ⟨e1, e2, e3⟩ := rsO_inr e
      subst e1; subst e2; subst e3
      obtain ⟨v1, x1, b1, k1⟩ := h0 c12 (d - 1) (i + 1) nb j1 C1 N1 st (by omega) (by omega) (by omega) (by omega) (by omega) (by omega) p1 hN (by omega)
      refine ⟨if v1 = 0 then 1 else 0, by rw [exc_app, x1, exc_cons, exc_nil, stp_1 (by decide) (by decide) (by omega), on1_5], (not_b v1).2, fun V K hm ha hk => ?_⟩
      refine pre hm ha iL (fun V2 f2 a2 => ⟨fun _ => ⟨fun z => absurd c5 z, fun _ => ?_⟩, fun z => absurd z c3⟩)
      refine k1 V2 _ (hm.fc f2) a2 (fun V3 f3 a3 => ?_)
      refine ⟨fun z => w_X12_factorValue_93 (fun V4 e4 => ?_), fun z => w_X12_factorValue_93 (fun V4 e4 => ?_)⟩
      · obtain ⟨a4, f4⟩ := a3.st 1 e4 rfl
        have kk := hk V4 ((f2.trans f3).trans f4) a4
        rw [if_neg (fun y => z (by rw [y]; rfl)), j_0] at kk; exact kk
      · obtain ⟨a4, f4⟩ := a3.st 1 e4 rfl
        have kk := hk V4 ((f2.trans f3).trans f4) a4
        rw [if_pos (j_inj.mp (z.trans j_0.symm)), j_1] at kk; exact kk
    · rw [if_neg c6] at e
      exact nomatch (show (Sum.inl (rfe T j1) : RS) = Sum.inr (i1, C, N) from e)
  rw [if_neg c5] at e
  by_cases c6 : 313 ≤ (T i).1 ∧ (T i).1 ≤ 316
  · rw [if_pos c6] at e
    have iL : i < L := hT.lt hi (by omega) (by omega)
    by_cases c7 : (T (i + 1)).1 = 40
    · rw [if_pos c7] at e
      have iL2 : i + 1 < L := hT.lt (by omega) (by rw [c7]; decide) (by rw [c7]; decide)
      by_cases c12 : 12 ≤ o
      · rw [if_pos c12] at e
        exact nomatch (show (Sum.inl (7, (T (i + 1)).f) : RS) = Sum.inr (i1, C, N) from e)
      rw [if_neg c12] at e
      obtain ⟨j1, C1, N1, p1, e⟩ := rsB_inr e
      obtain ⟨g1, g2, g3, g4⟩ := prs_ok hT (by omega) (Or.inl (by decide)) (by omega) p1
      rw [if_pos (by decide)] at g1
      -- the first sum is read; then what the word says
      have fst : ∀ (v1 : Int32) {V : VH} {K : Int64 → VH → Prop}, EM V p T M 0 L fa se → EA V p i → (∀ V2 (K2 : Int64 → VH → Prop), EM V2 p T M 0 L fa se → EA V2 p (i + 2) → (∀ V', Fc V2 V' evS → EA V' p j1 → K2 (Int32.toInt64 v1) V') → vB E (d - 1) 4 V2 K2) → (∀ V', Fc V V' evS → EA V' p j1 → vwp E d M_X12_factorValue 131 [some (sl 6 0), some (wi (nI (T i).1)), some (wj (Int32.toInt64 v1)), none, none, none, none, none, none, none] [] V' (zj K)) → vMJ E d M_X12_factorValue [sl 6 0] V K := by
        intro v1 V K hm ha sub k
        refine pre hm ha iL (fun V2 f2 a2 => ⟨fun _ => ⟨fun _ => ⟨fun _ => w_X12_factorValue_122 (by omega) (fun V3 e3 => ?_), fun z => absurd z c4⟩, fun z => absurd z c5⟩, fun z => absurd z c3⟩)
        obtain ⟨a3, f3⟩ := a2.st 1 e3 rfl
        exact sub V3 _ ((hm.fc f2).fc f3) a3 (fun V4 f4 a4 => k V4 ((f2.trans f3).trans f4) a4)
      by_cases c8 : (T i).1 = 313
      · rw [if_pos c8] at e
        by_cases c9 : (T j1).1 = 41
        · rw [if_pos c9] at e
          obtain ⟨e1, e2, e3⟩ := rsO_inr e
          subst e1; subst e2; subst e3
          obtain ⟨v1, x1, b1, k1⟩ := h4 c12 (d - 1) (i + 2) nb j1 C1 N1 st (by omega) (by omega) (by omega) (by omega) (by omega) (by omega) p1 hN (by omega)
          refine ⟨on1 4 v1, by rw [exc_app, x1, exc_cons, exc_nil, stp_1 (by decide) (by decide) (by omega)], by rw [on1_4]; exact hld_b _, fun V K hm ha hk => ?_⟩
          refine fst v1 hm ha k1 (fun V3 f3 a3 => ?_)
          obtain ⟨q1, q2, _⟩ := (hm.fc f3).kd a3 (Nat.zero_le _) (show j1 < L by omega)
          have fin : ∀ z : Int64, z = labs (Int32.toInt64 v1) → vwp E d M_X12_factorValue 220 [some (sl 6 0), some (wi (nI (T i).1)), some (wj (Int32.toInt64 v1)), none, none, none, none, none, none, none] [wj z] V3 (zj K) := by
            intro z ez
            refine w_X12_factorValue_220 (by omega) (ev_held ?_)
            refine w_X12_factorValue_227 ⟨fun _ => f297 a3 (fun V5 f5 a5 => ?_), fun y => absurd y (by rw [c8]; decide)⟩
            have kk := hk V5 (f3.trans f5) a5
            rw [on1_4, ← ez] at kk
            exact kk
          refine w_X12_factorValue_131 (by omega) ⟨q1, fun _ => ⟨fun y => absurd (by rw [c8]; rfl) y, fun _ => ⟨fun y => fin _ (labs_j y).symm, fun y => fin _ (labs_n y).symm⟩⟩, fun y => absurd y (by rw [q2, c9]; decide)⟩
        · rw [if_neg c9] at e
          exact nomatch (show (Sum.inl (rfe T j1) : RS) = Sum.inr (i1, C, N) from e)
      rw [if_neg c8] at e
      by_cases c9 : (T i).1 = 316
      · rw [if_pos c9] at e
        by_cases c10 : (T j1).1 = 58
        · rw [if_pos c10] at e
          obtain ⟨j2, xs, p2, e⟩ := nrB_inr e
          by_cases c11 : (T j2).1 = 41
          · rw [if_pos c11] at e
            obtain ⟨e1, e2, e3⟩ := rsO_inr e
            subst e1; subst e2; subst e3
            obtain ⟨lx, bx⟩ := nls_b hT9 _ _ _ _ p2
            have jL : j1 < L := hT.lt g2 (by rw [c10]; decide) (by rw [c10]; decide)
            have fx := nls_fit (T := T) (L := L) hT (sg := true) (top := 9999) 20 (j1 + 1) (by omega)
            rw [p2] at fx
            have fx1 : j1 + 1 ≤ j2 := by have := fx.1; omega
            obtain ⟨m1, m2⟩ := hN.app
            obtain ⟨v1, x1, b1, k1⟩ := h4 c12 (d - 1) (i + 2) nb j1 C1 N1 st (by omega) (by omega) (by omega) (by omega) (by omega) (by omega) p1 m1 (by omega)
            have t0 : nt (nb + N1.length) = nI xs.length := m2 0 (Nat.succ_pos _)
            have tj : ∀ j, j < xs.length → nt (nb + N1.length + 1 + j) = xs.getD j 0 := fun j hj => by
              have := m2 (j + 1) (Nat.succ_lt_succ hj)
              rw [Nat.add_assoc, Nat.add_comm 1 j]
              exact this
            have ep : pkx nt (nb + N1.length) v1 = pck v1 xs 0 0 := by
              rw [pck_all (by omega)]
              unfold pkx
              rw [t0]
              by_cases z : 0 ≤ v1 ∧ v1 < nI xs.length
              · rw [if_pos z, if_pos z]
                obtain ⟨j, ej, lj⟩ := nI_of_lt z.1 z.2 (by omega)
                subst ej
                rw [nI_clamp (show j < 2 ^ 31 by omega)]
                exact tj j lj
              · rw [if_neg z, if_neg z]
            refine ⟨pck v1 xs 0 0, ?_, pck_b xs 0 0 (fun x hx => (bx x hx).mono (by decide)) ⟨by rw [t_0]; omega, by rw [t_0]; omega⟩, fun V K hm ha hk => ?_⟩
            · rw [exc_app, x1, exc_cons, exc_nil, stp_7 (by omega), nI_clamp (show nb + N1.length < 2 ^ 31 by omega), ep]
            · refine fst v1 hm ha k1 (fun V3 f3 a3 => ?_)
              obtain ⟨q1, q2, _⟩ := (hm.fc f3).kd a3 (Nat.zero_le _) jL
              refine w_X12_factorValue_131 (by omega) ⟨q1, fun _ => ⟨fun _ => ?_, fun y => absurd y (by rw [c9]; decide)⟩, fun y => absurd y (by rw [q2, c10]; decide)⟩
              refine w_X12_factorValue_227 ⟨fun y => absurd (by rw [c9]; rfl) y, fun _ => ?_⟩
              exact ev_pick (v := v1) (by omega) hT hg 19 j1 0 j2 0 xs V3 p2 c11 (by rw [c10]; decide) jL (by omega) (by decide) (hm.fc f3) a3 (fun V' f' a' => f297 a' (fun V5 f5 a5 => hk V5 ((f3.trans f').trans f5) a5))
          · rw [if_neg c11] at e
            exact nomatch (show (Sum.inl (rfe T j2) : RS) = Sum.inr (i1, C, N) from e)
        · rw [if_neg c10] at e
          exact nomatch (show (Sum.inl (rfe T j1) : RS) = Sum.inr (i1, C, N) from e)
      rw [if_neg c9] at e
      obtain ⟨j2, C2, N2, p2, e⟩ := rsB_inr e
      by_cases c11 : (T j2).1 = 41
      · rw [if_pos c11] at e
        obtain ⟨e1, e2, e3⟩ := rsO_inr e
        subst e1; subst e2; subst e3
        obtain ⟨m1, m2⟩ := hN.app
        have tg : (if (T i).1 = 314 then 17 else 18) = 17 ∧ (T i).1 = 314 ∨ (if (T i).1 = 314 then 17 else 18) = 18 ∧ (T i).1 = 315 := by
          by_cases z : (T i).1 = 314
          · rw [if_pos z]; exact Or.inl ⟨rfl, z⟩
          · rw [if_neg z]; exact Or.inr ⟨rfl, by omega⟩
        rcases tg with ⟨t1, t2⟩ | ⟨t1, t2⟩
        · rw [t1] at p2
          obtain ⟨g5, g6, _, _⟩ := prs_ok hT g2 (Or.inr (by decide)) (by omega) p2
          rw [if_neg (by decide)] at g5
          obtain ⟨v1, x1, b1, k1⟩ := h4 c12 (d - 1) (i + 2) nb j1 C1 N1 st (by omega) (by omega) (by omega) (by omega) (by omega) (by omega) p1 m1 (by omega)
          obtain ⟨v2, x2, b2, _, k2⟩ := h17 c12 d j1 (nb + N1.length) j2 C2 N2 st v1 (by omega) (by omega) g2 (by omega) (by omega) (by omega) p2 m2 (by omega) b1
          refine ⟨v2, by rw [exc_app, x1, x2], b2, fun V K hm ha hk => ?_⟩
          refine fst v1 hm ha k1 (fun V3 f3 a3 => ?_)
          rw [t2]
          refine k2 V3 K (hm.fc f3) a3 (fun V4 f4 a4 => ?_)
          exact f131 (by omega) ((hm.fc f3).fc f4) a4 (by omega) c11 (by decide) (by decide) (fun V5 f5 a5 => hk V5 ((f3.trans f4).trans f5) a5)
        · rw [t1] at p2
          obtain ⟨g5, g6, _, _⟩ := prs_ok hT g2 (Or.inr (by decide)) (by omega) p2
          rw [if_neg (by decide)] at g5
          obtain ⟨v1, x1, b1, k1⟩ := h4 c12 (d - 1) (i + 2) nb j1 C1 N1 st (by omega) (by omega) (by omega) (by omega) (by omega) (by omega) p1 m1 (by omega)
          obtain ⟨v2, x2, b2, _, k2⟩ := h18 c12 d j1 (nb + N1.length) j2 C2 N2 st v1 (by omega) (by omega) g2 (by omega) (by omega) (by omega) p2 m2 (by omega) b1
          refine ⟨v2, by rw [exc_app, x1, x2], b2, fun V K hm ha hk => ?_⟩
          refine fst v1 hm ha k1 (fun V3 f3 a3 => ?_)
          rw [t2]
          refine k2 V3 K (hm.fc f3) a3 (fun V4 f4 a4 => ?_)
          exact f131 (by omega) ((hm.fc f3).fc f4) a4 (by omega) c11 (by decide) (by decide) (fun V5 f5 a5 => hk V5 ((f3.trans f4).trans f5) a5)
      · rw [if_neg c11] at e
        exact nomatch (show (Sum.inl (rfe T j2) : RS) = Sum.inr (i1, C, N) from e)
    · rw [if_neg c7] at e
      exact nomatch (show (Sum.inl (rfe T (i + 1)) : RS) = Sum.inr (i1, C, N) from e)
  · rw [if_neg c6] at e
    exact nomatch (show (Sum.inl (rfe T i) : RS) = Sum.inr (i1, C, N) from e)
end
