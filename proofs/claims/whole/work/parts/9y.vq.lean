/-! values of the reference: tests, sums, units -/
theorem imax_0 (y : Int32) : imax 0 y = if 0 < y then y else 0 := rfl
theorem t_0 : (0 : Int32).toInt = 0 := by decide
theorem t_1 : (1 : Int32).toInt = 1 := by decide
section
variable {E : EE} {p : Nat} {T : Nat → TK} {M : MN} {L nf nv : Nat} {fa se nt : Nat → Int32} {f o : Nat}
theorem fin_all {d i tag : Nat} {v : Int32} {V : VH} {K : Int64 → VH → Prop} (ht : tag = 11 ∨ tag = 12 ∨ tag = 14 ∨ tag = 15) (h0 : 0 < d) (hT : ∀ j, (T j).1 < 317) (h : EM V p T M 0 L fa se) (ha : EA V p i) (hi : i < L) (hl : lpo tag (T i).1 = none) (hk : K (Int32.toInt64 v) V) : vLb E d tag v V K := by
  obtain ⟨k1, k2, _⟩ := h.kd ha (Nat.zero_le _) hi
  have ne : ∀ m : Nat, m < 1000 → ¬ (T i).1 = m → ¬ vI V 6 5 (Int32.toNatClampNeg (vI V 6 0 54)) = nI m := fun m hm c z => c ((kq m (hT i) hm).mp (k2.symm.trans z))
  rcases ht with rfl | rfl | rfl | rfl
  · have c : ¬ (T i).1 = 124 := fun z => by rw [z] at hl; exact absurd hl (by decide)
    exact w_X12_orValue_5 h0 ⟨k1, fun _ => hk, fun z => absurd z (ne 124 (by decide) c)⟩
  · have c : ¬ (T i).1 = 38 := fun z => by rw [z] at hl; exact absurd hl (by decide)
    exact w_X12_andValue_5 h0 ⟨k1, fun _ => hk, fun z => absurd z (ne 38 (by decide) c)⟩
  · have c : ¬ (T i).1 = 43 := fun z => by rw [z] at hl; exact absurd hl (by decide)
    have c2 : ¬ (T i).1 = 45 := fun z => by rw [z] at hl; exact absurd hl (by decide)
    exact w_X12_sumValue_5 ⟨k1, fun z => absurd z (ne 43 (by decide) c), fun _ => ⟨k1, fun _ => hk, fun z => absurd z (ne 45 (by decide) c2)⟩⟩
  · have c : ¬ (T i).1 = 42 := fun z => by rw [z] at hl; exact absurd hl (by decide)
    exact w_X12_termValue_5 h0 ⟨k1, fun _ => hk, fun z => absurd z (ne 42 (by decide) c)⟩
theorem beg_all {d tag : Nat} {v : Int32} {V : VH} {K : Int64 → VH → Prop} (ht : tag = 1 ∨ tag = 2 ∨ tag = 4 ∨ tag = 5) (h0 : 0 < d) (sub : ∀ K1 : Int64 → VH → Prop, (∀ V', vLb E d (tag + 10) v V' K → K1 (Int32.toInt64 v) V') → vB E (d - 1) (tag + 1) V K1) : vB E d tag V K := by
  rcases ht with rfl | rfl | rfl | rfl
  · exact w_X12_orValue_0 h0 (sub _ (fun V' k => k))
  · exact w_X12_andValue_0 h0 (sub _ (fun V' k => k))
  · exact w_X12_sumValue_0 h0 (sub _ (fun V' k => k))
  · exact w_X12_termValue_0 h0 (sub _ (fun V' k => k))
theorem PV_q {tag : Nat} (hT : TL T L) (hT2 : ∀ j, (T j).1 < 317) (ht : tag = 1 ∨ tag = 2 ∨ tag = 4 ∨ tag = 5) (h1 : PV E p T M L nf nv fa se nt f (tag + 1) 0 o) (h2 : PL E p T M L nf nv fa se nt f (tag + 10) 0 o) : PV E p T M L nf nv fa se nt (f + 1) tag 0 o := by
  intro d i nb i1 C N st hd ho hi hnb hi1 hf e hN hs
  rw [prs_q ht] at e
  obtain ⟨j1, C1, N1, p1, e⟩ := rsB_inr e
  obtain ⟨j2, C2, N2, p2, e⟩ := rsB_inr e
  obtain ⟨e1, e2, e3⟩ := rsO_inr e
  subst e1; subst e2; subst e3
  have r1 : rnk (tag + 1) + 1 = rnk tag ∧ rnk (tag + 10) = 0 ∧ rkD (tag + 1) + 1 ≤ rkD tag ∧ rkD (tag + 10) = rkD tag ∧ nds (tag + 1) ≤ nds tag ∧ nds (lps (tag + 10)) + 1 = nds tag ∧ tag + 1 ≤ 6 ∧ 11 ≤ tag + 10 := by rcases ht with rfl | rfl | rfl | rfl <;> decide
  obtain ⟨q1, q2, q3, q4, q5, q6, q7, q8⟩ := r1
  obtain ⟨g1, g2, g3, g4⟩ := prs_ok hT hi (Or.inl q7) (by omega) p1
  rw [if_pos q7] at g1
  obtain ⟨g5, g6, _, _⟩ := prs_ok hT g2 (Or.inr q8) (by omega) p2
  rw [if_neg (by omega)] at g5
  obtain ⟨n1, n2⟩ := hN.app
  obtain ⟨v1, x1, b1, c1⟩ := h1 (d - 1) i nb j1 C1 N1 st (by omega) ho hi hnb (by omega) (by omega) p1 n1 (by omega)
  have b1' : Bw (tag + 10) v1 := by rcases ht with rfl | rfl | rfl | rfl <;> exact b1
  obtain ⟨v2, x2, b3, ln, c2⟩ := h2 d j1 (nb + N1.length) j2 C2 N2 st v1 (by omega) ho g2 (by omega) hi1 (by omega) p2 n2 (by omega) b1'
  refine ⟨v2, by rw [exc_app, x1, x2], by rcases ht with rfl | rfl | rfl | rfl <;> exact b3, fun V K hm ha hk => ?_⟩
  refine beg_all (v := v1) ht (by omega) (fun K1 k1 => c1 V K1 hm ha (fun V' f' a' => k1 V' ?_))
  refine c2 V' K (hm.fc f') a' (fun V2 f2 a2 => ?_)
  exact fin_all (by omega) (by omega) hT2 (hm.fc (f'.trans f2)) a2 hi1 (ln (by omega)) (hk V2 (f'.trans f2) a2)
theorem PV_test (hT : TL T L) (hT2 : ∀ j, (T j).1 < 317) (h1 : PV E p T M L nf nv fa se nt f 1 0 o) (h2 : ¬ 12 ≤ o → PV E p T M L nf nv fa se nt f 0 0 (o + 1)) : PV E p T M L nf nv fa se nt (f + 1) 0 0 o := by
  intro d i nb i1 C N st hd ho hi hnb hi1 hf e hN hs
  have hd' : 20 + 10 * (13 - o) + 8 ≤ d := hd
  have r0 : rnk 0 = 7 := rfl
  have r1 : rnk 1 = 6 := rfl
  have d1 : rkD 1 = 7 := rfl
  have d0 : rkD 0 = 8 := rfl
  have n0 : nds 0 = 5 := rfl
  have n1' : nds 1 = 5 := rfl
  rw [prs_0] at e
  obtain ⟨j1, C1, N1, p1, e⟩ := rsB_inr e
  obtain ⟨g1, g2, g3, g4⟩ := prs_ok hT hi (Or.inl (by decide)) (by omega) p1
  rw [if_pos (by decide)] at g1
  by_cases c : (T j1).1 = 203
  · rw [if_pos c] at e
    by_cases c12 : 12 ≤ o
    · rw [if_pos c12] at e
      exact nomatch (show (Sum.inl (7, (T j1).f) : RS) = Sum.inr (i1, C, N) from e)
    · rw [if_neg c12] at e
      obtain ⟨j2, C2, N2, p2, e⟩ := rsB_inr e
      obtain ⟨e1, e2, e3⟩ := rsO_inr e
      subst e1; subst e2; subst e3
      have jL : j1 < L := hT.lt g2 (by rw [c]; decide) (by rw [c]; decide)
      obtain ⟨g5, g6, _, _⟩ := prs_ok hT (by omega) (Or.inl (by decide)) (by omega) p2
      rw [if_pos (by decide)] at g5
      obtain ⟨n1, n2⟩ := hN.app
      obtain ⟨v1, x1, b1, c1⟩ := h1 (d - 1) i nb j1 C1 N1 st (by omega) ho hi hnb (by omega) (by omega) p1 n1 (by omega)
      obtain ⟨v2, x2, b2, c2⟩ := h2 c12 (d - 1) (j1 + 1) (nb + N1.length) j2 C2 N2 (v1 :: st) (by omega) (by omega) (by omega) (by omega) hi1 (by omega) p2 n2 (by rw [List.length_cons]; omega)
      have b2' : Tv v2 := b2
      refine ⟨if v1 = 0 then v2 else 0, ?_, ?_, fun V K hm ha hk => ?_⟩
      · rw [exc_app, exc_app, x1, x2, exc_cons, exc_nil, stp_2 (by decide) (by decide) (by omega), on2_21]
      · show Tv _
        by_cases z : v1 = 0
        · rw [if_pos z]; exact b2'
        · rw [if_neg z]; exact ⟨by rw [t_0]; omega, by rw [t_0]; omega⟩
      · show vMJ E d M_X12_testValue [sl 6 0] V K
        refine w_X12_testValue_0 (by omega) ?_
        refine c1 V _ hm ha (fun V1 f1 a1 => ?_)
        have hm1 := hm.fc f1
        obtain ⟨k1, k2, _⟩ := hm1.kd a1 (Nat.zero_le _) jL
        refine ⟨k1, fun z => absurd (by rw [k2, c]; rfl) z, fun _ V4 e4 => ?_⟩
        obtain ⟨a4, f4⟩ := a1.st 1 e4 rfl
        refine c2 V4 _ (hm1.fc f4) a4 (fun V5 f5 a5 => ?_)
        have kk := hk V5 ((f1.trans f4).trans f5) a5
        refine ⟨fun q => w_X12_testValue_46 ?_, fun q => w_X12_testValue_46 ?_⟩
        · rw [if_neg (fun z => q (by rw [z]; rfl)), j_0] at kk; exact kk
        · rw [if_pos (j_inj.mp (q.trans j_0.symm))] at kk; exact kk
  · rw [if_neg c] at e
    obtain ⟨e1, e2, e3⟩ := rsO_inr e
    subst e1; subst e2; subst e3
    obtain ⟨v1, x1, b1, c1⟩ := h1 (d - 1) i nb j1 C1 N1 st (by omega) ho hi hnb (by omega) (by omega) p1 hN (by omega)
    refine ⟨v1, x1, b1, fun V K hm ha hk => ?_⟩
    show vMJ E d M_X12_testValue [sl 6 0] V K
    refine w_X12_testValue_0 (by omega) ?_
    refine c1 V _ hm ha (fun V1 f1 a1 => ?_)
    obtain ⟨k1, k2, _⟩ := (hm.fc f1).kd a1 (Nat.zero_le _) hi1
    exact ⟨k1, fun _ => hk V1 f1 a1, fun z => absurd ((kq 203 (hT2 j1) (by decide)).mp (k2.symm.trans z)) c⟩
/-- how far apart -/
theorem rel_b {u v op : Int32} {c : Nat} (hu : Sv u) (hv : Sv v) (h : rlo c = some op) : Tv (on2 op u v) ∧ 8 ≤ op ∧ op < 22 := by
  obtain ⟨a, b⟩ := hu
  obtain ⟨a', b'⟩ := hv
  have s1 := (j_sub (B := 1000000) ⟨a, b⟩ ⟨a', b'⟩ (by decide)).2
  have s2 := (j_sub (B := 1000000) ⟨a', b'⟩ ⟨a, b⟩ (by decide)).2
  have p1 := (j_add (B := 2000000) (x := u - v) (y := 1) ⟨by omega, by omega⟩ ⟨by rw [t_1]; omega, by rw [t_1]; omega⟩ (by decide)).2
  have p2 := (j_add (B := 2000000) (x := v - u) (y := 1) ⟨by omega, by omega⟩ ⟨by rw [t_1]; omega, by rw [t_1]; omega⟩ (by decide)).2
  rw [t_1] at p1 p2
  have mx : ∀ y : Int32, y.toInt ≤ 2000001 → Tv (imax 0 y) := fun y hy => by
    rw [imax_0]
    by_cases q : 0 < y
    · rw [if_pos q]
      have := i_lt.mp q
      rw [t_0] at this
      exact ⟨by omega, hy⟩
    · rw [if_neg q]; exact ⟨by rw [t_0]; omega, by rw [t_0]; omega⟩
  unfold rlo at h
  by_cases c1 : c = 61
  · rw [if_pos c1] at h
    obtain rfl := Option.some.inj h
    refine ⟨?_, by decide, by decide⟩
    rw [on2_13]
    unfold iabs
    by_cases q : 0 ≤ u - v
    · rw [if_pos q]
      have := i_le.mp q
      rw [t_0] at this
      exact ⟨this, by omega⟩
    · rw [if_neg q]
      have q' : ¬ (0 : Int32).toInt ≤ (u - v).toInt := fun z => q (i_le.mpr z)
      rw [t_0] at q'
      have := (j_sub (B := 2000000) (x := 0) (y := u - v) ⟨by rw [t_0]; omega, by rw [t_0]; omega⟩ ⟨by omega, by omega⟩ (by decide)).2
      rw [t_0] at this
      exact ⟨by omega, by omega⟩
  rw [if_neg c1] at h
  by_cases c2 : c = 35
  · rw [if_pos c2] at h
    obtain rfl := Option.some.inj h
    refine ⟨?_, by decide, by decide⟩
    rw [on2_14]
    by_cases q : u = v
    · rw [if_pos q]; exact ⟨by rw [t_1]; omega, by rw [t_1]; omega⟩
    · rw [if_neg q]; exact ⟨by rw [t_0]; omega, by rw [t_0]; omega⟩
  rw [if_neg c2] at h
  by_cases c3 : c = 60
  · rw [if_pos c3] at h
    obtain rfl := Option.some.inj h
    exact ⟨by rw [on2_15]; exact mx _ (by omega), by decide, by decide⟩
  rw [if_neg c3] at h
  by_cases c4 : c = 200
  · rw [if_pos c4] at h
    obtain rfl := Option.some.inj h
    exact ⟨by rw [on2_16]; exact mx _ (by omega), by decide, by decide⟩
  rw [if_neg c4] at h
  by_cases c5 : c = 62
  · rw [if_pos c5] at h
    obtain rfl := Option.some.inj h
    exact ⟨by rw [on2_17]; exact mx _ (by omega), by decide, by decide⟩
  rw [if_neg c5] at h
  by_cases c6 : c = 201
  · rw [if_pos c6] at h
    obtain rfl := Option.some.inj h
    exact ⟨by rw [on2_18]; exact mx _ (by omega), by decide, by decide⟩
  rw [if_neg c6] at h
  exact nomatch h
theorem rel_m {u v op : Int32} {c : Nat} {V : VH} {K : Int64 → VH → Prop} (hc : c < 317) (hu : Sv u) (hv : Sv v) (h : rlo c = some op) (hk : K (Int32.toInt64 (on2 op u v)) V) : (nI c = 35 → (¬ Int32.toInt64 u = Int32.toInt64 v → K 0 V) ∧ (Int32.toInt64 u = Int32.toInt64 v → K 1 V)) ∧ (nI c = 60 → (Int32.toInt64 u < Int32.toInt64 v → K 0 V) ∧ (¬ (Int32.toInt64 u < Int32.toInt64 v) → K ((Int32.toInt64 u - Int32.toInt64 v) + 1) V)) ∧ (nI c = 61 → (Int32.toInt64 v ≤ Int32.toInt64 u → K (Int32.toInt64 u - Int32.toInt64 v) V) ∧ (¬ (Int32.toInt64 v ≤ Int32.toInt64 u) → K (Int32.toInt64 v - Int32.toInt64 u) V)) ∧ (nI c = 200 → (Int32.toInt64 u ≤ Int32.toInt64 v → K 0 V) ∧ (¬ (Int32.toInt64 u ≤ Int32.toInt64 v) → K (Int32.toInt64 u - Int32.toInt64 v) V)) ∧ (nI c = 201 → (Int32.toInt64 v ≤ Int32.toInt64 u → K 0 V) ∧ (¬ (Int32.toInt64 v ≤ Int32.toInt64 u) → K (Int32.toInt64 v - Int32.toInt64 u) V)) ∧ (¬ nI c = 35 → ¬ nI c = 60 → ¬ nI c = 61 → ¬ nI c = 200 → ¬ nI c = 201 → (Int32.toInt64 v < Int32.toInt64 u → K 0 V) ∧ (¬ (Int32.toInt64 v < Int32.toInt64 u) → K ((Int32.toInt64 v - Int32.toInt64 u) + 1) V)) := by
  have k : ∀ m : Nat, m < 1000 → (nI c = nI m → c = m) := fun m hm => (kq m hc hm).mp
  obtain ⟨a, b⟩ := hu
  obtain ⟨a', b'⟩ := hv
  have s1 := j_sub (B := 1000000) ⟨a, b⟩ ⟨a', b'⟩ (by decide)
  have s2 := j_sub (B := 1000000) ⟨a', b'⟩ ⟨a, b⟩ (by decide)
  have p1 := j_add (B := 2000000) (x := u - v) (y := 1) ⟨by omega, by omega⟩ ⟨by rw [t_1]; omega, by rw [t_1]; omega⟩ (by decide)
  have p2 := j_add (B := 2000000) (x := v - u) (y := 1) ⟨by omega, by omega⟩ ⟨by rw [t_1]; omega, by rw [t_1]; omega⟩ (by decide)
  rw [j_1, t_1] at p1 p2
  rw [← s1.1, ← s2.1, ← p1.1, ← p2.1]
  have pos : ∀ {y : Int32}, 0 < y.toInt → imax 0 y = y := fun {y} hy => by rw [imax_0, if_pos (i_lt.mpr (by rw [t_0]; exact hy))]
  have neg : ∀ {y : Int32}, ¬ 0 < y.toInt → imax 0 y = 0 := fun {y} hy => by rw [imax_0, if_neg (fun z => hy (by have := i_lt.mp z; rw [t_0] at this; exact this))]
  refine ⟨fun q => ?_, fun q => ?_, fun q => ?_, fun q => ?_, fun q => ?_, fun q1 q2 q3 q4 q5 => ?_⟩
  · rw [k 35 (by decide) q] at h
    obtain rfl : 14 = op := Option.some.inj h
    rw [on2_14] at hk
    refine ⟨fun z => ?_, fun z => ?_⟩
    · rw [if_neg (fun y => z (by rw [y])), j_0] at hk; exact hk
    · rw [if_pos (j_inj.mp z), j_1] at hk; exact hk
  · rw [k 60 (by decide) q] at h
    obtain rfl : 15 = op := Option.some.inj h
    rw [on2_15] at hk
    refine ⟨fun z => ?_, fun z => ?_⟩
    · have := i_lt.mp (j_lt.mp z)
      rw [neg (by omega), j_0] at hk; exact hk
    · have : ¬ u.toInt < v.toInt := fun y => z (j_lt.mpr (i_lt.mpr y))
      rw [pos (by omega)] at hk; exact hk
  · rw [k 61 (by decide) q] at h
    obtain rfl : 13 = op := Option.some.inj h
    rw [on2_13] at hk
    unfold iabs at hk
    refine ⟨fun z => ?_, fun z => ?_⟩
    · have := i_le.mp (j_le.mp z)
      rw [if_pos (i_le.mpr (by rw [t_0]; omega))] at hk; exact hk
    · have : ¬ v.toInt ≤ u.toInt := fun y => z (j_le.mpr (i_le.mpr y))
      rw [if_neg (fun y => by have := i_le.mp y; rw [t_0] at this; omega)] at hk
      have e : (0 : Int32) - (u - v) = v - u := by
        have := (j_sub (B := 2000000) (x := 0) (y := u - v) ⟨by rw [t_0]; omega, by rw [t_0]; omega⟩ ⟨by omega, by omega⟩ (by decide)).2
        rw [t_0] at this
        exact Int32.toInt_inj.mp (by omega)
      rw [e] at hk; exact hk
  · rw [k 200 (by decide) q] at h
    obtain rfl : 16 = op := Option.some.inj h
    rw [on2_16] at hk
    refine ⟨fun z => ?_, fun z => ?_⟩
    · have := i_le.mp (j_le.mp z)
      rw [neg (by omega), j_0] at hk; exact hk
    · have : ¬ u.toInt ≤ v.toInt := fun y => z (j_le.mpr (i_le.mpr y))
      rw [pos (by omega)] at hk; exact hk
  · rw [k 201 (by decide) q] at h
    obtain rfl : 18 = op := Option.some.inj h
    rw [on2_18] at hk
    refine ⟨fun z => ?_, fun z => ?_⟩
    · have := i_le.mp (j_le.mp z)
      rw [neg (by omega), j_0] at hk; exact hk
    · have : ¬ v.toInt ≤ u.toInt := fun y => z (j_le.mpr (i_le.mpr y))
      rw [pos (by omega)] at hk; exact hk
  · have n1 : ¬ c = 35 := fun z => q1 (by rw [z]; rfl)
    have n2 : ¬ c = 60 := fun z => q2 (by rw [z]; rfl)
    have n3 : ¬ c = 61 := fun z => q3 (by rw [z]; rfl)
    have n4 : ¬ c = 200 := fun z => q4 (by rw [z]; rfl)
    have n5 : ¬ c = 201 := fun z => q5 (by rw [z]; rfl)
    have c62 : op = 17 := by
      unfold rlo at h
      rw [if_neg n3, if_neg n1, if_neg n2, if_neg n4] at h
      by_cases c5 : c = 62
      · rw [if_pos c5] at h; exact (Option.some.inj h).symm
      · rw [if_neg c5, if_neg n5] at h; exact nomatch h
    subst c62
    rw [on2_17] at hk
    refine ⟨fun z => ?_, fun z => ?_⟩
    · have := i_lt.mp (j_lt.mp z)
      rw [neg (by omega), j_0] at hk; exact hk
    · have : ¬ v.toInt < u.toInt := fun y => z (j_lt.mpr (i_lt.mpr y))
      rw [pos (by omega)] at hk; exact hk
end
