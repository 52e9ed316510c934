/-! special tests of the reference: apart, its groups -/
section
variable {E : EE} {d : Nat} {p : Nat} {T : Nat → TK} {M : MN} {L nf nv : Nat} {fa se nt : Nat → Int32}
def apA (nt : Nat → Int32) (nv : Nat) (se : Nat → Int32) (w r : Nat) : Int32 := ntv nt (cut nv se) (w + 4 * r)
def apB (nt : Nat → Int32) (nv : Nat) (se : Nat → Int32) (w r : Nat) : Int32 := ntv nt (cut nv se) (w + 4 * r + 1)
def apW (nt : Nat → Int32) (w r : Nat) : Int32 := nt (w + 4 * r + 2)
def apH (nt : Nat → Int32) (w r : Nat) : Int32 := nt (w + 4 * r + 3)
theorem grp_a4 {i i1 : Nat} {xs : List Int32} (h : grp T M shA 4 0 i = .inr (i1, xs)) : i1 = i + 8 ∧ ∃ v u, vrb T M (i + 1) = .inr (i + 2, v) ∧ vrb T M (i + 3) = .inr (i + 4, u) ∧ (T (i + 5)).1 = 2 ∧ (T (i + 7)).1 = 2 ∧ xs = [nI v, nI u, nI (T (i + 5)).2.2.1, nI (T (i + 7)).2.2.1] := by
  obtain ⟨_, k1, x1, ys1, p1, h, e1⟩ := grp_st h
  obtain ⟨_, k2, x2, ys2, p2, h, e2⟩ := grp_st h
  obtain ⟨_, k3, x3, ys3, p3, h, e3⟩ := grp_st h
  obtain ⟨_, k4, x4, ys4, p4, h, e4⟩ := grp_st h
  obtain ⟨e5, e6⟩ := grp_nil h
  obtain ⟨v, q1, f1⟩ := ent_0 (show ent T M 0 (i + 1) = .inr (k1, x1) from p1)
  have g1 := (vrb_ok q1).2.1
  subst g1
  obtain ⟨u, q2, f2⟩ := ent_0 (show ent T M 0 (i + 1 + 1 + 1) = .inr (k2, x2) from p2)
  have g2 := (vrb_ok q2).2.1
  subst g2
  obtain ⟨q3, g3, f3⟩ := ent_num (s := 2) (Or.inl rfl) (show ent T M 2 (i + 1 + 1 + 1 + 1 + 1) = .inr (k3, x3) from p3)
  subst g3
  obtain ⟨q4, g4, f4⟩ := ent_num (s := 2) (Or.inl rfl) (show ent T M 2 (i + 1 + 1 + 1 + 1 + 1 + 1 + 1) = .inr (k4, x4) from p4)
  subst g4
  refine ⟨by omega, v, u, q1, q2, q3, q4, ?_⟩
  rw [e1, e2, e3, e4, e6, f1, f2, f3, f4]
theorem ev_apart1 {K : Int64 → VH → Prop} {V : VH} {w i i1 n : Nat} {t x2 : Int32} {xs : List Int32} (h0 : 0 < d) (hg : EG T M nf nv fa se) (hm : EM V p T M 0 L fa se) (ha : vI V 6 0 54 + t = nI (20000 * p + (i + 1))) (e : grp T M shA 4 0 i = .inr (i1, xs)) (iL : i1 < L) (hn : n < 40) (hN : Ntd nt (w + 4 * n) xs) (hb : AP V n (apA nt nv se w) (apB nt nv se w) (apW nt w) (apH nt w)) (hk : ∀ V', Fc V V' evS → EA V' p (i1 + 1) → AP V' (n + 1) (apA nt nv se w) (apB nt nv se w) (apW nt w) (apH nt w) → vwp E d M_X12_apartValue 4 [some (sl 6 0), some (wi (nI (n + 1))), some (wi 0), none, none, none, none, none, none] [] V' (zj K)) : vwp E d M_X12_apartValue 32 [some (sl 6 0), some (wi (nI n)), some (wi x2), none, none, none, none, none, none] [wi t, wi (vI V 6 0 54), sl 6 0] V (zj K) := by
  obtain ⟨ei, v, u, pv, pu, q5, q7, ex⟩ := grp_a4 e
  subst ei; subst ex
  have pin : vp_in (nI n) 40 := vp_in_nI (by omega) (by decide)
  have t0 : nt (w + 4 * n) = nI v := hN 0 (by show 0 < 4; omega)
  have t1 : nt (w + 4 * n + 1) = nI u := hN 1 (by show 1 < 4; omega)
  have t2 : nt (w + 4 * n + 2) = nI (T (i + 5)).2.2.1 := hN 2 (by show 2 < 4; omega)
  have t3 : nt (w + 4 * n + 3) = nI (T (i + 7)).2.2.1 := hN 3 (by show 3 < 4; omega)
  have h12 := hg.2.2.2.1
  refine w_X12_apartValue_32 h0 (fun V1 e1 => ?_)
  have f1 : Fc V V1 evS := by rw [e1]; exact Fc_wrI ⟨rfl, Or.inl ⟨rfl, Or.inl rfl⟩⟩
  have a1 : EA V1 p (i + 1) := by show vI V1 6 0 54 = _; rw [e1, wrI_at]; exact ha
  refine ev_var hg (hm.fc f1) a1 (by omega) pv (fun V2 f2 a2 k2 _ lv => ?_)
  rw [nI_clamp (show n < 2 ^ 31 by omega)]
  refine ⟨pin, fun V6 e6 V7 e7 => ?_⟩
  have f6 : Fc V2 V6 evS := by rw [e6]; exact Fc_wrJ ⟨rfl, by omega⟩
  have a6 : EA V6 p (i + 2) := by show vI V6 6 0 54 = _; rw [e6]; exact a2
  obtain ⟨a7, f7⟩ := a6.st 1 e7 rfl
  have hm7 := (((hm.fc f1).fc f2).fc f6).fc f7
  refine ev_var hg hm7 a7 (by omega) pu (fun V8 f8 a8 k8 _ lu => ?_)
  refine ⟨pin, fun V12 e12 V13 e13 => ?_⟩
  have f12 : Fc V8 V12 evS := by rw [e12]; exact Fc_wrJ ⟨rfl, by omega⟩
  have a12 : EA V12 p (i + 4) := by show vI V12 6 0 54 = _; rw [e12]; exact a8
  obtain ⟨a13, f13⟩ := a12.st 1 e13 rfl
  have hm13 := ((hm7.fc f8).fc f12).fc f13
  obtain ⟨r1, r2⟩ := ev_tok hm13 a13 (show i + 4 + 1 < L by omega) q5
  rw [r2]
  refine ⟨r1, pin, fun V16 e16 V17 e17 => ?_⟩
  have f16 : Fc V13 V16 evS := by rw [e16]; exact Fc_wrJ ⟨rfl, by omega⟩
  have a16 : EA V16 p (i + 4 + 1) := by show vI V16 6 0 54 = _; rw [e16]; exact a13
  obtain ⟨a17, f17⟩ := a16.st 2 e17 rfl
  have hm17 := (hm13.fc f16).fc f17
  obtain ⟨s1, s2⟩ := ev_tok hm17 a17 (show i + 4 + 1 + 2 < L by omega) q7
  rw [s2]
  refine ⟨s1, pin, fun V20 e20 V21 e21 => ?_⟩
  have f20 : Fc V17 V20 evS := by rw [e20]; exact Fc_wrJ ⟨rfl, by omega⟩
  have a20 : EA V20 p (i + 4 + 1 + 2) := by show vI V20 6 0 54 = _; rw [e20]; exact a17
  obtain ⟨a21, f21⟩ := a20.st 2 e21 rfl
  rw [nI_1]
  refine hk V21 ((((((((((f1.trans f2).trans f6).trans f7).trans f8).trans f12).trans f13).trans f16).trans f17).trans f20).trans f21) a21 (fun r hr => ?_)
  have j21 : ∀ f k, vJ V21 6 f k = vJ V20 6 f k := fun f k => by rw [e21]; rfl
  have j17 : ∀ f k, vJ V17 6 f k = vJ V16 6 f k := fun f k => by rw [e17]; rfl
  have j13 : ∀ f k, vJ V13 6 f k = vJ V12 6 f k := fun f k => by rw [e13]; rfl
  have j7 : ∀ f k, vJ V7 6 f k = vJ V6 6 f k := fun f k => by rw [e7]; rfl
  have j1 : ∀ f k, vJ V1 6 f k = vJ V 6 f k := fun f k => by rw [e1]; rfl
  obtain ⟨_, _, x9, x0, y1, y2⟩ := k8 r
  obtain ⟨_, _, z9, z0, w1, w2⟩ := k2 r
  by_cases cr : r = n
  · subst cr
    have sv : apA nt nv se w r = se v := by unfold apA ntv; rw [ntn_eq t0 (by omega), cut_in lv]
    have su : apB nt nv se w r = se u := by unfold apB ntv; rw [ntn_eq t1 (by omega), cut_in lu]
    refine ⟨?_, ?_, ?_, ?_, by rw [sv]; exact hg.2.2.2.2.2 v lv, by rw [su]; exact hg.2.2.2.2.2 u lu, by unfold apW; rw [t2]; exact nI_bn ((hg.1 _).2 q5), by unfold apH; rw [t3]; exact nI_bn ((hg.1 _).2 q7)⟩
    · rw [j21, e20, wrJ_ne (fun z => by omega), j17, e16, wrJ_ne (fun z => by omega), j13, e12, wrJ_ne (fun z => by omega), x9, j7, e6, wrJ_at, sv]
    · rw [j21, e20, wrJ_ne (fun z => by omega), j17, e16, wrJ_ne (fun z => by omega), j13, e12, wrJ_at, su]
    · rw [j21, e20, wrJ_ne (fun z => by omega), j17, e16, wrJ_at]
      unfold apW
      rw [t2]
    · rw [j21, e20, wrJ_at]
      unfold apH
      rw [t3]
  · obtain ⟨b1, b2, b3, b4, b5⟩ := hb r (by omega)
    refine ⟨?_, ?_, ?_, ?_, b5⟩
    · rw [j21, e20, wrJ_ne (fun z => by omega), j17, e16, wrJ_ne (fun z => by omega), j13, e12, wrJ_ne (fun z => by omega), x9, j7, e6, wrJ_ne (fun z => cr (by omega)), z9, j1]; exact b1
    · rw [j21, e20, wrJ_ne (fun z => by omega), j17, e16, wrJ_ne (fun z => by omega), j13, e12, wrJ_ne (fun z => cr (by omega)), x0, j7, e6, wrJ_ne (fun z => by omega), z0, j1]; exact b2
    · rw [j21, e20, wrJ_ne (fun z => by omega), j17, e16, wrJ_ne (fun z => cr (by omega)), j13, e12, wrJ_ne (fun z => by omega), y2, j7, e6, wrJ_ne (fun z => by omega), w2, j1]; exact b3
    · rw [j21, e20, wrJ_ne (fun z => cr (by omega)), j17, e16, wrJ_ne (fun z => by omega), j13, e12, wrJ_ne (fun z => by omega), y1, j7, e6, wrJ_ne (fun z => by omega), w1, j1]; exact b4
theorem ev_apartG {K : Int64 → VH → Prop} {w : Nat} (h0 : 0 < d) (hT : TL T L) (hg : EG T M nf nv fa se) : ∀ (m i i2 n : Nat) (t x2 : Int32) (q : Nat × List Int32) (V : VH), grs T M shA 4 (m + 1) i = .inr (i2, q) → (T i2).1 = 41 → i ≤ L → i2 < L → n + m + 1 ≤ 40 → Ntd nt (w + 4 * n) q.2 → EM V p T M 0 L fa se → vI V 6 0 54 + t = nI (20000 * p + (i + 1)) → AP V n (apA nt nv se w) (apB nt nv se w) (apW nt w) (apH nt w) → (∀ V', Fc V V' evS → EA V' p i2 → AP V' (n + q.1) (apA nt nv se w) (apB nt nv se w) (apW nt w) (apH nt w) → vwp E d M_X12_apartValue 4 [some (sl 6 0), some (wi (nI (n + q.1))), some (wi 0), none, none, none, none, none, none] [] V' (zj K)) → vwp E d M_X12_apartValue 32 [some (sl 6 0), some (wi (nI n)), some (wi x2), none, none, none, none, none, none] [wi t, wi (vI V 6 0 54), sl 6 0] V (zj K) := by
  intro m
  induction m with
  | zero =>
    intro i i2 n t x2 q V e c41 hi iL hn hN hm ha hb hk
    obtain ⟨i1, xs, p1, c1, h⟩ := grs_st e
    rcases h with ⟨e1, e2, _⟩ | ⟨_, z, _⟩
    · subst e1; subst e2
      exact ev_apart1 h0 hg hm ha p1 (by omega) (by omega) hN hb hk
    · exact absurd rfl z
  | succ m ih =>
    intro i i2 n t x2 q V e c41 hi iL hn hN hm ha hb hk
    obtain ⟨i1, xs, p1, c1, h⟩ := grs_st e
    rcases h with ⟨e1, e2, _⟩ | ⟨c44, _, q', p2, e2⟩
    · subst e1; subst e2
      exact ev_apart1 h0 hg hm ha p1 (by omega) (by omega) hN hb hk
    · subst e2
      obtain ⟨n1, n2⟩ := hN.app
      have lx := grp_len _ _ _ _ _ p1
      have i1L : i1 < L := by
        have := grp_fit (T := T) (M := M) (L := L) hT (sh := shA) 4 0 i hi
        rw [p1] at this
        exact hT.lt this.2.1 (by rw [c1]; decide) (by rw [c1]; decide)
      have i1L2 : i1 + 1 < L := hT.lt (by omega) (by rw [c44]; decide) (by rw [c44]; decide)
      refine ev_apart1 h0 hg hm ha p1 i1L (by omega) n1 hb (fun V' f' a' b' => ?_)
      rw [lx] at n2
      obtain ⟨k1, k2, _⟩ := (hm.fc f').kd a' (Nat.zero_le _) i1L2
      refine w_X12_apartValue_4 ⟨k1, fun z => absurd z (by rw [k2, c44]; decide), fun _ => ⟨fun _ => ?_, fun z => absurd rfl z⟩⟩
      refine ih (i1 + 2) i2 (n + 1) 2 0 q' V' p2 c41 (by omega) iL (by omega) (by rw [show w + 4 * (n + 1) = w + 4 * n + 4 by omega]; exact n2) (hm.fc f') ?_ b' (fun V2 f2 a2 b2 => ?_)
      · rw [show vI V' 6 0 54 = nI (20000 * p + (i1 + 1)) from a', show (2 : Int32) = nI 2 from rfl, nI_add]
        exact congrArg nI (by omega)
      · have kk := hk V2 (f'.trans f2) a2
        rw [show n + (q'.1 + 1, xs ++ q'.2).1 = n + 1 + q'.1 by show n + (q'.1 + 1) = _; omega] at kk
        exact kk b2
/-- apart, as it stands in the notes -/
theorem lst_apart {i nb j1 : Nat} {N : List Int32} (hg : EG T M nf nv fa se) (e : lst T M 312 i = .inr (j1, N)) (hN : Ntd nt nb N) : ∃ q, grs T M shA 4 40 i = .inr (j1, q) ∧ N.length = 1 + 4 * q.1 ∧ nt nb = nI q.1 ∧ Ntd nt (nb + 1) q.2 ∧ q.1 ≤ 40 ∧ ∀ r, r < q.1 → (∃ v, v < nv ∧ nt (nb + 1 + 4 * r) = nI v) ∧ ∃ v, v < nv ∧ nt (nb + 1 + 4 * r + 1) = nI v := by
  unfold lst at e
  rw [if_pos rfl] at e
  obtain ⟨k2, q, p2, e⟩ := nrB_inr e
  have e1 : k2 = j1 := congrArg Prod.fst (Sum.inr.inj e)
  have eN : nI q.1 :: q.2 = N := congrArg Prod.snd (Sum.inr.inj e)
  subst e1; subst eN
  obtain ⟨t0, h1⟩ := hN.tl
  obtain ⟨a1, a2, _, a4⟩ := grs_g _ _ _ _ _ p2 h1
  refine ⟨q, p2, by rw [List.length_cons, a2]; omega, t0, h1, a1, fun r hr => ?_⟩
  obtain ⟨i0, i3, xs, p3, hj⟩ := a4 r hr
  obtain ⟨_, v, u, q1, q2, _, _, ex⟩ := grp_a4 p3
  subst ex
  exact ⟨⟨v, (hg.2.1 _ _ (vrb_ok q1).2.2).2 rfl, hj 0 (by decide)⟩, ⟨u, (hg.2.1 _ _ (vrb_ok q2).2.2).2 rfl, hj 1 (by decide)⟩⟩
theorem sp_apart {i nb j1 : Nat} {N : List Int32} (h0 : 1 < d) (hT : TL T L) (hg : EG T M nf nv fa se) (e : lst T M 312 i = .inr (j1, N)) (c41 : (T j1).1 = 41) (hi : i ≤ j1) (hj : j1 < L) (hN : Ntd nt nb N) : Tv (spx nt (cut nv se) 28 nb) ∧ ∀ (V : VH) (K : Int64 → VH → Prop), EM V p T M 0 L fa se → EA V p i → (∀ V', Fc V V' evS → EA V' p j1 → K (Int32.toInt64 (spx nt (cut nv se) 28 nb)) V') → vMJ E d M_X12_apartValue [sl 6 0] V K := by
  obtain ⟨q, p2, _, t0, h1, q40, _⟩ := lst_apart hg e hN
  have es : spx nt (cut nv se) 28 nb = nI (ork (ov2 (apA nt nv se (nb + 1)) (apB nt nv se (nb + 1)) (apW nt (nb + 1)) (apH nt (nb + 1))) q.1) := by
    rw [spx_28, ntn_eq t0 (by omega), oci_ork (fun i j => ov2_sym _ _ _ _ i j)]
    rfl
  rw [es]
  have ol := ork_le (ov2 (apA nt nv se (nb + 1)) (apB nt nv se (nb + 1)) (apW nt (nb + 1)) (apH nt (nb + 1))) q.1 q40
  refine ⟨nI_tv (by omega), fun V K hm ha hk => ?_⟩
  have iL : i < L := by omega
  obtain ⟨i1, xs, p1, c1, _⟩ := grs_st (m := 39) p2
  have c40 : (T i).1 = 40 := (grp_st (m := 3) p1).1
  obtain ⟨k1, k2, _⟩ := hm.kd ha (Nat.zero_le _) iL
  refine w_X12_apartValue_0 (w_X12_apartValue_4 ⟨k1, fun z => absurd z (by rw [k2, c40]; decide), fun _ => ⟨fun z => absurd z (by decide), fun _ => ?_⟩⟩)
  refine ev_apartG (w := nb + 1) (by omega) hT hg 39 i j1 0 1 1 q V p2 c41 (by omega) hj (by decide) h1 hm ?_ (fun r hr => absurd hr (Nat.not_lt_zero r)) (fun V' f' a' b' => ?_)
  · rw [show vI V 6 0 54 = nI (20000 * p + i) from ha, nI_1]
    exact congrArg nI (by omega)
  · rw [Nat.zero_add] at b' ⊢
    obtain ⟨m1, m2, _⟩ := (hm.fc f').kd a' (Nat.zero_le _) hj
    refine w_X12_apartValue_4 ⟨m1, fun _ => ?_, fun z => absurd (by rw [m2, c41]; rfl) z⟩
    exact ev_apartV q40 b' (hk V' f' a')
end
