/-! special tests of the reference: busy -/
def BY (V : VH) (n : Nat) (s du us : Nat → Int32) : Prop := ∀ r, r < n → vJ V 6 39 r = Int32.toInt64 (s r) ∧ vJ V 6 40 r = Int32.toInt64 (du r) ∧ vJ V 6 41 r = Int32.toInt64 (us r) ∧ Bn 9999 (s r) ∧ Bn 9999 (du r) ∧ Bn 9999 (us r)
section
variable {E : EE} {d : Nat} {p : Nat} {T : Nat → TK} {M : MN} {L nf nv : Nat} {fa se nt : Nat → Int32}
/-- what busy says of its groups, in the notes from w on -/
def bgS (nt : Nat → Int32) (nv : Nat) (se : Nat → Int32) (w r : Nat) : Int32 := ntv nt (cut nv se) (w + 3 * r)
def bgD (nt : Nat → Int32) (w r : Nat) : Int32 := nt (w + 3 * r + 1)
def bgU (nt : Nat → Int32) (w r : Nat) : Int32 := nt (w + 3 * r + 2)
theorem nI_bn {n : Nat} (h : n ≤ 9999) : Bn 9999 (nI n) := by
  have : (nI n).toInt = (n : Int) := Int32.toInt_ofNat_of_lt (by omega)
  exact ⟨by rw [this]; omega, by rw [this]; omega⟩
/-- one group -/
theorem grp_b3 {k i1 : Nat} {xs : List Int32} (h : grp T M shB 3 0 (k + 1) = .inr (i1, xs)) : i1 = k + 7 ∧ ∃ v, vrb T M (k + 2) = .inr (k + 3, v) ∧ (T (k + 4)).1 = 2 ∧ (T (k + 6)).1 = 2 ∧ xs = [nI v, nI (T (k + 4)).2.2.1, nI (T (k + 6)).2.2.1] := by
  obtain ⟨_, k1, x1, ys1, p1, h, e1⟩ := grp_st h
  obtain ⟨_, k2, x2, ys2, p2, h, e2⟩ := grp_st h
  obtain ⟨_, k3, x3, ys3, p3, h, e3⟩ := grp_st h
  obtain ⟨e4, e5⟩ := grp_nil h
  obtain ⟨v, q1, f1⟩ := ent_0 (show ent T M 0 (k + 1 + 1) = .inr (k1, x1) from p1)
  have g1 := (vrb_ok q1).2.1
  subst g1
  obtain ⟨q2, g2, f2⟩ := ent_num (s := 2) (Or.inl rfl) (show ent T M 2 (k + 1 + 1 + 1 + 1) = .inr (k2, x2) from p2)
  subst g2
  obtain ⟨q3, g3, f3⟩ := ent_num (s := 2) (Or.inl rfl) (show ent T M 2 (k + 1 + 1 + 1 + 1 + 1 + 1) = .inr (k3, x3) from p3)
  subst g3
  refine ⟨by omega, v, q1, q2, q3, ?_⟩
  rw [e1, e2, e3, e5, f1, f2, f3]
theorem ev_busy1 {K : Int64 → VH → Prop} {c : Int64} {V : VH} {w k i1 n : Nat} {xs : List Int32} (h0 : 0 < d) (hg : EG T M nf nv fa se) (hm : EM V p T M 0 L fa se) (ha : EA V p k) (ck : ¬ (T k).1 = 41) (e : grp T M shB 3 0 (k + 1) = .inr (i1, xs)) (iL : i1 < L) (hn : n < 40) (hN : Ntd nt (w + 3 * n) xs) (hb : BY V n (bgS nt nv se w) (bgD nt w) (bgU nt w)) (hk : ∀ V', Fc V V' evS → EA V' p (i1 + 1) → BY V' (n + 1) (bgS nt nv se w) (bgD nt w) (bgU nt w) → vwp E d M_X12_busyValue 23 [some (sl 6 0), some (wj c), none, some (wi (nI (n + 1))), none, none, none, none, none, none, none] [] V' (zj K)) : vwp E d M_X12_busyValue 23 [some (sl 6 0), some (wj c), none, some (wi (nI n)), none, none, none, none, none, none, none] [] V (zj K) := by
  obtain ⟨ei, v, pv, q4, q6, ex⟩ := grp_b3 e
  subst ei; subst ex
  have pin : vp_in (nI n) 40 := vp_in_nI (by omega) (by decide)
  have t0 : nt (w + 3 * n) = nI v := hN 0 (by show 0 < 3; omega)
  have t1 : nt (w + 3 * n + 1) = nI (T (k + 4)).2.2.1 := hN 1 (by show 1 < 3; omega)
  have t2 : nt (w + 3 * n + 2) = nI (T (k + 6)).2.2.1 := hN 2 (by show 2 < 3; omega)
  have h12 := hg.2.2.2.1
  obtain ⟨k1, k2, _⟩ := hm.kd ha (Nat.zero_le _) (show k < L by omega)
  refine w_X12_busyValue_23 h0 ⟨k1, fun z => absurd ((kq 41 (hg.1 k).1 (by decide)).mp (k2.symm.trans z)) ck, fun _ V2 e2 => ?_⟩
  obtain ⟨a2, f2⟩ := ha.st 2 e2 rfl
  refine ev_var hg (hm.fc f2) a2 (by omega) pv (fun V3 f3 a3 k3 _ lv => ?_)
  rw [nI_clamp (show n < 2 ^ 31 by omega)]
  refine ⟨pin, fun V7 e7 V8 e8 => ?_⟩
  have f7 : Fc V3 V7 evS := by rw [e7]; exact Fc_wrJ ⟨rfl, by omega⟩
  have a7 : EA V7 p (k + 3) := by show vI V7 6 0 54 = _; rw [e7]; exact a3
  obtain ⟨a8, f8⟩ := a7.st 1 e8 rfl
  have hm8 := (((hm.fc f2).fc f3).fc f7).fc f8
  obtain ⟨r1, r2⟩ := ev_tok hm8 a8 (show k + 3 + 1 < L by omega) q4
  rw [r2]
  refine ⟨r1, pin, fun V11 e11 V12 e12 => ?_⟩
  have f11 : Fc V8 V11 evS := by rw [e11]; exact Fc_wrJ ⟨rfl, by omega⟩
  have a11 : EA V11 p (k + 3 + 1) := by show vI V11 6 0 54 = _; rw [e11]; exact a8
  obtain ⟨a12, f12⟩ := a11.st 2 e12 rfl
  have hm12 := (hm8.fc f11).fc f12
  obtain ⟨s1, s2⟩ := ev_tok hm12 a12 (show k + 3 + 1 + 2 < L by omega) q6
  rw [s2]
  refine ⟨s1, pin, fun V15 e15 V16 e16 => ?_⟩
  have f15 : Fc V12 V15 evS := by rw [e15]; exact Fc_wrJ ⟨rfl, by omega⟩
  have a15 : EA V15 p (k + 3 + 1 + 2) := by show vI V15 6 0 54 = _; rw [e15]; exact a12
  obtain ⟨a16, f16⟩ := a15.st 2 e16 rfl
  rw [nI_1]
  refine hk V16 (((((((f2.trans f3).trans f7).trans f8).trans f11).trans f12).trans f15).trans f16) a16 (fun r hr => ?_)
  have j16 : ∀ f k, vJ V16 6 f k = vJ V15 6 f k := fun f k => by rw [e16]; rfl
  have j12 : ∀ f k, vJ V12 6 f k = vJ V11 6 f k := fun f k => by rw [e12]; rfl
  have j8 : ∀ f k, vJ V8 6 f k = vJ V7 6 f k := fun f k => by rw [e8]; rfl
  have j2 : ∀ f k, vJ V2 6 f k = vJ V 6 f k := fun f k => by rw [e2]; rfl
  by_cases cr : r = n
  · subst cr
    have sv : bgS nt nv se w r = se v := by
      unfold bgS ntv
      rw [ntn_eq t0 (by omega), cut_in lv]
    refine ⟨?_, ?_, ?_, by rw [sv]; exact hg.2.2.2.2.2 v lv, by unfold bgD; rw [t1]; exact nI_bn ((hg.1 _).2 q4), by unfold bgU; rw [t2]; exact nI_bn ((hg.1 _).2 q6)⟩
    · rw [j16, e15, wrJ_ne (fun z => by omega), j12, e11, wrJ_ne (fun z => by omega), j8, e7, wrJ_at]
      unfold bgS ntv
      rw [ntn_eq t0 (by omega), cut_in lv]
    · rw [j16, e15, wrJ_ne (fun z => by omega), j12, e11, wrJ_at]
      unfold bgD
      rw [t1]
    · rw [j16, e15, wrJ_at]
      unfold bgU
      rw [t2]
  · obtain ⟨b1, b2, b3, b4⟩ := hb r (by omega)
    obtain ⟨_, _, x1, x2, x3, _⟩ := k3 r
    refine ⟨?_, ?_, ?_, b4⟩
    · rw [j16, e15, wrJ_ne (fun z => by omega), j12, e11, wrJ_ne (fun z => by omega), j8, e7, wrJ_ne (fun z => cr (by omega)), x1, j2]; exact b1
    · rw [j16, e15, wrJ_ne (fun z => by omega), j12, e11, wrJ_ne (fun z => cr (by omega)), j8, e7, wrJ_ne (fun z => by omega), x2, j2]; exact b2
    · rw [j16, e15, wrJ_ne (fun z => cr (by omega)), j12, e11, wrJ_ne (fun z => by omega), j8, e7, wrJ_ne (fun z => by omega), x3, j2]; exact b3
theorem ev_busyG {K : Int64 → VH → Prop} {c : Int64} {w : Nat} (h0 : 0 < d) (hT : TL T L) (hg : EG T M nf nv fa se) : ∀ (m k i2 n : Nat) (q : Nat × List Int32) (V : VH), grs T M shB 3 (m + 1) (k + 1) = .inr (i2, q) → (T i2).1 = 41 → ¬ (T k).1 = 41 → k < L → i2 < L → n + m + 1 ≤ 40 → Ntd nt (w + 3 * n) q.2 → EM V p T M 0 L fa se → EA V p k → BY V n (bgS nt nv se w) (bgD nt w) (bgU nt w) → (∀ V', Fc V V' evS → EA V' p i2 → q.1 ≤ m + 1 → BY V' (n + q.1) (bgS nt nv se w) (bgD nt w) (bgU nt w) → vwp E d M_X12_busyValue 23 [some (sl 6 0), some (wj c), none, some (wi (nI (n + q.1))), none, none, none, none, none, none, none] [] V' (zj K)) → vwp E d M_X12_busyValue 23 [some (sl 6 0), some (wj c), none, some (wi (nI n)), none, none, none, none, none, none, none] [] V (zj K) := by
  intro m
  induction m with
  | zero =>
    intro k i2 n q V e c41 ck kL iL hn hN hm ha hb hk
    obtain ⟨i1, xs, p1, c1, h⟩ := grs_st e
    rcases h with ⟨e1, e2, _⟩ | ⟨_, z, _⟩
    · subst e1; subst e2
      exact ev_busy1 h0 hg hm ha ck p1 (by omega) (by omega) hN hb (fun V' f' a' b' => hk V' f' a' (by show 1 ≤ 0 + 1; omega) b')
    · exact absurd rfl z
  | succ m ih =>
    intro k i2 n q V e c41 ck kL iL hn hN hm ha hb hk
    obtain ⟨i1, xs, p1, c1, h⟩ := grs_st e
    rcases h with ⟨e1, e2, _⟩ | ⟨c44, _, q', p2, e2⟩
    · subst e1; subst e2
      exact ev_busy1 h0 hg hm ha ck p1 (by omega) (by omega) hN hb (fun V' f' a' b' => hk V' f' a' (by show 1 ≤ m + 1 + 1; omega) b')
    · subst e2
      obtain ⟨n1, n2⟩ := hN.app
      have lx : xs.length = 3 := by obtain ⟨_, v, _, _, _, ex⟩ := grp_b3 p1; rw [ex]; rfl
      have fx := grp_b3 p1
      have i1L : i1 < L := by
        have := grp_fit (T := T) (M := M) (L := L) hT (sh := shB) 3 0 (k + 1) (by omega)
        rw [p1] at this
        exact hT.lt this.2.1 (by rw [c1]; decide) (by rw [c1]; decide)
      have i1L2 : i1 + 1 < L := hT.lt (by omega) (by rw [c44]; decide) (by rw [c44]; decide)
      refine ev_busy1 h0 hg hm ha ck p1 i1L (by omega) n1 hb (fun V' f' a' b' => ?_)
      rw [lx] at n2
      refine ih (i1 + 1) i2 (n + 1) q' V' p2 c41 (by rw [c44]; decide) i1L2 iL (by omega) (by rw [show w + 3 * (n + 1) = w + 3 * n + 3 by omega]; exact n2) (hm.fc f') a' b' (fun V2 f2 a2 l2 b2 => ?_)
      have kk := hk V2 (f'.trans f2) a2 (by show q'.1 + 1 ≤ m + 1 + 1; omega)
      rw [show n + (q'.1 + 1, xs ++ q'.2).1 = n + 1 + q'.1 by show n + (q'.1 + 1) = _; omega] at kk
      exact kk b2
end
