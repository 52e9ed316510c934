/-! special tests of the reference: groups in the notes; busy -/
section
variable {E : EE} {d : Nat} {p : Nat} {T : Nat → TK} {M : MN} {L nf nv : Nat} {fa se nt : Nat → Int32}
theorem grp_len {sh : Nat → Nat} : ∀ (m j i i1 : Nat) (xs : List Int32), grp T M sh m j i = .inr (i1, xs) → xs.length = m := by
  intro m
  induction m with
  | zero => intro j i i1 xs h; rw [(grp_nil h).2]; rfl
  | succ m ih =>
    intro j i i1 xs h
    obtain ⟨_, k, x, ys, _, h2, e⟩ := grp_st h
    rw [e, List.length_cons, ih _ _ _ _ h2]
theorem grs_g {sh : Nat → Nat} {wide : Nat} : ∀ (m i i2 w : Nat) (q : Nat × List Int32), grs T M sh wide m i = .inr (i2, q) → Ntd nt w q.2 → q.1 ≤ m ∧ q.2.length = wide * q.1 ∧ (m ≠ 0 → 1 ≤ q.1) ∧ ∀ r, r < q.1 → ∃ i0 i1 xs, grp T M sh wide 0 i0 = .inr (i1, xs) ∧ ∀ j, j < wide → nt (w + wide * r + j) = xs.getD j 0 := by
  intro m
  induction m with
  | zero =>
    intro i i2 w q h hN
    have h' := Sum.inr.inj (show (Sum.inr (i, 0, []) : NR (Nat × List Int32)) = Sum.inr (i2, q) from h)
    have e : ((0 : Nat), ([] : List Int32)) = q := congrArg Prod.snd h'
    subst e
    exact ⟨Nat.le_refl 0, rfl, fun z => absurd rfl z, fun r hr => absurd hr (Nat.not_lt_zero r)⟩
  | succ m ih =>
    intro i i2 w q h hN
    obtain ⟨i1, xs, p1, c1, h⟩ := grs_st h
    have lx := grp_len _ _ _ _ _ p1
    rcases h with ⟨e1, e2, _⟩ | ⟨c44, _, q', p2, e2⟩
    · subst e2
      refine ⟨by show 1 ≤ m + 1; omega, by show xs.length = wide * 1; omega, fun _ => Nat.le_refl 1, fun r hr => ⟨i, i1, xs, p1, fun j hj => ?_⟩⟩
      have hr' : r < 1 := hr
      have : r = 0 := by omega
      subst this
      exact hN j (by show j < xs.length; omega)
    · subst e2
      obtain ⟨n1, n2⟩ := hN.app
      rw [lx] at n2
      obtain ⟨a1, a2, a3, a4⟩ := ih _ _ _ _ p2 n2
      refine ⟨by show q'.1 + 1 ≤ m + 1; omega, ?_, fun _ => by show 1 ≤ q'.1 + 1; omega, fun r hr => ?_⟩
      · show (xs ++ q'.2).length = wide * (q'.1 + 1)
        rw [List.length_append, lx, a2, Nat.mul_succ]; omega
      · cases r with
        | zero => exact ⟨i, i1, xs, p1, fun j hj => n1 j (by omega)⟩
        | succ r =>
          obtain ⟨i0, i3, ys, p3, hj⟩ := a4 r (Nat.lt_of_succ_lt_succ hr)
          refine ⟨i0, i3, ys, p3, fun j h => ?_⟩
          rw [Nat.mul_succ, show w + (wide * r + wide) + j = w + wide + wide * r + j by omega]
          exact hj j h
theorem Ntd.tl {nb : Nat} {x : Int32} {N : List Int32} (h : Ntd nt nb (x :: N)) : nt nb = x ∧ Ntd nt (nb + 1) N := ⟨h 0 (Nat.succ_pos _), fun k hk => by
  have := h (k + 1) (Nat.succ_lt_succ hk)
  rw [show nb + 1 + k = nb + (k + 1) by omega]
  exact this⟩
theorem bsv_b {c : Int32} {s du us : Nat → Int32} {m : Nat} (hm : m ≤ 40) (hc : 0 ≤ c.toInt ∧ c.toInt ≤ 9999) (hu : ∀ r, r < m → Bn 9999 (us r)) : Tv (bsv c s du us m) := by
  obtain ⟨b1, b2⟩ := bmx_b (s := s) (du := du) hm hu m
  have sb := (j_sub (B := 400000) (x := bmx s du us m m) (y := c) ⟨by omega, by omega⟩ ⟨by omega, by omega⟩ (by decide)).2
  unfold bsv
  rw [imax_0]
  by_cases q : 0 < bmx s du us m m - c
  · rw [if_pos q]
    have := i_lt.mp q
    rw [t_0] at this
    exact ⟨by omega, by omega⟩
  · rw [if_neg q]; exact ⟨by rw [t_0]; omega, by rw [t_0]; omega⟩
theorem grp_bi {i i1 : Nat} {xs : List Int32} (hg : EG T M nf nv fa se) (h : grp T M shB 3 0 i = .inr (i1, xs)) : ∃ v, v < nv ∧ xs.getD 0 0 = nI v ∧ xs.getD 1 0 = nI (T (i + 3)).2.2.1 ∧ xs.getD 2 0 = nI (T (i + 5)).2.2.1 ∧ Bn 9999 (nI (T (i + 3)).2.2.1) ∧ Bn 9999 (nI (T (i + 5)).2.2.1) := by
  obtain ⟨_, k1, x1, ys1, p1, h, e1⟩ := grp_st h
  obtain ⟨_, k2, x2, ys2, p2, h, e2⟩ := grp_st h
  obtain ⟨_, k3, x3, ys3, p3, h, e3⟩ := grp_st h
  obtain ⟨e4, e5⟩ := grp_nil h
  obtain ⟨v, q1, f1⟩ := ent_0 (show ent T M 0 (i + 1) = .inr (k1, x1) from p1)
  have g1 := (vrb_ok q1).2.1
  have lv := (hg.2.1 _ _ (vrb_ok q1).2.2).2 rfl
  subst g1
  obtain ⟨q2, g2, f2⟩ := ent_num (s := 2) (Or.inl rfl) (show ent T M 2 (i + 1 + 1 + 1) = .inr (k2, x2) from p2)
  subst g2
  obtain ⟨q3, g3, f3⟩ := ent_num (s := 2) (Or.inl rfl) (show ent T M 2 (i + 1 + 1 + 1 + 1 + 1) = .inr (k3, x3) from p3)
  rw [e1, e2, e3, e5]
  exact ⟨v, lv, f1, f2, f3, nI_bn ((hg.1 _).2 q2), nI_bn ((hg.1 _).2 q3)⟩
/-- busy, as it stands in the notes -/
theorem lst_busy {i nb j1 : Nat} {N : List Int32} (hg : EG T M nf nv fa se) (e : lst T M 311 i = .inr (j1, N)) (hN : Ntd nt nb N) : (T i).1 = 2 ∧ nt nb = nI (T i).2.2.1 ∧ (T (i + 1)).1 = 58 ∧ ∃ q, grs T M shB 3 40 (i + 2) = .inr (j1, q) ∧ N.length = 2 + 3 * q.1 ∧ nt (nb + 1) = nI q.1 ∧ Ntd nt (nb + 2) q.2 ∧ q.1 ≤ 40 ∧ ∀ r, r < q.1 → (∃ v, v < nv ∧ nt (nb + 2 + 3 * r) = nI v) ∧ Bn 9999 (nt (nb + 2 + 3 * r + 1)) ∧ Bn 9999 (nt (nb + 2 + 3 * r + 2)) := by
  unfold lst at e
  rw [if_neg (by decide), if_pos rfl] at e
  obtain ⟨k1, x, p1, e⟩ := nrB_inr e
  obtain ⟨c2, ek, ex⟩ := nmr_f p1
  subst ek; subst ex
  by_cases c58 : (T (i + 1)).1 = 58
  · rw [if_pos c58] at e
    obtain ⟨k2, q, p2, e⟩ := nrB_inr e
    have e1 : k2 = j1 := congrArg Prod.fst (Sum.inr.inj e)
    have eN : nI (T i).2.2.1 :: nI q.1 :: q.2 = N := congrArg Prod.snd (Sum.inr.inj e)
    subst e1; subst eN
    obtain ⟨t0, h1⟩ := hN.tl
    obtain ⟨t1, h2⟩ := h1.tl
    obtain ⟨a1, a2, _, a4⟩ := grs_g _ _ _ _ _ p2 h2
    refine ⟨c2, t0, c58, q, p2, by rw [List.length_cons, List.length_cons, a2]; omega, t1, h2, a1, fun r hr => ?_⟩
    obtain ⟨i0, i3, xs, p3, hj⟩ := a4 r hr
    obtain ⟨v, lv, b1, b2, b3, b4, b5⟩ := grp_bi hg p3
    exact ⟨⟨v, lv, (hj 0 (by decide)).trans b1⟩, by rw [hj 1 (by decide), b2]; exact b4, by rw [hj 2 (by decide), b3]; exact b5⟩
  · rw [if_neg c58] at e; exact nomatch e
theorem sp_busy {i nb j1 : Nat} {N : List Int32} (h0 : 1 < d) (hT : TL T L) (hg : EG T M nf nv fa se) (e : lst T M 311 i = .inr (j1, N)) (c41 : (T j1).1 = 41) (hi : i ≤ j1) (hj : j1 < L) (hN : Ntd nt nb N) : Tv (spx nt (cut nv se) 27 nb) ∧ ∀ (V : VH) (K : Int64 → VH → Prop), EM V p T M 0 L fa se → EA V p i → (∀ V', Fc V V' evS → EA V' p j1 → K (Int32.toInt64 (spx nt (cut nv se) 27 nb)) V') → vMJ E d M_X12_busyValue [sl 6 0] V K := by
  obtain ⟨c2, t0, c58, q, p2, _, t1, h2, q40, hr⟩ := lst_busy hg e hN
  have b9 := (hg.1 i).2 c2
  have bI9 : (nI (T i).2.2.1).toInt = ((T i).2.2.1 : Int) := Int32.toInt_ofNat_of_lt (by omega)
  have hc : 0 ≤ (nI (T i).2.2.1).toInt ∧ (nI (T i).2.2.1).toInt ≤ 9999 := by rw [bI9]; omega
  rw [spx_27, t0, ntn_eq t1 (by omega)]
  refine ⟨bsv_b q40 hc (fun r hr1 => (hr r hr1).2.2), fun V K hm ha hk => ?_⟩
  have iL : i < L := by omega
  have iL1 : i + 1 < L := hT.lt (by omega) (by rw [c58]; decide) (by rw [c58]; decide)
  obtain ⟨r1, r2⟩ := ev_tok hm ha iL c2
  refine w_X12_busyValue_0 ⟨r1, fun V2 e2 => ?_⟩
  obtain ⟨a2, f2⟩ := ha.st 1 e2 rfl
  rw [r2]
  refine ev_busyG (w := nb + 2) (by omega) hT hg 39 (i + 1) j1 0 q V2 p2 c41 (by rw [c58]; decide) iL1 hj (by decide) h2 (hm.fc f2) a2 (fun r hr => absurd hr (Nat.not_lt_zero r)) (fun V' f' a' _ b' => ?_)
  rw [Nat.zero_add] at b' ⊢
  obtain ⟨k1, k2, _⟩ := ((hm.fc f2).fc f').kd a' (Nat.zero_le _) hj
  refine w_X12_busyValue_23 (by omega) ⟨k1, fun _ => ?_, fun z => absurd (by rw [k2, c41]; rfl) z⟩
  exact ev_busyV q40 hc b' (hk V' (f2.trans f') a')
end
