/-! special tests of the reference: rows -/
section
variable {E : EE} {d : Nat} {p : Nat} {T : Nat → TK} {M : MN} {L nf nv : Nat} {fa se nt : Nat → Int32}
theorem ev_rows {K : Int64 → VH → Prop} {y : Nat → Int32} {n : Nat} (h0 : 1 < d) (hT : TL T L) (hg : EG T M nf nv fa se) (hn : n ≤ 12) (n1 : 1 ≤ n) : ∀ (m k i2 w a : Nat) (q : Nat × List Int32) (V : VH), grs T M shR n (m + 1) (k + 1) = .inr (i2, q) → (T i2).1 = 41 → ¬ (T k).1 = 41 → k < L → i2 < L → a ≤ 12 → Ntd nt w q.2 → EM V p T M 0 L fa se → EA V p k → RW V n y → (∀ V', Fc V V' s54 → EA V' p i2 → vwp E d M_X12_rowValue 10 [some (sl 6 0), some (wj (Int32.toInt64 (nI (rmw nt y n q.1 w a)))), none, none, none, none] [] V' (zj K)) → vwp E d M_X12_rowValue 10 [some (sl 6 0), some (wj (Int32.toInt64 (nI a))), none, none, none, none] [] V (zj K) := by
  intro m
  induction m with
  | zero =>
    intro k i2 w a q V e c41 ck kL iL a12 hN hm ha hr hk
    obtain ⟨i1, xs, p1, c1, h⟩ := grs_st e
    obtain ⟨k1, k2, _⟩ := hm.kd ha (Nat.zero_le _) kL
    refine w_X12_rowValue_10 ⟨k1, fun z => absurd ((kq 41 (hg.1 k).1 (by decide)).mp (k2.symm.trans z)) ck, fun _ V2 e2 => ?_⟩
    obtain ⟨a2, _⟩ := ha.st 2 e2 rfl
    rcases h with ⟨e1, e2', _⟩ | ⟨_, z, _⟩
    · subst e1; subst e2'
      exact ev_rowG (y := y) (w := w) (a := a) (by omega) hT hg hn a12 n 0 (k + 1) i1 xs V2 p1 (by omega) n1 (by omega) (by omega) hN (hm.fc (s54_e (s54_w e2))) a2 (fun _ => by omega) (hr.fc (s54_w e2)) (fun V' f' a' => hk V' ((s54_w e2).trans f') a')
    · exact absurd rfl z
  | succ m ih =>
    intro k i2 w a q V e c41 ck kL iL a12 hN hm ha hr hk
    obtain ⟨i1, xs, p1, c1, h⟩ := grs_st e
    obtain ⟨k1, k2, _⟩ := hm.kd ha (Nat.zero_le _) kL
    refine w_X12_rowValue_10 ⟨k1, fun z => absurd ((kq 41 (hg.1 k).1 (by decide)).mp (k2.symm.trans z)) ck, fun _ V2 e2 => ?_⟩
    obtain ⟨a2, _⟩ := ha.st 2 e2 rfl
    rcases h with ⟨e1, e2', _⟩ | ⟨c44, _, q', p2, e2'⟩
    · subst e1; subst e2'
      exact ev_rowG (y := y) (w := w) (a := a) (by omega) hT hg hn a12 n 0 (k + 1) i1 xs V2 p1 (by omega) n1 (by omega) (by omega) hN (hm.fc (s54_e (s54_w e2))) a2 (fun _ => by omega) (hr.fc (s54_w e2)) (fun V' f' a' => hk V' ((s54_w e2).trans f') a')
    · subst e2'
      obtain ⟨m1, m2⟩ := hN.app
      have lx := grp_len _ _ _ _ _ p1
      rw [lx] at m2
      have i1L : i1 < L := by
        have := grp_fit (T := T) (M := M) (L := L) hT (sh := shR) n 0 (k + 1) (by omega)
        rw [p1] at this
        exact hT.lt this.2.1 (by rw [c1]; decide) (by rw [c1]; decide)
      have i1L2 : i1 + 1 < L := hT.lt (by omega) (by rw [c44]; decide) (by rw [c44]; decide)
      have g2 := s54_w e2
      refine ev_rowG (y := y) (w := w) (a := a) (by omega) hT hg hn a12 n 0 (k + 1) i1 xs V2 p1 (by omega) n1 (by omega) i1L m1 (hm.fc (s54_e g2)) a2 (fun _ => by omega) (hr.fc g2) (fun V' f' a' => ?_)
      have g3 := g2.trans f'
      exact ih (i1 + 1) i2 (w + n) (min a (mis y (fun j => nt (w + j)) n)) q' V' p2 c41 (by rw [c44]; decide) i1L2 iL (by omega) m2 (hm.fc (s54_e g3)) a' (hr.fc g3) (fun V3 f3 a3 => hk V3 (g3.trans f3) a3)
theorem spx_23 {w : Nat} : spx nt se 23 w = nI (rmn (fun j => ntv nt se (w + 1 + j)) (fun r j => nt (w + 2 + ntn nt w + r * ntn nt w + j)) (ntn nt w) (ntn nt (w + 1 + ntn nt w))) := by unfold spx; rw [if_neg (by decide), if_pos rfl]
/-- rows, as they stand in the notes -/
theorem lst_rows {i nb j1 : Nat} {N : List Int32} (hg : EG T M nf nv fa se) (e : lst T M 307 i = .inr (j1, N)) (hN : Ntd nt nb N) : ∃ vs k1 q, nms T M 1 12 0 i = .inr (k1, vs) ∧ (T k1).1 = 58 ∧ grs T M shR vs.length 40 (k1 + 1) = .inr (j1, q) ∧ N.length = vs.length + 2 + vs.length * q.1 ∧ Ntd nt nb (nvs vs) ∧ nt (nb + 1 + vs.length) = nI q.1 ∧ Ntd nt (nb + 2 + vs.length) q.2 ∧ q.1 ≤ 40 ∧ vs.length ≤ 12 ∧ 1 ≤ vs.length ∧ ∀ j, j < vs.length → vs.getD j 0 < nv := by
  unfold lst at e
  rw [if_neg (by decide), if_neg (by decide)] at e
  obtain ⟨k1, vs, p1, e⟩ := nrB_inr e
  rw [if_neg (by decide)] at e
  by_cases c58 : (T k1).1 = 58
  · rw [if_pos c58, if_neg (by decide), if_pos rfl] at e
    obtain ⟨k2, q, p2, e⟩ := nrB_inr e
    have e1 : k2 = j1 := congrArg Prod.fst (Sum.inr.inj e)
    have eN : nvs vs ++ nI q.1 :: q.2 = N := congrArg Prod.snd (Sum.inr.inj e)
    subst e1; subst eN
    obtain ⟨n1, n2⟩ := hN.app
    rw [nvs_len] at n2
    obtain ⟨t1, h1⟩ := n2.tl
    obtain ⟨l1, l2, l3⟩ := nms_b (nv := nv) hg.2.1 _ _ _ _ _ p1
    obtain ⟨a1, a2, _, _⟩ := grs_g _ _ _ _ _ p2 h1
    refine ⟨vs, k1, q, p1, c58, p2, by rw [List.length_append, nvs_len, List.length_cons, a2]; omega, n1, by rw [show nb + 1 + vs.length = nb + (vs.length + 1) by omega]; exact t1, by rw [show nb + 2 + vs.length = nb + (vs.length + 1) + 1 by omega]; exact h1, a1, l1, by have := l2 (by omega); omega, l3⟩
  · rw [if_neg c58] at e; exact nomatch e
theorem sp_rows {i nb j1 : Nat} {N : List Int32} (h0 : 2 < d) (hT : TL T L) (hg : EG T M nf nv fa se) (e : lst T M 307 i = .inr (j1, N)) (c41 : (T j1).1 = 41) (hi : i ≤ j1) (hj : j1 < L) (hN : Ntd nt nb N) : Tv (spx nt (cut nv se) 23 nb) ∧ ∀ (V : VH) (K : Int64 → VH → Prop), EM V p T M 0 L fa se → EA V p i → (∀ V', Fc V V' evS → EA V' p j1 → K (Int32.toInt64 (spx nt (cut nv se) 23 nb)) V') → vMJ E d M_X12_rowValue [sl 6 0] V K := by
  obtain ⟨vs, k1, q, p1, c58, p2, _, n1, t1, h1, q40, l1, l2, l3⟩ := lst_rows hg e hN
  obtain ⟨u0, u1, u2⟩ := nvs_ok (se := se) n1 l1 l3 hg.2.2.2.1
  have es : spx nt (cut nv se) 23 nb = nI (rmw nt (fun j => ntv nt (cut nv se) (nb + 1 + j)) vs.length q.1 (nb + 2 + vs.length) vs.length) := by rw [spx_23, u1, ntn_eq t1 (by omega), rmw_rmn]
  have rl := rmn_le (fun j => ntv nt (cut nv se) (nb + 1 + j)) (fun r j => nt (nb + 2 + vs.length + r * vs.length + j)) vs.length q.1
  rw [← rmw_rmn] at rl
  rw [es]
  refine ⟨nI_tv (by omega), fun V K hm ha hk => ?_⟩
  have f1 := nms_fit (T := T) (M := M) (L := L) hT (least := 1) 12 0 i (by omega)
  rw [p1] at f1
  have k1L : k1 < L := hT.lt f1.2.1 (by rw [c58]; decide) (by rw [c58]; decide)
  refine w_X12_rowValue_0 (by omega) (ev_row (y := fun j => ntv nt (cut nv se) (nb + 1 + j)) (m := 11) (by omega) hT hg p1 (by decide) (by rw [c58]; decide) k1L (by omega) (fun j hj => (u2 j hj).2) hm ha (fun V1 f1 a1 r1 _ => ?_))
  rw [r1.1]
  refine ev_rows (by omega) hT hg l1 l2 39 k1 j1 (nb + 2 + vs.length) vs.length q V1 p2 c41 (by rw [c58]; decide) k1L hj (by omega) h1 (hm.fc f1) a1 r1 (fun V2 f2 a2 => ?_)
  obtain ⟨m1, m2, _⟩ := ((hm.fc f1).fc (s54_e f2)).kd a2 (Nat.zero_le _) hj
  exact w_X12_rowValue_10 ⟨m1, fun _ => hk V2 (f1.trans (s54_e f2)) a2, fun z => absurd (by rw [m2, c41]; rfl) z⟩
end
