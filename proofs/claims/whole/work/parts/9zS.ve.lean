/-! special tests of the reference: automata -/
section
variable {E : EE} {d : Nat} {p : Nat} {T : Nat → TK} {M : MN} {L nf nv : Nat} {fa se nt : Nat → Int32}
theorem spx_26 {w : Nat} : spx nt se 26 w = auv (fun j => ntv nt se (w + 1 + j)) (fun r j => nt (w + 2 + ntn nt w + r * 3 + j)) (fun i => nt (w + 3 + ntn nt w + 3 * ntn nt (w + 1 + ntn nt w) + i)) (ntn nt w) (ntn nt (w + 1 + ntn nt w)) (ntn nt (w + 2 + ntn nt w + 3 * ntn nt (w + 1 + ntn nt w))) := by unfold spx; rw [if_neg (by decide), if_neg (by decide), if_neg (by decide), if_neg (by decide), if_pos rfl]
theorem afs_b (S : Nat → Int32) (s : Int32) : ∀ (k i : Nat), Tv (afs S s k i) := by
  intro k
  induction k with
  | zero => intro i; rw [afs]; exact ⟨by rw [t_1]; omega, by rw [t_1]; omega⟩
  | succ k ih =>
    intro i
    rw [afs]
    by_cases c : S i = s
    · rw [if_pos c]; exact ⟨by rw [t_0]; omega, by rw [t_0]; omega⟩
    · rw [if_neg c]; exact ih (i + 1)
theorem lst_auto {i nb j1 : Nat} {N : List Int32} (hg : EG T M nf nv fa se) (e : lst T M 310 i = .inr (j1, N)) (hN : Ntd nt nb N) : ∃ vs k1 q k2 ss, nms T M 1 12 0 i = .inr (k1, vs) ∧ (T k1).1 = 58 ∧ grs T M shS 3 40 (k1 + 1) = .inr (k2, q) ∧ (T k2).1 = 58 ∧ nls T false 9 10 (k2 + 1) = .inr (j1, ss) ∧ N.length = vs.length + 3 + 3 * q.1 + ss.length ∧ Ntd nt nb (nvs vs) ∧ nt (nb + 1 + vs.length) = nI q.1 ∧ Ntd nt (nb + 2 + vs.length) q.2 ∧ nt (nb + 2 + vs.length + 3 * q.1) = nI ss.length ∧ (∀ k, k < ss.length → nt (nb + 3 + vs.length + 3 * q.1 + k) = ss.getD k 0) ∧ q.1 ≤ 40 ∧ ss.length ≤ 10 ∧ vs.length ≤ 12 ∧ 1 ≤ vs.length ∧ (∀ j, j < vs.length → vs.getD j 0 < nv) ∧ ∀ r, r < q.1 → 0 ≤ nt (nb + 2 + vs.length + r * 3 + 2) := by
  unfold lst at e
  rw [if_neg (by decide), if_neg (by decide)] at e
  obtain ⟨k1, vs, p1, e⟩ := nrB_inr e
  rw [if_neg (by decide)] at e
  by_cases c58 : (T k1).1 = 58
  · rw [if_pos c58, if_neg (by decide), if_neg (by decide)] at e
    obtain ⟨k2, q, p2, e⟩ := nrB_inr e
    by_cases c2 : (T k2).1 = 58
    · rw [if_pos c2] at e
      obtain ⟨k3, ss, p3, e⟩ := nrB_inr e
      have e1 : k3 = j1 := congrArg Prod.fst (Sum.inr.inj e)
      have eN : nvs vs ++ (nI q.1 :: q.2) ++ (nI ss.length :: ss) = N := congrArg Prod.snd (Sum.inr.inj e)
      subst e1; subst eN
      obtain ⟨n0, n3⟩ := hN.app
      obtain ⟨n1, n2⟩ := n0.app
      rw [nvs_len] at n2
      obtain ⟨t1, h1⟩ := n2.tl
      obtain ⟨a1, a2, _, a4⟩ := grs_g _ _ _ _ _ p2 h1
      rw [List.length_append, nvs_len, List.length_cons, a2] at n3
      obtain ⟨t2, h2⟩ := n3.tl
      obtain ⟨l1, l2, l3⟩ := nms_b (nv := nv) hg.2.1 _ _ _ _ _ p1
      obtain ⟨s1, _⟩ := nls_b (fun j => (hg.1 j).2) _ _ _ _ p3
      refine ⟨vs, k1, q, k2, ss, p1, c58, p2, c2, p3, by rw [List.length_append, List.length_append, nvs_len, List.length_cons, List.length_cons, a2]; omega, n1, by rw [show nb + 1 + vs.length = nb + (vs.length + 1) by omega]; exact t1, by rw [show nb + 2 + vs.length = nb + (vs.length + 1) + 1 by omega]; exact h1, by rw [show nb + 2 + vs.length + 3 * q.1 = nb + (vs.length + 1 + (3 * q.1 + 1)) by omega]; exact t2, fun k hk => by rw [show nb + 3 + vs.length + 3 * q.1 + k = nb + (vs.length + 1 + (3 * q.1 + 1)) + 1 + k by omega]; exact h2 k hk, a1, s1, l1, by have := l2 (by omega); omega, l3, fun r hr => ?_⟩
      obtain ⟨i0, i3, xs, p4, hj⟩ := a4 r hr
      obtain ⟨k, x, _, _, q3, _, ex⟩ := grp_s3 p4
      subst ex
      have := hj 2 (by decide)
      rw [show nb + (vs.length + 1) + 1 + 3 * r + 2 = nb + 2 + vs.length + r * 3 + 2 by omega] at this
      rw [this]
      exact nI_le (a := 0) (Nat.zero_le _) (by have := (hg.1 _).2 q3; omega)
    · rw [if_neg c2] at e; exact nomatch e
  · rw [if_neg c58] at e; exact nomatch e
theorem sp_auto {i nb j1 : Nat} {N : List Int32} (h0 : 2 < d) (hT : TL T L) (hg : EG T M nf nv fa se) (e : lst T M 310 i = .inr (j1, N)) (c41 : (T j1).1 = 41) (hi : i ≤ j1) (hj : j1 < L) (hN : Ntd nt nb N) : Tv (spx nt (cut nv se) 26 nb) ∧ ∀ (V : VH) (K : Int64 → VH → Prop), EM V p T M 0 L fa se → EA V p i → (∀ V', Fc V V' evS → EA V' p j1 → K (Int32.toInt64 (spx nt (cut nv se) 26 nb)) V') → vMJ E d M_X12_autoValue [sl 6 0] V K := by
  obtain ⟨vs, k1, q, k2, ss, p1, c58, p2, c2, p3, _, n1, t1, h1, t2, hS, q40, s10, l1, l2, l3, hG⟩ := lst_auto hg e hN
  obtain ⟨u0, u1, u2⟩ := nvs_ok (se := se) n1 l1 l3 hg.2.2.2.1
  rw [spx_26, u1, ntn_eq t1 (by omega), ntn_eq t2 (by omega)]
  have tv : Tv (auv (fun j => ntv nt (cut nv se) (nb + 1 + j)) (fun r j => nt (nb + 2 + vs.length + r * 3 + j)) (fun i => nt (nb + 3 + vs.length + 3 * q.1 + i)) vs.length q.1 ss.length) := by
    unfold auv
    split
    · exact afs_b _ _ _ _
    · exact ⟨by rw [t_1]; omega, by rw [t_1]; omega⟩
  refine ⟨tv, fun V K hm ha hk => ?_⟩
  have f1 := nms_fit (T := T) (M := M) (L := L) hT (least := 1) 12 0 i (by omega)
  rw [p1] at f1
  have k1L : k1 < L := hT.lt f1.2.1 (by rw [c58]; decide) (by rw [c58]; decide)
  have f2 := grs_fit (T := T) (M := M) (L := L) hT (sh := shS) (wide := 3) 40 (k1 + 1) (by omega)
  rw [p2] at f2
  have k2L : k2 < L := hT.lt f2.2.1 (by rw [c2]; decide) (by rw [c2]; decide)
  refine w_X12_autoValue_0 (by omega) (ev_row (y := fun j => ntv nt (cut nv se) (nb + 1 + j)) (m := 11) (by omega) hT hg p1 (by decide) (by rw [c58]; decide) k1L (by omega) (fun j hj => (u2 j hj).2) hm ha (fun V1 f1 a1 r1 _ => ?_))
  rw [show vI V1 6 0 54 = nI (20000 * p + k1) from a1]
  refine ev_autoN (by omega) hT hg l1 l2 k1L k2L p2 c2 h1 hG (hm.fc f1) r1 (fun V2 s g2 a2 es => ?_) vs.length 0 0 V1 (by omega) Fc.refl (fun z => absurd z (by omega)) (Or.inl ⟨by decide, rfl⟩)
  refine ev_autoS (S := fun i => nt (nb + 3 + vs.length + 3 * q.1 + i)) hT hg 9 k2 j1 0 false ss V2 p3 c41 (by rw [c2]; decide) k2L hj (fun k hk => by show nt (nb + 3 + vs.length + 3 * q.1 + (0 + k)) = _; rw [Nat.zero_add k]; exact hS k hk) ((hm.fc f1).fc (s54_e g2)) a2 (fun V3 g3 a3 => ?_)
  have kk := hk V3 (f1.trans ((s54_e g2).trans (s54_e g3))) a3
  unfold auv at kk
  by_cases c : 0 ≤ arn (fun j => ntv nt (cut nv se) (nb + 1 + j)) (fun r j => nt (nb + 2 + vs.length + r * 3 + j)) q.1 vs.length 0 0
  · rw [if_pos c] at kk es
    by_cases c3 : 0 ≤ s
    · rw [if_pos c3] at es
      rw [if_pos c3, if_neg (by decide), es]; exact kk
    · rw [if_neg c3] at es
      rw [← es] at c; exact absurd c (by decide)
  · rw [if_neg c] at kk es
    by_cases c3 : 0 ≤ s
    · rw [if_pos c3] at es
      rw [es] at c3; exact absurd c3 (by decide)
    · rw [if_neg c3]; exact kk
end
