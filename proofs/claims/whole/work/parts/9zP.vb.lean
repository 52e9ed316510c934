/-! special tests of the reference: automata, all groups -/
section
variable {E : EE} {d : Nat} {p : Nat} {T : Nat → TK} {M : MN} {L nf nv : Nat} {fa se nt : Nat → Int32}
theorem ev_autoG {K : Int64 → VH → Prop} {y : Nat → Int32} {n j k1 : Nat} {s : Int32} (h0 : 0 < d) (hT : TL T L) (hg : EG T M nf nv fa se) (hn : n ≤ 12) (hj : j < n) (k1L : k1 < L) : ∀ (m c i2 w : Nat) (t : Int32) (q : Nat × List Int32) (V : VH), grs T M shS 3 (m + 1) (c + 1) = .inr (i2, q) → (¬ (T c).1 = 58 ∨ c = k1) → c < L → i2 < L → k1 ≤ c → Ntd nt w q.2 → EM V p T M 0 L fa se → EA V p c → RW V n y → (∀ V', Fc V V' s54 → EA V' p i2 → k1 < i2 → vwp E d M_X12_autoValue 29 [some (sl 6 0), some (wi (nI (20000 * p + k1))), some (wi s), some (wi (nI j)), some (wi (afw nt s (y j) q.1 w t)), none, none, none, none] [] V' (zj K)) → vwp E d M_X12_autoValue 29 [some (sl 6 0), some (wi (nI (20000 * p + k1))), some (wi s), some (wi (nI j)), some (wi t), none, none, none, none] [] V (zj K) := by
  intro m
  induction m with
  | zero =>
    intro c i2 w t q V e cc cL iL kc hN hm ha hr hk
    obtain ⟨i1, xs, p1, c1, h⟩ := grs_st e
    have gf := grp_fit (T := T) (M := M) (L := L) hT (sh := shS) 3 0 (c + 1) (by omega)
    rw [p1] at gf
    have gf1 : c + 1 + 0 ≤ i1 := gf.1
    rcases h with ⟨e1, e2, _⟩ | ⟨_, z, _⟩
    · subst e1; subst e2
      exact ev_auto1 h0 hT hg hn hj hm ha cL k1L cc p1 (by omega) hN hr (fun V' f' a' => hk V' f' a' (by omega))
    · exact absurd rfl z
  | succ m ih =>
    intro c i2 w t q V e cc cL iL kc hN hm ha hr hk
    obtain ⟨i1, xs, p1, c1, h⟩ := grs_st e
    have gf := grp_fit (T := T) (M := M) (L := L) hT (sh := shS) 3 0 (c + 1) (by omega)
    rw [p1] at gf
    have gf1 : c + 1 + 0 ≤ i1 := gf.1
    rcases h with ⟨e1, e2, _⟩ | ⟨c44, _, q', p2, e2⟩
    · subst e1; subst e2
      exact ev_auto1 h0 hT hg hn hj hm ha cL k1L cc p1 (by omega) hN hr (fun V' f' a' => hk V' f' a' (by omega))
    · subst e2
      obtain ⟨m1, m2⟩ := hN.app
      have lx := grp_len _ _ _ _ _ p1
      rw [lx] at m2
      have i1L : i1 < L := hT.lt gf.2.1 (by rw [c1]; decide) (by rw [c1]; decide)
      have i1L2 : i1 + 1 < L := hT.lt (by omega) (by rw [c44]; decide) (by rw [c44]; decide)
      refine ev_auto1 h0 hT hg hn hj hm ha cL k1L cc p1 i1L m1 hr (fun V' f' a' => ?_)
      exact ih (i1 + 1) i2 (w + 3) _ q' V' p2 (Or.inl (by rw [c44]; decide)) i1L2 iL (by omega) m2 (hm.fc (s54_e f')) a' (hr.fc f') (fun V2 f2 a2 l2 => hk V2 (f'.trans f2) a2 l2)
end
