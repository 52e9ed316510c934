/-! special tests of the reference: groups; busy -/
section
variable {E : EE} {d : Nat} {p : Nat} {T : Nat → TK} {M : MN} {L nf nv : Nat} {fa se nt : Nat → Int32}
theorem nmr_f {lo hi i i1 : Nat} {x : Int32} (h : nmr T false lo hi i = .inr (i1, x)) : (T i).1 = 2 ∧ i1 = i + 1 ∧ x = nI (T i).2.2.1 := by
  unfold nmr at h
  have ej : nmj T false i = i := by unfold nmj; rw [if_neg (fun z => absurd z.1 (by decide))]
  rw [ej] at h
  by_cases c2 : (T i).1 = 2
  · rw [if_pos c2] at h
    by_cases c3 : (T i).2.2.1 < lo ∨ hi < (T i).2.2.1
    · rw [if_pos c3] at h; exact nomatch h
    · rw [if_neg c3, if_pos rfl] at h
      have h' := Sum.inr.inj h
      exact ⟨c2, (congrArg Prod.fst h').symm, (congrArg Prod.snd h').symm⟩
  · rw [if_neg c2] at h; exact nomatch h
theorem ent_0 {i i1 : Nat} {x : Int32} (h : ent T M 0 i = .inr (i1, x)) : ∃ v, vrb T M i = .inr (i1, v) ∧ x = nI v := by
  unfold ent at h
  rw [if_pos rfl] at h
  obtain ⟨k1, v, p1, h⟩ := nrB_inr h
  have h' := Sum.inr.inj h
  have e1 : k1 = i1 := congrArg Prod.fst h'
  subst e1
  exact ⟨v, p1, (congrArg Prod.snd h').symm⟩
theorem ent_num {s i i1 : Nat} {x : Int32} (hs : s = 2 ∨ s = 3) (h : ent T M s i = .inr (i1, x)) : (T i).1 = 2 ∧ i1 = i + 1 ∧ x = nI (T i).2.2.1 := by
  unfold ent at h
  rw [if_neg (by omega), decide_eq_false (by omega)] at h
  exact nmr_f h
theorem grp_st {sh : Nat → Nat} {m j i i1 : Nat} {xs : List Int32} (h : grp T M sh (m + 1) j i = .inr (i1, xs)) : (T i).1 = (if j = 0 then 40 else 44) ∧ ∃ k x ys, ent T M (sh j) (i + 1) = .inr (k, x) ∧ grp T M sh m (j + 1) k = .inr (i1, ys) ∧ xs = x :: ys := by
  rw [grp] at h
  by_cases c : (T i).1 = (if j = 0 then 40 else 44)
  · rw [if_pos c] at h
    obtain ⟨k, x, p1, h⟩ := nrB_inr h
    obtain ⟨k2, ys, p2, h⟩ := nrB_inr h
    have h' := Sum.inr.inj h
    have e1 : k2 = i1 := congrArg Prod.fst h'
    subst e1
    exact ⟨c, k, x, ys, p1, p2, (congrArg Prod.snd h').symm⟩
  · rw [if_neg c] at h; exact nomatch h
theorem grp_nil {sh : Nat → Nat} {j i i1 : Nat} {xs : List Int32} (h : grp T M sh 0 j i = .inr (i1, xs)) : i1 = i ∧ xs = [] := by
  have h' := Sum.inr.inj (show (Sum.inr (i, []) : NR (List Int32)) = Sum.inr (i1, xs) from h)
  exact ⟨(congrArg Prod.fst h').symm, (congrArg Prod.snd h').symm⟩
theorem grs_st {sh : Nat → Nat} {wide m i i2 : Nat} {q : Nat × List Int32} (h : grs T M sh wide (m + 1) i = .inr (i2, q)) : ∃ i1 xs, grp T M sh wide 0 i = .inr (i1, xs) ∧ (T i1).1 = 41 ∧ ((i2 = i1 + 1 ∧ q = (1, xs) ∧ (m = 0 ∨ (T (i1 + 1)).1 ≠ 44)) ∨ ((T (i1 + 1)).1 = 44 ∧ m ≠ 0 ∧ ∃ q', grs T M sh wide m (i1 + 2) = .inr (i2, q') ∧ q = (q'.1 + 1, xs ++ q'.2))) := by
  rw [grs] at h
  obtain ⟨i1, xs, p1, h⟩ := nrB_inr h
  refine ⟨i1, xs, p1, ?_⟩
  by_cases c : (T i1).1 = 41
  · rw [if_pos c] at h
    refine ⟨c, ?_⟩
    by_cases c2 : m = 0 ∨ (T (i1 + 1)).1 ≠ 44
    · rw [if_pos c2] at h
      have h' := Sum.inr.inj h
      exact Or.inl ⟨(congrArg Prod.fst h').symm, (congrArg Prod.snd h').symm, c2⟩
    · rw [if_neg c2] at h
      obtain ⟨k2, q', p2, h⟩ := nrB_inr h
      have h' := Sum.inr.inj h
      have e1 : k2 = i2 := congrArg Prod.fst h'
      subst e1
      refine Or.inr ⟨?_, fun z => c2 (Or.inl z), q', p2, (congrArg Prod.snd h').symm⟩
      by_cases z : (T (i1 + 1)).1 = 44
      · exact z
      · exact absurd (Or.inr z) c2
  · rw [if_neg c] at h; exact nomatch h
/-- a number, taken from its token -/
theorem ev_tok {V : VH} {i : Nat} (hm : EM V p T M 0 L fa se) (ha : EA V p i) (iL : i < L) (c : (T i).1 = 2) : vp_in (vI V 6 0 54) 100000 ∧ vI V 6 6 (Int32.toNatClampNeg (vI V 6 0 54)) = nI (T i).2.2.1 := by
  obtain ⟨k1, _, k3⟩ := hm.kd ha (Nat.zero_le _) iL
  refine ⟨k1, ?_⟩
  rw [k3]
  unfold nuv
  rw [if_neg (by omega), if_pos c]
end
