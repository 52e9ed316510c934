/-! the class reads tests and sums, as the spec does -/
/-- what reads tag; what comes behind it -/
def mA (E : EE) (d : Nat) (tag x : Nat) (y : Int32) (V : VH) (K : Int32 → VH → Prop) : Prop := match tag with
  | 0 => vMI E d M_X5_test [sl 0 7] V K
  | 1 => vMI E d M_X5_either [sl 0 7] V K
  | 2 => vMI E d M_X5_both [sl 0 7] V K
  | 3 => vMI E d M_X5_unit [sl 0 7] V K
  | 4 => vMI E d M_X5_sum [sl 0 7] V K
  | 5 => vMI E d M_X5_term [sl 0 7] V K
  | 6 => vMI E d M_X5_factor [sl 0 7] V K
  | 11 => vwp E d M_X5_either 11 [some (sl 0 7), some (wi y)] [] V (zi K)
  | 12 => vwp E d M_X5_both 11 [some (sl 0 7), some (wi y)] [] V (zi K)
  | 14 => vwp E d M_X5_sum 11 [some (sl 0 7), some (wi y), none] [] V (zi K)
  | 15 => vwp E d M_X5_term 11 [some (sl 0 7), some (wi y)] [] V (zi K)
  | 17 => vwp E d M_X5_extreme 27 [some (sl 0 7), some (wi 11), some (wi (nI (20 - x)))] [] V (zi K)
  | 18 => vwp E d M_X5_extreme 27 [some (sl 0 7), some (wi 12), some (wi (nI (20 - x)))] [] V (zi K)
  | _ => False
def sA (E : EE) (d : Nat) (tag : Nat) (V : VH) (K : Int32 → VH → Prop) : Prop := match tag with
  | 17 => ∀ z : Int32, vwp E d M_X5_extreme 77 [some (sl 0 7), some (wi 11), some (wi z)] [] V (zi K)
  | 18 => ∀ z : Int32, vwp E d M_X5_extreme 77 [some (sl 0 7), some (wi 12), some (wi z)] [] V (zi K)
  | _ => K 1 V
/-- how deep it goes -/
def rkD (tag : Nat) : Nat := match tag with
  | 0 => 8
  | 1 => 7
  | 11 => 7
  | 2 => 6
  | 12 => 6
  | 3 => 5
  | 4 => 4
  | 14 => 4
  | 5 => 3
  | 15 => 3
  | 6 => 2
  | _ => 5
def tgO (tag : Nat) : Prop := tag ≤ 6 ∨ tag = 11 ∨ tag = 12 ∨ tag = 14 ∨ tag = 15 ∨ tag = 17 ∨ tag = 18
def PA (E : EE) (g : Nat) (T : Nat → TK) (L : Nat) (tc : Nat → Nat) (nm : Nat → Nat → Int64) (f tag x o : Nat) : Prop := ∀ (d i nb ub : Nat) (sv : Int32) (V : VH) (y : Int32) (K : Int32 → VH → Prop), 10 + 10 * (13 - o) + rkD tag ≤ d → CS V g T L tc nm i o nb ub sv → nb + 2 ≤ i → ub + 4 ≤ 2 * i → 8 * (L - i) + rnk tag < f → (∃ c, c ≤ i ∧ y = nI c) → (∀ e, prz T (lku tc nm) f tag x o i nb = .inl e → ∀ V', Rdf V V' g → Flt V' e → K 0 V') → (∀ i1 C N, prz T (lku tc nm) f tag x o i nb = .inr (i1, C, N) → ∀ V', Rdf V V' g → CS V' g T L tc nm i1 o (nb + N.length) (ub + 2 * C.length) (sv ||| svx T (lku tc nm) i i1) → Apd V V' g ub nb C N → i ≤ i1 → sA E d tag V' K) → mA E d tag x y V K
section
variable {T : Nat → TK} {M : MN} {L : Nat} {f x o i nb : Nat}
theorem prs_0 : prz T M (f + 1) 0 x o i nb = rsB (prz T M f 1 0 o i nb) (fun i1 C1 N1 => if (T i1).1 = 203 then (if 12 ≤ o then rsE 7 (T i1).f else rsB (prz T M f 0 0 (o + 1) (i1 + 1) (nb + N1.length)) (fun i2 C2 N2 => rsO i2 (C1 ++ C2 ++ [(21, 0)]) (N1 ++ N2))) else rsO i1 C1 N1) := by
  rw [prz, prq, if_pos rfl]
theorem prs_q {tag : Nat} (h : tag = 1 ∨ tag = 2 ∨ tag = 4 ∨ tag = 5) : prz T M (f + 1) tag x o i nb = rsB (prz T M f (tag + 1) 0 o i nb) (fun i1 C1 N1 => rsB (prz T M f (tag + 10) 0 o i1 (nb + N1.length)) (fun i2 C2 N2 => rsO i2 (C1 ++ C2) (N1 ++ N2))) := by
  rw [prz, prq, if_neg (by omega), if_neg (by omega), if_neg (by omega), if_pos (by omega)]
theorem prs_l {tag : Nat} (h : 11 ≤ tag) : prz T M (f + 1) tag x o i nb = match lpo tag (T i).1 with
    | none => rsO i [] []
    | some op => if tag ≤ 15 ∨ x ≠ 0 then rsB (prz T M f (lps tag) 0 o (i + 1) nb) (fun i1 C1 N1 => rsB (prz T M f tag (x - 1) o i1 (nb + N1.length)) (fun i2 C2 N2 => rsO i2 (C1 ++ (op, 0) :: C2) (N1 ++ N2))) else rsO i [] [] := by
  rw [prz, prq, if_neg (by omega), if_neg (by omega), if_neg (by omega), if_neg (by omega)]
  cases lpo tag (T i).1 <;> rfl
/-- what is read lies behind -/
theorem prs_ok (h : TL T L) {tag i1 : Nat} {C : CD} {N : List Int32} (hi : i ≤ L) (ht : tag ≤ 6 ∨ 11 ≤ tag) (hf : 8 * (L - i) + rnk tag < f) (e : prz T M f tag x o i nb = .inr (i1, C, N)) : i + (if tag ≤ 6 then 1 else 0) ≤ i1 ∧ i1 ≤ L ∧ C.length ≤ i1 - i ∧ N.length ≤ i1 - i := by
  have z := prs_fit (M := M) h f tag x o i nb hi ht hf
  rw [e] at z
  exact z
theorem rsB_l {e : Nat × Nat} {k : Nat → CD → List Int32 → RS} : rsB (.inl e) k = .inl e := rfl
theorem rsB_r {i1 : Nat} {C : CD} {N : List Int32} {k : Nat → CD → List Int32 → RS} : rsB (.inr (i1, C, N)) k = k i1 C N := rfl
end
section
variable {E : EE} {g : Nat} {T : Nat → TK} {L : Nat} {tc : Nat → Nat} {nm : Nat → Nat → Int64} {f o : Nat}
theorem PA_test (hE : PA E g T L tc nm f 1 0 o) (hT : ¬ 12 ≤ o → PA E g T L tc nm f 0 0 (o + 1)) : PA E g T L tc nm (f + 1) 0 0 o := by
  intro d i nb ub sv V y K hd h hn hu hf hc he hy
  have rd : 10 + 10 * (13 - o) + 8 ≤ d := hd
  have r0 : rnk 0 = 7 := rfl
  have r1 : rnk 1 = 6 := rfl
  have tl := h.1.2.2.2.2.2.1.1
  have hi := h.2.2.1
  rw [prs_0] at he hy
  show vMI E d M_X5_test [sl 0 7] V K
  refine w_X5_test_0 (by omega) ?_
  refine hE (d - 1) i nb ub sv V 0 _ (by show 10 + 10 * (13 - o) + 7 ≤ d - 1; omega) h hn hu (by omega) ⟨0, Nat.zero_le _, rfl⟩ (fun e z V' r f => ⟨fun q => absurd rfl q, fun _ => he e (by rw [z]; rfl) V' r f⟩) (fun i1 C1 N1 z V1 s1 k1 a1 b1 => ?_)
  obtain ⟨p1, p2, p3, p4⟩ := prs_ok tl hi (by omega) (by omega) z
  rw [if_pos (by decide)] at p1
  rw [z, rsB_r] at he hy
  show (¬ (1 : Int32) = 0 → _) ∧ _
  refine ⟨fun _ => cs_is (c := 203) k1 (by decide) (by decide) ?_, fun q => absurd q (by decide)⟩
  by_cases c : (T i1).1 = 203
  · rw [decide_eq_true c]
    rw [if_pos c] at he hy
    refine ⟨fun _ => cs_enter (c := 203) (by omega) k1 (by decide) (by decide) (fun z2 => absurd c z2) (fun _ z2 V' r f => ⟨fun _ => he _ (by rw [if_pos z2]; rfl) V' (s1.trans r) f, fun q => absurd rfl q⟩) (fun _ z2 V3 r3 k3 a3 => ⟨fun q => absurd q (by decide), fun _ => ?_⟩), fun q => absurd q (by decide)⟩
    rw [if_neg z2] at he hy
    have q0 : prz T (lku tc nm) f 0 0 (o + 1) (i1 + 1) (nb + N1.length) = prz T (lku tc nm) f 0 0 (o + 1) (i1 + 1) (nb + N1.length) := rfl
    refine hT z2 (d - 1) (i1 + 1) (nb + N1.length) (ub + 2 * C1.length) _ V3 0 _ (by show 10 + 10 * (13 - (o + 1)) + 8 ≤ d - 1; omega) k3 (by omega) (by omega) (by omega) ⟨0, Nat.zero_le _, rfl⟩ (fun e z3 V' r f => ⟨fun q => absurd rfl q, fun _ => he e (by rw [z3]; rfl) V' ((s1.trans r3).trans r) f⟩) (fun i2 C2 N2 z3 V5 r5 k5 a5 b5 => ?_)
    have tl2 := prs_ok tl (by have := k3.2.2.1; omega) (by omega) (by omega) z3
    rw [if_pos (by decide)] at tl2
    show (¬ (1 : Int32) = 0 → _) ∧ _
    refine ⟨fun _ V9 e9 => ?_, fun q => absurd q (by decide)⟩
    obtain ⟨r9, k9, a9⟩ := k5.less e9
    rw [k9.1.2.1]
    refine ⟨k9.1.2.2.1, cs_emit (by omega) k9 (by omega) (fun V11 r11 k11 a11 => ⟨Or.inr rfl, ?_⟩)⟩
    refine hy i2 (C1 ++ C2 ++ [(21, 0)]) (N1 ++ N2) (by rw [z3]; rfl) V11 ((((s1.trans r3).trans r5).trans r9).trans r11) ?_ ?_ (by omega)
    · have e1 : (sv ||| svx T (lku tc nm) i i1) ||| svx T (lku tc nm) (i1 + 1) i2 = sv ||| svx T (lku tc nm) i i2 := by
        rw [← svx_r (T := T) (M := lku tc nm) (i := i) (k := i1) (by omega) (by omega), Int32.or_assoc, svx_tr (by omega) (by omega)]
      rw [e1] at k11
      rw [List.length_append, List.length_append, List.length_append, show nb + (N1.length + N2.length) = nb + N1.length + N2.length from by omega, show ub + 2 * (C1.length + C2.length + [((21 : Int32), (0 : Int32))].length) = ub + 2 * C1.length + 2 * C2.length + 2 from by show ub + 2 * (C1.length + C2.length + 1) = _; omega]
      exact k11
    · have t := ((a1.trans a3).ex (C' := C1) (N' := N1) (List.append_nil _) (List.append_nil _)).trans a5
      have t2 := (t.trans (by rw [List.length_append, List.length_append, show ub + 2 * (C1.length + C2.length) = ub + 2 * C1.length + 2 * C2.length from by omega, show nb + (N1.length + N2.length) = nb + N1.length + N2.length from by omega]; exact a9)).ex (C' := C1 ++ C2) (N' := N1 ++ N2) (List.append_nil _) (List.append_nil _)
      have t3 := t2.trans (C2 := [(21, 0)]) (N2 := []) (V2 := V11) (by rw [List.length_append, List.length_append, show ub + 2 * (C1.length + C2.length) = ub + 2 * C1.length + 2 * C2.length from by omega, show nb + (N1.length + N2.length) = nb + N1.length + N2.length from by omega]; exact a11)
      exact t3.ex rfl (List.append_nil _)
  · rw [decide_eq_false c]
    rw [if_neg c] at hy
    exact ⟨fun q => absurd rfl q, fun _ => hy i1 C1 N1 rfl V1 s1 k1 a1 b1⟩
/-- first one, then the loop behind it -/
theorem PA_seq {tag : Nat} (ht : tag = 1 ∨ tag = 2 ∨ tag = 4 ∨ tag = 5) (h1 : PA E g T L tc nm f (tag + 1) 0 o) (h2 : PA E g T L tc nm f (tag + 10) 0 o)
    (w : ∀ (d : Nat) (V : VH) (K : Int32 → VH → Prop), 0 < d → mA E (d - 1) (tag + 1) 0 0 V (fun r1 V1 => (¬ r1 = 0 → mA E d (tag + 10) 0 0 V1 K) ∧ (r1 = 0 → K 0 V1)) → mA E d tag 0 0 V K)
    (s1 : ∀ (d : Nat) (V : VH) (K : Int32 → VH → Prop), sA E d (tag + 1) V K = K 1 V) (s2 : ∀ (d : Nat) (V : VH) (K : Int32 → VH → Prop), sA E d (tag + 10) V K = K 1 V) (s0 : ∀ (d : Nat) (V : VH) (K : Int32 → VH → Prop), sA E d tag V K = K 1 V)
    (m0 : ∀ (d : Nat) (y : Int32) (V : VH) (K : Int32 → VH → Prop), mA E d tag 0 y V K = mA E d tag 0 0 V K) (rk1 : rkD (tag + 1) + 1 ≤ rkD tag) (rk2 : rkD (tag + 10) = rkD tag) : PA E g T L tc nm (f + 1) tag 0 o := by
  intro d i nb ub sv V y K hd h hn hu hf hc he hy
  have tl := h.1.2.2.2.2.2.1.1
  have hi := h.2.2.1
  have hr : rnk (tag + 1) < rnk tag := by
    unfold rnk
    rw [if_neg (by omega), if_pos (by omega), if_neg (by omega), if_pos (by omega)]
    omega
  have r0 : rnk (tag + 10) = 0 := by unfold rnk; rw [if_neg (by omega), if_neg (by omega)]
  rw [prs_q ht] at he hy
  rw [m0]
  refine w d V K (by omega) (h1 (d - 1) i nb ub sv V 0 _ (by omega) h hn hu (by omega) ⟨0, Nat.zero_le _, rfl⟩ (fun e z V' r f => ⟨fun q => absurd rfl q, fun _ => he e (by rw [z]; rfl) V' r f⟩) (fun i1 C1 N1 z V1 q1 k1 a1 b1 => ?_))
  obtain ⟨p1, p2, p3, p4⟩ := prs_ok tl hi (by omega) (by omega) z
  rw [if_pos (by omega)] at p1
  rw [z, rsB_r] at he hy
  rw [s1]
  refine ⟨fun _ => h2 d i1 (nb + N1.length) (ub + 2 * C1.length) _ V1 0 K (by omega) k1 (by omega) (by omega) (by omega) ⟨0, Nat.zero_le _, rfl⟩ (fun e z2 V' r f => he e (by rw [z2]; rfl) V' (q1.trans r) f) (fun i2 C2 N2 z2 V2 q2 k2 a2 b2 => ?_), fun q => absurd q (by decide)⟩
  rw [s2, ← s0 d V2 K]
  refine hy i2 (C1 ++ C2) (N1 ++ N2) (by rw [z2]; rfl) V2 (q1.trans q2) ?_ (a1.trans a2) (by omega)
  rw [Int32.or_assoc, svx_tr (by omega) b2] at k2
  rw [List.length_append, List.length_append, show nb + (N1.length + N2.length) = nb + N1.length + N2.length from by omega, show ub + 2 * (C1.length + C2.length) = ub + 2 * C1.length + 2 * C2.length from by omega]
  exact k2
/-- one round of a loop: the sign has been passed -/
theorem PA_round {tag x : Nat} {op : Int32} {d i nb ub : Nat} {sv : Int32} {V : VH} {y : Int32} {K : Int32 → VH → Prop} (ht : tag = 11 ∨ tag = 12 ∨ tag = 14 ∨ tag = 15 ∨ tag = 17 ∨ tag = 18) (h1 : PA E g T L tc nm f (lps tag) 0 o) (h2 : PA E g T L tc nm f tag (x - 1) o) (hx : tag ≤ 15 ∨ x ≠ 0)
    (s1 : ∀ (d : Nat) (V : VH) (K : Int32 → VH → Prop), sA E d (lps tag) V K = K 1 V) (rk1 : rkD (lps tag) + 1 ≤ rkD tag) (hd : 10 + 10 * (13 - o) + rkD tag ≤ d)
    (h : CS V g T L tc nm i o nb ub sv) (hn : nb + 2 ≤ i) (hu : ub + 4 ≤ 2 * i) (hf : 8 * (L - i) + rnk tag < f + 1) (hc : ∃ c, c ≤ i + 1 ∧ y + 1 = nI c) (hop : lpo tag (T i).1 = some op)
    (he : ∀ e, prz T (lku tc nm) (f + 1) tag x o i nb = .inl e → ∀ V', Rdf V V' g → Flt V' e → K 0 V') (hy : ∀ i1 C N, prz T (lku tc nm) (f + 1) tag x o i nb = .inr (i1, C, N) → ∀ V', Rdf V V' g → CS V' g T L tc nm i1 o (nb + N.length) (ub + 2 * C.length) (sv ||| svx T (lku tc nm) i i1) → Apd V V' g ub nb C N → i ≤ i1 → sA E d tag V' K)
    (hne : (T i).1 ≠ 0 ∧ (T i).1 ≠ 3 ∧ (T i).1 ≠ 1) : vMV E (d - 1) M_X10_step [sl 0 2] V (fun V3 => mA E (d - 1) (lps tag) 0 0 V3 (fun r5 V5 => (¬ r5 = 0 → PG (vL V5) (vQ V5) ∧ (vMI E (d - 1) M_X2_emit [sl (vQ V5) 9, wi op, wi 0] V5 (fun r8 V8 => mA E d tag (x - 1) (y + 1) V8 K))) ∧ (r5 = 0 → K 0 V5))) := by
  have tl := h.1.2.2.2.2.2.1.1
  have hi := h.2.2.1
  have hlt := tl.lt hi hne.1 hne.2.1
  have ls : lps tag ≤ 6 := by
    unfold lps
    split
    · decide
    · split
      · decide
      · split
        · decide
        · split <;> decide
  have lr : rnk (lps tag) ≤ 7 := rnk_le _
  have r0 : rnk tag = 0 := by unfold rnk; rw [if_neg (by omega), if_neg (by omega)]
  rw [prs_l (by omega), hop] at he hy
  have he : ∀ e, (rsB (prz T (lku tc nm) f (lps tag) 0 o (i + 1) nb) (fun i1 C1 N1 => rsB (prz T (lku tc nm) f tag (x - 1) o i1 (nb + N1.length)) (fun i2 C2 N2 => rsO i2 (C1 ++ (op, 0) :: C2) (N1 ++ N2)))) = .inl e → ∀ V', Rdf V V' g → Flt V' e → K 0 V' := fun e z => he e (by show (if tag ≤ 15 ∨ x ≠ 0 then _ else _) = _; rw [if_pos hx]; exact z)
  have hy : ∀ i1 C N, (rsB (prz T (lku tc nm) f (lps tag) 0 o (i + 1) nb) (fun i1 C1 N1 => rsB (prz T (lku tc nm) f tag (x - 1) o i1 (nb + N1.length)) (fun i2 C2 N2 => rsO i2 (C1 ++ (op, 0) :: C2) (N1 ++ N2)))) = .inr (i1, C, N) → ∀ V', Rdf V V' g → CS V' g T L tc nm i1 o (nb + N.length) (ub + 2 * C.length) (sv ||| svx T (lku tc nm) i i1) → Apd V V' g ub nb C N → i ≤ i1 → sA E d tag V' K := fun i1 C N z => hy i1 C N (by show (if tag ≤ 15 ∨ x ≠ 0 then _ else _) = _; rw [if_pos hx]; exact z)
  refine cs_step h hne.1 hne.2.1 (fun V3 r3 k3 a3 => ?_)
  refine h1 (d - 1) (i + 1) nb ub sv V3 0 _ (by omega) k3 (by omega) (by omega) (by omega) ⟨0, Nat.zero_le _, rfl⟩ (fun e z V' r f => ⟨fun q => absurd rfl q, fun _ => he e (by rw [z]; rfl) V' (r3.trans r) f⟩) (fun i1 C1 N1 z V5 r5 k5 a5 b5 => ?_)
  obtain ⟨p1, p2, p3, p4⟩ := prs_ok tl (by omega) (Or.inl ls) (by omega) z
  rw [if_pos ls] at p1
  rw [z, rsB_r] at he hy
  rw [s1]
  refine ⟨fun _ => ?_, fun q => absurd q (by decide)⟩
  rw [k5.1.2.1]
  refine ⟨k5.1.2.2.1, cs_emit (by omega) k5 (by omega) (fun V8 r8 k8 a8 => ?_)⟩
  refine h2 d i1 (nb + N1.length) (ub + 2 * C1.length + 2) _ V8 (y + 1) K hd k8 (by omega) (by omega) (by omega) ?_ (fun e z2 V' r f => he e (by rw [z2]; rfl) V' (((r3.trans r5).trans r8).trans r) f) (fun i2 C2 N2 z2 V2 q2 k2 a2 b2 => ?_)
  · obtain ⟨c, hc1, hc2⟩ := hc
    exact ⟨c, by omega, hc2⟩
  · refine hy i2 (C1 ++ (op, 0) :: C2) (N1 ++ N2) (by rw [z2]; rfl) V2 (((r3.trans r5).trans r8).trans q2) ?_ ?_ (by omega)
    · have e1 : (sv ||| svx T (lku tc nm) (i + 1) i1) ||| svx T (lku tc nm) i1 i2 = sv ||| svx T (lku tc nm) i i2 := by
        rw [Int32.or_assoc, svx_tr (by omega) b2, svx_l hne.2.2 (by omega)]
      rw [e1] at k2
      rw [List.length_append, List.length_append, List.length_cons, show nb + (N1.length + N2.length) = nb + N1.length + N2.length from by omega, show ub + 2 * (C1.length + (C2.length + 1)) = ub + 2 * C1.length + 2 + 2 * C2.length from by omega]
      exact k2
    · have t1 := (a3.trans a5).ex (C' := C1) (N' := N1) rfl rfl
      have t2 := (t1.trans a8).ex (C' := C1 ++ [(op, 0)]) (N' := N1) rfl (List.append_nil _)
      have t3 := t2.trans (V2 := V2) (C2 := C2) (N2 := N2) (by rw [List.length_append]; show Apd V8 V2 g (ub + 2 * (C1.length + 1)) _ _ _; rw [show ub + 2 * (C1.length + 1) = ub + 2 * C1.length + 2 from by omega]; exact a2)
      exact t3.ex (by rw [List.append_assoc]; rfl) rfl
/-- a loop ends -/
theorem PA_stop {tag x : Nat} {d i nb ub : Nat} {sv : Int32} {V : VH} {K : Int32 → VH → Prop} (ht : 11 ≤ tag) (h : CS V g T L tc nm i o nb ub sv) (hno : lpo tag (T i).1 = none ∨ ¬ (tag ≤ 15 ∨ x ≠ 0))
    (hy : ∀ i1 C N, prz T (lku tc nm) (f + 1) tag x o i nb = .inr (i1, C, N) → ∀ V', Rdf V V' g → CS V' g T L tc nm i1 o (nb + N.length) (ub + 2 * C.length) (sv ||| svx T (lku tc nm) i i1) → Apd V V' g ub nb C N → i ≤ i1 → sA E d tag V' K) : sA E d tag V K := by
  refine hy i [] [] ?_ V h.caps (by rw [svx_self, Int32.or_zero]; exact h) Apd.refl (Nat.le_refl _)
  rw [prs_l ht]
  rcases hno with z | z
  · rw [z]; rfl
  · cases lpo tag (T i).1 with
    | none => rfl
    | some op => show (if tag ≤ 15 ∨ x ≠ 0 then _ else _) = _; rw [if_neg z]; rfl
theorem cnt_step {i : Nat} {y : Int32} (h : ∃ c, c ≤ i ∧ y = nI c) (hi : i < 20000) : (¬ 20000 ≤ y) ∧ ∃ c, c ≤ i + 1 ∧ y + 1 = nI c := by
  obtain ⟨c, h1, rfl⟩ := h
  exact ⟨nI_ge (b := 20000) (by omega) (by decide), c + 1, by omega, nI_1 c⟩
/-- a loop whose sign is one mark -/
theorem PA_loop1 {tag sg : Nat} {op sgn : Int32} (ht : tag = 11 ∨ tag = 12 ∨ tag = 15) (hsg : vcd sg = true ∧ 4 ≤ sg) (hsn : sgn = nI (clM sg)) (hl : ∀ c, lpo tag c = if c = sg then some op else none) (h1 : PA E g T L tc nm f (lps tag) 0 o) (h2 : ∀ x, PA E g T L tc nm f tag x o)
    (s1 : ∀ (d : Nat) (V : VH) (K : Int32 → VH → Prop), sA E d (lps tag) V K = K 1 V) (s0 : ∀ (d : Nat) (V : VH) (K : Int32 → VH → Prop), sA E d tag V K = K 1 V) (rk1 : rkD (lps tag) + 1 ≤ rkD tag) (m0 : ∀ (d x x' : Nat) (y : Int32) (V : VH) (K : Int32 → VH → Prop), mA E d tag x y V K = mA E d tag x' y V K)
    (w : ∀ (d x' : Nat) (y : Int32) (V : VH) (K : Int32 → VH → Prop), 0 < d → ((20000 ≤ y → K 1 V) ∧ (¬ (20000 ≤ y) → vMI E (d - 1) M_X10_is [sl 0 2, wi sgn] V (fun r1 V1 => (r1 = 0 → K 1 V1) ∧ (¬ (r1 = 0) → vMV E (d - 1) M_X10_step [sl 0 2] V1 (fun V3 => mA E (d - 1) (lps tag) 0 0 V3 (fun r5 V5 => (¬ r5 = 0 → PG (vL V5) (vQ V5) ∧ (vMI E (d - 1) M_X2_emit [sl (vQ V5) 9, wi op, wi 0] V5 (fun r8 V8 => mA E d tag x' (y + 1) V8 K))) ∧ (r5 = 0 → K 0 V5))))))) → mA E d tag 0 y V K) (x : Nat) : PA E g T L tc nm (f + 1) tag x o := by
  intro d i nb ub sv V y K hd h hn hu hf hc he hy
  have tl := h.1.2.2.2.2.2.1.1
  have hi := h.2.2.1
  have hL := h.1.2.2.2.2.2.1.2.1
  rw [m0 d x 0]
  by_cases c : (T i).1 = sg
  · have hlt := tl.lt hi (by omega) (by omega)
    obtain ⟨y1, y2⟩ := cnt_step hc (by omega)
    refine w d (x - 1) y V K (by omega) ⟨fun q => absurd q y1, fun _ => cs_is h hsg hsn ?_⟩
    rw [decide_eq_true c]
    refine ⟨fun q => absurd q (by decide), fun _ => ?_⟩
    exact PA_round (x := x) (by omega) h1 (h2 (x - 1)) (Or.inl (by omega)) s1 rk1 hd h hn hu hf y2 (by rw [hl, if_pos c]) he hy ⟨by omega, by omega, by omega⟩
  · have e := PA_stop (E := E) (d := d) (K := K) (by omega) h (Or.inl (by rw [hl, if_neg c])) hy
    rw [s0] at e
    refine w d 0 y V K (by omega) ⟨fun _ => e, fun _ => cs_is h hsg hsn ?_⟩
    rw [decide_eq_false c]
    exact ⟨fun _ => e, fun q => absurd rfl q⟩
end
