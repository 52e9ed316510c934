/-! the reference reads tests and sums, as the spec does -/
def mB (E : EE) (d : Nat) (tag x : Nat) (V : VH) (K : VH → Prop) : Prop := match tag with
  | 0 => vMV E d M_X12_test [sl 6 0] V K
  | 1 => vMV E d M_X12_or [sl 6 0] V K
  | 2 => vMV E d M_X12_and [sl 6 0] V K
  | 3 => vMV E d M_X12_unit [sl 6 0] V K
  | 4 => vMV E d M_X12_sum [sl 6 0] V K
  | 5 => vMV E d M_X12_term [sl 6 0] V K
  | 6 => vMV E d M_X12_factor [sl 6 0] V K
  | 11 => vwp E d M_X12_or 4 [some (sl 6 0)] [] V (zv K)
  | 12 => vwp E d M_X12_and 4 [some (sl 6 0)] [] V (zv K)
  | 14 => vwp E d M_X12_sum 4 [some (sl 6 0)] [] V (zv K)
  | 15 => vwp E d M_X12_term 4 [some (sl 6 0)] [] V (zv K)
  | 17 => vwp E d M_X12_bracket 19 [some (sl 6 0), some (wi 314), some (wi (nI (20 - x))), none] [] V (zv K)
  | 18 => vwp E d M_X12_bracket 19 [some (sl 6 0), some (wi 315), some (wi (nI (20 - x))), none] [] V (zv K)
  | _ => False
def sB (E : EE) (d : Nat) (tag : Nat) (V : VH) (K : VH → Prop) : Prop := match tag with
  | 17 => ∀ z : Int32, vwp E d M_X12_bracket 70 [some (sl 6 0), some (wi 314), some (wi z), none] [] V (zv K)
  | 18 => ∀ z : Int32, vwp E d M_X12_bracket 70 [some (sl 6 0), some (wi 315), some (wi z), none] [] V (zv K)
  | _ => K V
def PB (E : EE) (p : Nat) (t : Nat → Int32) (n : Nat) (tc : Nat → Nat) (nm : Nat → Nat → Int64) (f tag x o : Nat) : Prop := ∀ (d i nb : Nat) (V : VH) (K : VH → Prop), 20 + 10 * (13 - o) + rkD tag ≤ d → MZ V p t n tc nm i o → 8 * (tln t n - i) + rnk tag < f → (∀ V', MO V V' p t n tc nm o i (rsI (prz (tkT t n) (lku tc nm) f tag x o i nb)) → sB E d tag V' K) → mB E d tag x V K
section
variable {E : EE} {p : Nat} {t : Nat → Int32} {n : Nat} {tc : Nat → Nat} {nm : Nat → Nat → Int64} {f o : Nat}
theorem md_factor {d : Nat} {V : VH} {K : VH → Prop} (h0 : 0 < d) (h : ¬ vI V 6 0 45 = 0) (hk : K V) : vMV E d M_X12_factor [sl 6 0] V K := w_X12_factor_0 h0 ⟨fun q => absurd q h, fun _ => hk⟩
theorem md_term {d : Nat} {V : VH} {K : VH → Prop} (h0 : 1 < d) (h : ¬ vI V 6 0 45 = 0) (hk : K V) : vMV E d M_X12_term [sl 6 0] V K := w_X12_term_0 (by omega) (md_factor (by omega) h (w_X12_term_4 (by omega) ⟨fun _ => hk, fun q => absurd q h⟩))
theorem md_sum {d : Nat} {V : VH} {K : VH → Prop} (h0 : 2 < d) (h : ¬ vI V 6 0 45 = 0) (hk : K V) : vMV E d M_X12_sum [sl 6 0] V K := w_X12_sum_0 (by omega) (md_term (by omega) h (w_X12_sum_4 ⟨fun _ => hk, fun q => absurd q h⟩))
theorem md_unit {d : Nat} {V : VH} {K : VH → Prop} (h0 : 0 < d) (h : ¬ vI V 6 0 45 = 0) (hk : K V) : vMV E d M_X12_unit [sl 6 0] V K := w_X12_unit_0 h0 ⟨fun q => absurd q h, fun _ => hk⟩
theorem md_and {d : Nat} {V : VH} {K : VH → Prop} (h0 : 1 < d) (h : ¬ vI V 6 0 45 = 0) (hk : K V) : vMV E d M_X12_and [sl 6 0] V K := w_X12_and_0 (by omega) (md_unit (by omega) h (w_X12_and_4 (by omega) ⟨fun _ => hk, fun q => absurd q h⟩))
theorem md_or {d : Nat} {V : VH} {K : VH → Prop} (h0 : 2 < d) (h : ¬ vI V 6 0 45 = 0) (hk : K V) : vMV E d M_X12_or [sl 6 0] V K := w_X12_or_0 (by omega) (md_and (by omega) h (w_X12_or_4 (by omega) ⟨fun _ => hk, fun q => absurd q h⟩))
theorem md_test {d : Nat} {V : VH} {K : VH → Prop} (h0 : 3 < d) (h : ¬ vI V 6 0 45 = 0) (hk : K V) : vMV E d M_X12_test [sl 6 0] V K := w_X12_test_0 (by omega) (md_or (by omega) h ⟨fun _ => hk, fun q => absurd q h⟩)
/-- behind a fault -/
theorem mdB {d tag x : Nat} {V : VH} {K : VH → Prop} (ht : tgO tag) (h0 : 4 < d) (h : ¬ vI V 6 0 45 = 0) (hk : sB E d tag V K) : mB E d tag x V K := by
  have ht : tag = 0 ∨ tag = 1 ∨ tag = 2 ∨ tag = 3 ∨ tag = 4 ∨ tag = 5 ∨ tag = 6 ∨ tag = 11 ∨ tag = 12 ∨ tag = 14 ∨ tag = 15 ∨ tag = 17 ∨ tag = 18 := by unfold tgO at ht; omega
  rcases ht with rfl | rfl | rfl | rfl | rfl | rfl | rfl | rfl | rfl | rfl | rfl | rfl | rfl
  · exact md_test (by omega) h hk
  · exact md_or (by omega) h hk
  · exact md_and (by omega) h hk
  · exact md_unit (by omega) h hk
  · exact md_sum (by omega) h hk
  · exact md_term (by omega) h hk
  · exact md_factor (by omega) h hk
  · exact w_X12_or_4 (by omega) ⟨fun _ => hk, fun q => absurd q h⟩
  · exact w_X12_and_4 (by omega) ⟨fun _ => hk, fun q => absurd q h⟩
  · exact w_X12_sum_4 ⟨fun _ => hk, fun q => absurd q h⟩
  · exact w_X12_term_4 (by omega) ⟨fun _ => hk, fun q => absurd q h⟩
  · exact w_X12_bracket_19 ⟨fun _ => hk _, fun q => absurd q h⟩
  · exact w_X12_bracket_19 ⟨fun _ => hk _, fun q => absurd q h⟩
theorem tlT (t : Nat → Int32) (n : Nat) : TL (tkT t n) (tln t n) := ⟨(tln_ok t n).2.1, (tln_ok t n).2.2⟩
theorem rsI_b {r : RS} {k : Nat → CD → List Int32 → RS} {q : Nat × CD × List Int32} (h : r = .inr q) : rsI (rsB r k) = rsI (k q.1 q.2.1 q.2.2) := by rw [h]; rfl
theorem rsI_e {r : RS} {k : Nat → CD → List Int32 → RS} {e : Nat × Nat} (h : r = .inl e) : rsI (rsB r k) = .inl e := by rw [h]; rfl
theorem PB_test (hF : eFr E) (hE : PB E p t n tc nm f 1 0 o) (hT : ¬ 12 ≤ o → PB E p t n tc nm f 0 0 (o + 1)) : PB E p t n tc nm (f + 1) 0 0 o := by
  intro d i nb V K hd h hf hk
  have rd : 20 + 10 * (13 - o) + 8 ≤ d := hd
  have r0 : rnk 0 = 7 := rfl
  have r1 : rnk 1 = 6 := rfl
  have hi := h.2.2.2.1
  rw [prs_0] at hk
  show vMV E d M_X12_test [sl 6 0] V K
  refine w_X12_test_0 (by omega) ?_
  refine hE (d - 1) i nb V _ (by show 20 + 10 * (13 - o) + 7 ≤ d - 1; omega) h (by omega) (fun V1 m1 => ?_)
  cases w : prz (tkT t n) (lku tc nm) f 1 0 o i nb with
  | inl e =>
    rw [w] at m1
    rw [rsI_e w] at hk
    exact ⟨fun _ => hk V1 m1, fun q => absurd q (MO.dead m1)⟩
  | inr q =>
    obtain ⟨i1, C1, N1⟩ := q
    obtain ⟨p1, p2, p3, p4⟩ := prs_ok (tlT t n) hi (by omega) (by omega) w
    rw [if_pos (by decide)] at p1
    rw [w] at m1
    rw [rsI_b w] at hk
    have m1 : MO V V1 p t n tc nm o i (.inr i1) := m1
    have s1 := m1.2.1
    have e203 := s1.is 203 (by decide)
    refine ⟨fun q => absurd s1.2.1 q, fun _ => ⟨fun q => ?_, fun q => ?_⟩⟩
    · have hk : ∀ V', MO V V' p t n tc nm o i (rsI (if (tkT t n i1).1 = 203 then _ else rsO i1 C1 N1)) → K V' := hk
      rw [if_neg (fun z => q (e203.mpr z))] at hk
      exact hk V1 m1
    · have c := e203.mp q
      have hk : ∀ V', MO V V' p t n tc nm o i (rsI (if (tkT t n i1).1 = 203 then (if 12 ≤ o then rsE 7 (tkT t n i1).f else rsB (prz (tkT t n) (lku tc nm) f 0 0 (o + 1) (i1 + 1) (nb + N1.length)) (fun i2 C2 N2 => rsO i2 (C1 ++ C2 ++ [(21, 0)]) (N1 ++ N2))) else rsO i1 C1 N1)) → K V' := hk
      rw [if_pos c] at hk
      refine ms_opens (by omega) s1 (fun z V' m => ⟨fun _ => ?_, fun q => absurd rfl q⟩) (fun z V3 s3 f3 => ⟨fun q => absurd q (by decide), fun _ => ?_⟩)
      · rw [if_pos z] at hk
        exact hk V' (m1.tr m)
      · rw [if_neg z] at hk
        have m3 : MO V1 V3 p t n tc nm (o + 1) i1 (.inr i1) := ⟨f3, s3, fun j a b => by omega, Nat.le_refl _⟩
        refine ms_keep hF (by omega) s3 (by omega) (by omega) (nuq_0 (by omega) (by omega)) (fun V5 m5 => ?_)
        have m15 := m1.tr (m3.tr m5)
        refine hT z (d - 1) (i1 + 1) (nb + N1.length) V5 _ (by show 20 + 10 * (13 - (o + 1)) + 8 ≤ d - 1; omega) m5.2.1 (by omega) (fun V7 m7 => ?_)
        show ∀ V9, V9 = _ → K V9
        intro V9 e9
        cases w2 : prz (tkT t n) (lku tc nm) f 0 0 (o + 1) (i1 + 1) (nb + N1.length) with
        | inl e =>
          rw [w2] at m7
          rw [rsI_e w2] at hk
          have m7 : MO V5 V7 p t n tc nm (o + 1) (i1 + 1) (.inl e) := m7
          exact hk V9 (MO.wr (MO.oo (m15.tr m7)) e9)
        | inr q2 =>
          rw [w2] at m7
          rw [rsI_b w2] at hk
          have m7 : MO V5 V7 p t n tc nm (o + 1) (i1 + 1) (.inr q2.1) := m7
          exact hk V9 ((m15.tr m7).less e9)
theorem PB_seq {tag : Nat} (ht : tag = 1 ∨ tag = 2 ∨ tag = 4 ∨ tag = 5) (h1 : PB E p t n tc nm f (tag + 1) 0 o) (h2 : PB E p t n tc nm f (tag + 10) 0 o)
    (w : ∀ (d : Nat) (V : VH) (K : VH → Prop), 0 < d → mB E (d - 1) (tag + 1) 0 V (fun V1 => mB E d (tag + 10) 0 V1 K) → mB E d tag 0 V K)
    (s1 : ∀ (d : Nat) (V : VH) (K : VH → Prop), sB E d (tag + 1) V K = K V) (s2 : ∀ (d : Nat) (V : VH) (K : VH → Prop), sB E d (tag + 10) V K = K V) (s0 : ∀ (d : Nat) (V : VH) (K : VH → Prop), sB E d tag V K = K V)
    (rk1 : rkD (tag + 1) + 1 ≤ rkD tag) (rk2 : rkD (tag + 10) = rkD tag) : PB E p t n tc nm (f + 1) tag 0 o := by
  intro d i nb V K hd h hf hk
  have hi := h.2.2.2.1
  have hr : rnk (tag + 1) < rnk tag := by
    unfold rnk
    rw [if_neg (by omega), if_pos (by omega), if_neg (by omega), if_pos (by omega)]
    omega
  have r0 : rnk (tag + 10) = 0 := by unfold rnk; rw [if_neg (by omega), if_neg (by omega)]
  rw [prs_q ht] at hk
  refine w d V K (by omega) (h1 (d - 1) i nb V _ (by omega) h (by omega) (fun V1 m1 => ?_))
  rw [s1]
  cases w1 : prz (tkT t n) (lku tc nm) f (tag + 1) 0 o i nb with
  | inl e =>
    rw [w1] at m1
    rw [rsI_e w1] at hk
    refine mdB (by unfold tgO; omega) (by omega) (MO.dead m1) ?_
    rw [s2, ← s0 d V1 K]
    exact hk V1 m1
  | inr q =>
    obtain ⟨i1, C1, N1⟩ := q
    obtain ⟨p1, p2, p3, p4⟩ := prs_ok (tlT t n) hi (by omega) (by omega) w1
    rw [if_pos (by omega)] at p1
    rw [w1] at m1
    rw [rsI_b w1] at hk
    have m1 : MO V V1 p t n tc nm o i (.inr i1) := m1
    refine h2 d i1 (nb + N1.length) V1 K (by omega) m1.2.1 (by omega) (fun V2 m2 => ?_)
    rw [s2, ← s0 d V2 K]
    have hk : ∀ V', MO V V' p t n tc nm o i (rsI (rsB (prz (tkT t n) (lku tc nm) f (tag + 10) 0 o i1 (nb + N1.length)) (fun i2 C2 N2 => rsO i2 (C1 ++ C2) (N1 ++ N2)))) → sB E d tag V' K := hk
    refine hk V2 (m1.tr ?_)
    cases w2 : prz (tkT t n) (lku tc nm) f (tag + 10) 0 o i1 (nb + N1.length) with
    | inl e => rw [w2] at m2; exact m2
    | inr q2 => rw [w2] at m2; exact m2
/-- one round of a loop: the sign is kept, then the rest -/
theorem PB_round {tag x : Nat} {op : Int32} {d i nb : Nat} {V : VH} {K : VH → Prop} (hF : eFr E) (ht : tag = 11 ∨ tag = 12 ∨ tag = 14 ∨ tag = 15 ∨ tag = 17 ∨ tag = 18) (h1 : PB E p t n tc nm f (lps tag) 0 o) (h2 : PB E p t n tc nm f tag (x - 1) o) (hx : tag ≤ 15 ∨ x ≠ 0)
    (s1 : ∀ (d : Nat) (V : VH) (K : VH → Prop), sB E d (lps tag) V K = K V) (rk1 : rkD (lps tag) + 1 ≤ rkD tag) (hd : 20 + 10 * (13 - o) + rkD tag ≤ d)
    (h : MZ V p t n tc nm i o) (hf : 8 * (tln t n - i) + rnk tag < f + 1) (hop : lpo tag (tkT t n i).1 = some op)
    (hk : ∀ V', MO V V' p t n tc nm o i (rsI (prz (tkT t n) (lku tc nm) (f + 1) tag x o i nb)) → sB E d tag V' K) (hne : (tkT t n i).1 ≠ 0 ∧ (tkT t n i).1 ≠ 3 ∧ (tkT t n i).1 ≠ 1 ∧ (tkT t n i).1 ≠ 2) : vMV E (d - 1) M_X12_keep [sl 6 0, wi 0] V (fun V1 => mB E (d - 1) (lps tag) 0 V1 (fun V3 => mB E d tag (x - 1) V3 K)) := by
  have hi := h.2.2.2.1
  have hlt := h.lt hne.1 hne.2.1
  have ls : lps tag ≤ 6 := by
    unfold lps
    split
    · decide
    · split
      · decide
      · split
        · decide
        · split <;> decide
  have lr : rnk (lps tag) ≤ 7 := rnk_le _
  have r0 : rnk tag = 0 := by unfold rnk; rw [if_neg (by omega), if_neg (by omega)]
  rw [prs_l (by omega), hop] at hk
  have hk : ∀ V', MO V V' p t n tc nm o i (rsI (rsB (prz (tkT t n) (lku tc nm) f (lps tag) 0 o (i + 1) nb) (fun i1 C1 N1 => rsB (prz (tkT t n) (lku tc nm) f tag (x - 1) o i1 (nb + N1.length)) (fun i2 C2 N2 => rsO i2 (C1 ++ (op, 0) :: C2) (N1 ++ N2))))) → sB E d tag V' K := fun V' m => hk V' (by show MO V V' p t n tc nm o i (rsI (if tag ≤ 15 ∨ x ≠ 0 then _ else _)); rw [if_pos hx]; exact m)
  refine ms_keep hF (by omega) h hne.1 hne.2.1 (nuq_0 hne.2.2.1 hne.2.2.2) (fun V1 m1 => ?_)
  refine h1 (d - 1) (i + 1) nb V1 _ (by omega) m1.2.1 (by omega) (fun V3 m3 => ?_)
  rw [s1]
  cases w1 : prz (tkT t n) (lku tc nm) f (lps tag) 0 o (i + 1) nb with
  | inl e =>
    rw [w1] at m3
    rw [rsI_e w1] at hk
    exact mdB (by unfold tgO; omega) (by omega) (MO.dead m3) (hk V3 (m1.tr m3))
  | inr q =>
    obtain ⟨i1, C1, N1⟩ := q
    obtain ⟨p1, p2, p3, p4⟩ := prs_ok (tlT t n) (by omega) (Or.inl ls) (by omega) w1
    rw [if_pos ls] at p1
    rw [w1] at m3
    rw [rsI_b w1] at hk
    have m3 : MO V1 V3 p t n tc nm o (i + 1) (.inr i1) := m3
    have m13 := m1.tr m3
    refine h2 d i1 (nb + N1.length) V3 K hd m3.2.1 (by omega) (fun V2 m2 => ?_)
    have hk : ∀ V', MO V V' p t n tc nm o i (rsI (rsB (prz (tkT t n) (lku tc nm) f tag (x - 1) o i1 (nb + N1.length)) (fun i2 C2 N2 => rsO i2 (C1 ++ (op, 0) :: C2) (N1 ++ N2)))) → sB E d tag V' K := hk
    refine hk V2 (m13.tr ?_)
    cases w2 : prz (tkT t n) (lku tc nm) f tag (x - 1) o i1 (nb + N1.length) with
    | inl e => rw [w2] at m2; exact m2
    | inr q2 => rw [w2] at m2; exact m2
theorem PB_stop {tag x : Nat} {d i nb : Nat} {V : VH} {K : VH → Prop} (ht : 11 ≤ tag) (h : MZ V p t n tc nm i o) (hno : lpo tag (tkT t n i).1 = none ∨ ¬ (tag ≤ 15 ∨ x ≠ 0)) (hk : ∀ V', MO V V' p t n tc nm o i (rsI (prz (tkT t n) (lku tc nm) (f + 1) tag x o i nb)) → sB E d tag V' K) : sB E d tag V K := by
  refine hk V ?_
  have z : prz (tkT t n) (lku tc nm) (f + 1) tag x o i nb = rsO i [] [] := by
    rw [prs_l ht]
    rcases hno with z | z
    · rw [z]
    · cases lpo tag (tkT t n i).1 with
      | none => rfl
      | some op => show (if tag ≤ 15 ∨ x ≠ 0 then _ else _) = _; rw [if_neg z]
  rw [z]
  exact h.id
theorem PB_loop1 {tag sg : Nat} {op sgn : Int32} (hF : eFr E) (ht : tag = 11 ∨ tag = 12 ∨ tag = 15) (hsg : 4 ≤ sg ∧ sg < 1000) (hsn : sgn = nI sg) (hl : ∀ c, lpo tag c = if c = sg then some op else none) (h1 : PB E p t n tc nm f (lps tag) 0 o) (h2 : ∀ x, PB E p t n tc nm f tag x o)
    (s1 : ∀ (d : Nat) (V : VH) (K : VH → Prop), sB E d (lps tag) V K = K V) (s0 : ∀ (d : Nat) (V : VH) (K : VH → Prop), sB E d tag V K = K V) (rk1 : rkD (lps tag) + 1 ≤ rkD tag)
    (w : ∀ (d x x' : Nat) (V : VH) (K : VH → Prop), 0 < d → ((¬ (vI V 6 0 45) = 0 → K V) ∧ ((vI V 6 0 45) = 0 → (¬ (vI V 6 0 41) = sgn → K V) ∧ ((vI V 6 0 41) = sgn → vMV E (d - 1) M_X12_keep [sl 6 0, wi 0] V (fun V1 => mB E (d - 1) (lps tag) 0 V1 (fun V3 => mB E d tag x' V3 K))))) → mB E d tag x V K) (x : Nat) : PB E p t n tc nm (f + 1) tag x o := by
  intro d i nb V K hd h hf hk
  have e := h.is sg hsg.2
  rw [← hsn] at e
  refine w d x (x - 1) V K (by omega) ⟨fun q => absurd h.2.1 q, fun _ => ⟨fun q => ?_, fun q => ?_⟩⟩
  · have z := PB_stop (E := E) (d := d) (K := K) (by omega) h (Or.inl (by rw [hl, if_neg (fun y => q (e.mpr y))])) hk
    rw [s0] at z
    exact z
  · have c := e.mp q
    exact PB_round (x := x) hF (by omega) h1 (h2 (x - 1)) (Or.inl (by omega)) s1 rk1 hd h hf (by rw [hl, if_pos c]) hk ⟨by omega, by omega, by omega, by omega⟩
theorem PB_sumloop (hF : eFr E) (h1 : PB E p t n tc nm f 5 0 o) (h2 : ∀ x, PB E p t n tc nm f 14 x o) (x : Nat) : PB E p t n tc nm (f + 1) 14 x o := by
  intro d i nb V K hd h hf hk
  have rd : 20 + 10 * (13 - o) + 4 ≤ d := hd
  have e43 := h.is 43 (by decide)
  have e45 := h.is 45 (by decide)
  show vwp E d M_X12_sum 4 [some (sl 6 0)] [] V (zv K)
  have round : ∀ op : Int32, lpo 14 (tkT t n i).1 = some op → ((tkT t n i).1 = 43 ∨ (tkT t n i).1 = 45) → vwp E d M_X12_sum 29 [some (sl 6 0)] [] V (zv K) := fun op hop hc2 => by
    refine w_X12_sum_29 (by omega) ?_
    exact PB_round (tag := 14) (x := x) hF (by omega) h1 (h2 (x - 1)) (Or.inl (by omega)) (fun _ _ _ => rfl) (by decide) hd h hf hop hk ⟨by omega, by omega, by omega, by omega⟩
  refine w_X12_sum_4 ⟨fun q => absurd h.2.1 q, fun _ => ⟨fun q => ?_, fun q => ⟨fun q2 => ?_, fun q2 => ?_⟩⟩⟩
  · have c := e43.mp q
    exact round 8 (by rw [c]; rfl) (Or.inl c)
  · exact PB_stop (E := E) (tag := 14) (d := d) (K := K) (by omega) h (Or.inl (by
      show (if (tkT t n i).1 = 43 then some (8 : Int32) else if (tkT t n i).1 = 45 then some 9 else none) = none
      rw [if_neg (fun z => q (e43.mpr z)), if_neg (fun z => q2 (e45.mpr z))])) hk
  · have c := e45.mp q2
    exact round 9 (by rw [c]; rfl) (Or.inr c)
theorem PB_ext {tag wd : Nat} {op : Int32} (hF : eFr E) (ht : tag = 17 ∧ op = 11 ∧ wd = 314 ∨ tag = 18 ∧ op = 12 ∧ wd = 315) (h1 : PB E p t n tc nm f 4 0 o) (h2 : ∀ x, x ≤ 19 → PB E p t n tc nm f tag x o) (x : Nat) (hx : x ≤ 19) : PB E p t n tc nm (f + 1) tag x o := by
  intro d i nb V K hd h hf hk
  have rd : 20 + 10 * (13 - o) + 5 ≤ d := by rcases ht with ⟨rfl, _⟩ | ⟨rfl, _⟩ <;> exact hd
  have mE : ∀ (x : Nat) (V : VH), vwp E d M_X12_bracket 19 [some (sl 6 0), some (wi (nI wd)), some (wi (nI (20 - x))), none] [] V (zv K) → mB E d tag x V K := fun x V q => by rcases ht with ⟨rfl, rfl, rfl⟩ | ⟨rfl, rfl, rfl⟩ <;> exact q
  have mE' : ∀ (x : Nat) (V : VH), mB E d tag x V K → vwp E d M_X12_bracket 19 [some (sl 6 0), some (wi (nI wd)), some (wi (nI (20 - x))), none] [] V (zv K) := fun x V q => by rcases ht with ⟨rfl, rfl, rfl⟩ | ⟨rfl, rfl, rfl⟩ <;> exact q
  have sE : ∀ V : VH, sB E d tag V K → ∀ z : Int32, vwp E d M_X12_bracket 70 [some (sl 6 0), some (wi (nI wd)), some (wi z), none] [] V (zv K) := fun V q => by rcases ht with ⟨rfl, rfl, rfl⟩ | ⟨rfl, rfl, rfl⟩ <;> exact q
  have lE : ∀ c, lpo tag c = if c = 44 then some op else none := fun c => by rcases ht with ⟨rfl, rfl, rfl⟩ | ⟨rfl, rfl, rfl⟩ <;> rfl
  have lS : lps tag = 4 := by rcases ht with ⟨rfl, rfl, rfl⟩ | ⟨rfl, rfl, rfl⟩ <;> rfl
  have wd2 : wd = 314 ∨ wd = 315 := by omega
  have e44 := h.is 44 (by decide)
  have stop : (lpo tag (tkT t n i).1 = none ∨ ¬ (tag ≤ 15 ∨ x ≠ 0)) → ∀ z : Int32, vwp E d M_X12_bracket 70 [some (sl 6 0), some (wi (nI wd)), some (wi z), none] [] V (zv K) := fun z => sE V (PB_stop (E := E) (d := d) (K := K) (by omega) h z hk)
  have l40 : vwp E d M_X12_bracket 40 [some (sl 6 0), some (wi (nI wd)), some (wi (nI (20 - x))), none] [] V (zv K) := by
    refine w_X12_bracket_40 (by omega) ⟨fun q => stop (Or.inl (by rw [lE, if_neg (fun y => q (e44.mpr y))])) _, fun q => ⟨fun q2 => ?_, fun q2 => ?_⟩⟩
    · have : 20 ≤ 20 - x := (nI_leI (a := 20) (by decide) (by omega)).mp q2
      exact stop (Or.inr (by omega)) _
    · have c := e44.mp q
      have x0 : x ≠ 0 := fun z => q2 (by rw [z]; exact nI_le (a := 20) (by omega) (by omega))
      have z := PB_round (tag := tag) (x := x) (op := op) hF (by omega) (by rw [lS]; exact h1) (h2 (x - 1) (by omega)) (Or.inr x0) (fun _ _ _ => by rw [lS]; rfl) (by rw [lS]; rcases ht with ⟨rfl, _⟩ | ⟨rfl, _⟩ <;> decide) hd h hf (by rw [lE, if_pos c]) hk ⟨by omega, by omega, by omega, by omega⟩
      rw [lS] at z
      refine vMV.mono z (fun V1 z1 => vMV.mono z1 (fun V3 z3 => ?_))
      have z3 := mE' (x - 1) V3 z3
      rw [show nI (20 - x) + 1 = nI (20 - (x - 1)) from by rw [nI_1]; congr 1; omega]
      exact z3
  apply mE x
  refine w_X12_bracket_19 ⟨fun q => absurd h.2.1 q, fun _ => ⟨fun _ => l40, fun q => ⟨fun q2 => ?_, fun _ => l40⟩⟩⟩
  exfalso
  rcases wd2 with e | e
  · rw [e] at q; exact q rfl
  · rw [e] at q2; exact q2 rfl
end
