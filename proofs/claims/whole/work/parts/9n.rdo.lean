/-! the reference reads units and factors; all together -/
section
variable {E : EE} {p : Nat} {t : Nat → Int32} {n : Nat} {tc : Nat → Nat} {nm : Nat → Nat → Int64} {f o : Nat}
/-- something has been read within; one thing less is open then -/
theorem MO.cl {V V1 V2 : VH} {i : Nat} {r : (Nat × Nat) ⊕ Nat} (h : MO V V1 p t n tc nm (o + 1) i r) (e2 : V2 = wrI V1 6 0 48 (vI V1 6 0 48 - 1)) : MO V V2 p t n tc nm o i r := by
  cases r with
  | inl e => exact MO.wr (MO.oo h) e2
  | inr i1 => exact h.less e2
theorem ms_need2 {c d : Nat} {x : Int32} {V V1 : VH} {i : Nat} {r : (Nat × Nat) ⊕ Nat} {K : VH → Prop} (hF : eFr E) (h0 : 8 < d) (h : MO V V1 p t n tc nm o i r) (hx : x = nI c) (hc : 4 ≤ c) (hc2 : c < 1000) (hk : ∀ V', MO V V' p t n tc nm o i (thn r (nee (tkT t n) c)) → K V') : vMV E d M_X12_need [sl 6 0, wi x] V1 K := by
  cases r with
  | inl e => exact md_need (by omega) h.dead (hk V1 h)
  | inr i1 => exact ms_need hF h0 h.2.1 hx hc hc2 (fun V' m => hk V' (h.tr m))
theorem PB_unit (hF : eFr E) (h3 : ¬ 12 ≤ o → PB E p t n tc nm f 3 0 (o + 1)) (hT : ¬ 12 ≤ o → PB E p t n tc nm f 0 0 (o + 1)) (h4 : PB E p t n tc nm f 4 0 o) : PB E p t n tc nm (f + 1) 3 0 o := by
  intro d i nb V K hd h hf hk
  have rd : 20 + 10 * (13 - o) + 5 ≤ d := hd
  have r3 : rnk 3 = 4 := rfl
  have r0 : rnk 0 = 7 := rfl
  have r4 : rnk 4 = 3 := rfl
  have hi := h.2.2.2.1
  have tv := vcd_lt (tkT_ok t n i).1
  rw [prs_3] at hk
  have e126 := h.is 126 (by decide)
  have e123 := h.is 123 (by decide)
  show vMV E d M_X12_unit [sl 6 0] V K
  refine w_X12_unit_0 (by omega) ⟨fun _ => ⟨fun q1 => ⟨fun q2 => ?_, fun q2 => ?_⟩, fun q1 => ?_⟩, fun q => absurd h.2.1 q⟩
  · have c1 : ¬ (tkT t n i).1 = 126 := fun z => q1 (e126.mpr z)
    have c2 : ¬ (tkT t n i).1 = 123 := fun z => q2 (e123.mpr z)
    rw [if_neg c1, if_neg c2] at hk
    have d306 : vI V 6 0 41 < 306 ↔ (tkT t n i).1 < 306 := by rw [h.tok.1]; exact nI_ltI (b := 306) (by omega) (by decide)
    have d312 : 312 < vI V 6 0 41 ↔ 312 < (tkT t n i).1 := by rw [h.tok.1]; exact nI_ltI (a := 312) (by decide) (by omega)
    have plain : ¬ (306 ≤ (tkT t n i).1 ∧ (tkT t n i).1 ≤ 312) → vwp E d M_X12_unit 117 [some (sl 6 0)] [] V (zv K) := fun c3 => by
      rw [if_neg c3] at hk
      refine w_X12_unit_117 (by omega) ?_
      refine h4 (d - 1) i nb V _ (by show 20 + 10 * (13 - o) + 4 ≤ d - 1; omega) h (by omega) (fun V1 m1 => ?_)
      cases w : prz (tkT t n) (lku tc nm) f 4 0 o i nb with
      | inl e =>
        rw [w] at m1
        rw [rsI_e w] at hk
        have D := MO.dead m1
        exact ⟨fun _ => w_X12_unit_142 (by omega) ⟨fun _ => hk V1 m1, fun q => absurd q D⟩, fun q => absurd q D⟩
      | inr q =>
        obtain ⟨i1, C1, N1⟩ := q
        obtain ⟨p1, p2, p3, p4⟩ := prs_ok (tlT t n) hi (by omega) (by omega) w
        rw [if_pos (by decide)] at p1
        rw [w] at m1
        rw [rsI_b w] at hk
        have m1 : MO V V1 p t n tc nm o i (.inr i1) := m1
        have s1 := m1.2.1
        have hk : ∀ V', MO V V' p t n tc nm o i (rsI (match rlo (tkT t n i1).1 with
          | none => .inl (rfe (tkT t n) i1)
          | some op => rsB (prz (tkT t n) (lku tc nm) f 4 0 o (i1 + 1) (nb + N1.length)) (fun i2 C2 N2 => rsO i2 (C1 ++ C2 ++ [(op, 0)]) (N1 ++ N2)))) → K V' := hk
        have yes : ∀ op, rlo (tkT t n i1).1 = some op → vwp E d M_X12_unit 142 [some (sl 6 0)] [] V1 (zv K) := fun op eo => by
          obtain ⟨_, o2, o3, o4⟩ := rlo_pos eo
          have o5 : (tkT t n i1).1 ≠ 2 := fun z => by rw [z] at eo; cases eo
          have l1 := s1.lt o2 o3
          rw [eo] at hk
          refine w_X12_unit_142 (by omega) ⟨fun q => absurd s1.2.1 q, fun _ => ms_keep hF (by omega) s1 o2 o3 (nuq_0 o4 o5) (fun V2 m2 => ?_)⟩
          have m12 := m1.tr m2
          refine h4 (d - 1) (i1 + 1) (nb + N1.length) V2 _ (by show 20 + 10 * (13 - o) + 4 ≤ d - 1; omega) m2.2.1 (by omega) (fun V3 m3 => hk V3 (m12.tr ?_))
          show MO V2 V3 p t n tc nm o (i1 + 1) (rsI (rsB (prz (tkT t n) (lku tc nm) f 4 0 o (i1 + 1) (nb + N1.length)) (fun i2 C2 N2 => rsO i2 (C1 ++ C2 ++ [(op, 0)]) (N1 ++ N2))))
          cases w2 : prz (tkT t n) (lku tc nm) f 4 0 o (i1 + 1) (nb + N1.length) with
          | inl e => rw [w2] at m3; exact m3
          | inr q2 => rw [w2] at m3; exact m3
        have no : rlo (tkT t n i1).1 = none → vMV E (d - 1) M_X12_failHere [sl 6 0] V1 (fun V5 => vwp E d M_X12_unit 142 [some (sl 6 0)] [] V5 (zv K)) := fun eo => by
          rw [eo] at hk
          exact ms_failHere (by omega) s1 (fun V5 m5 => w_X12_unit_142 (by omega) ⟨fun _ => hk V5 (m1.tr m5), fun q => absurd q m5.dead⟩)
        refine ⟨fun q => absurd s1.2.1 q, fun _ => ?_⟩
        have tv1 := vcd_lt (tkT_ok t n i1).1
        have eqr : ∀ m : Nat, m < 400 → (vI V1 6 0 41 = nI m ↔ (tkT t n i1).1 = m) := fun m hm => s1.is m (by omega)
        have y1 : ∀ op, rlo (tkT t n i1).1 = some op → vwp E (d - 1) M_X12_isRelation 38 [some (wi (vI V1 6 0 41))] [] V1 (zi (fun r3 V3 => (¬ r3 = 0 → vwp E d M_X12_unit 142 [some (sl 6 0)] [] V3 (zv K)) ∧ (r3 = 0 → vMV E (d - 1) M_X12_failHere [sl 6 0] V3 (fun V5 => vwp E d M_X12_unit 142 [some (sl 6 0)] [] V5 (zv K))))) := fun op eo => w_X12_isRelation_38 ⟨fun _ => yes op eo, fun q => absurd q (by decide)⟩
        refine w_X12_isRelation_0 ⟨fun q => y1 13 (by rw [(eqr 61 (by decide)).mp q]; rfl), fun a1 => ⟨fun q => y1 14 (by rw [(eqr 35 (by decide)).mp q]; rfl), fun a2 => ⟨fun q => y1 15 (by rw [(eqr 60 (by decide)).mp q]; rfl), fun a3 => ⟨fun q => y1 17 (by rw [(eqr 62 (by decide)).mp q]; rfl), fun a4 => ⟨fun q => y1 16 (by rw [(eqr 200 (by decide)).mp q]; rfl), fun a5 => ⟨fun a6 => ⟨fun q => absurd rfl q, fun _ => no ?_⟩, fun q => y1 18 (by rw [(eqr 201 (by decide)).mp q]; rfl)⟩⟩⟩⟩⟩⟩
        unfold rlo
        rw [if_neg (fun z => a1 ((eqr 61 (by decide)).mpr z)), if_neg (fun z => a2 ((eqr 35 (by decide)).mpr z)), if_neg (fun z => a3 ((eqr 60 (by decide)).mpr z)), if_neg (fun z => a5 ((eqr 200 (by decide)).mpr z)), if_neg (fun z => a4 ((eqr 62 (by decide)).mpr z)), if_neg (fun z => a6 ((eqr 201 (by decide)).mpr z))]
    refine ⟨fun q => plain (fun z => by have := d306.mp q; omega), fun q => ⟨fun q3 => plain (fun z => by have := d312.mp q3; omega), fun q3 => ?_⟩⟩
    have c3 : 306 ≤ (tkT t n i).1 ∧ (tkT t n i).1 ≤ 312 := ⟨by have := mt d306.mpr q; omega, by have := mt d312.mpr q3; omega⟩
    rw [if_pos c3] at hk
    exact ms_special hF (by omega) h c3.1 c3.2 hk
  · have c2 := e123.mp q2
    have c1 : ¬ (tkT t n i).1 = 126 := by omega
    rw [if_neg c1, if_pos c2] at hk
    have hlt := h.lt (by omega) (by omega)
    refine ms_opens (by omega) h (fun z V' m => ⟨fun _ => ?_, fun q => absurd rfl q⟩) (fun z V3 s3 f3 => ⟨fun q => absurd q (by decide), fun _ => ?_⟩)
    · rw [if_pos z] at hk; exact hk V' m
    · rw [if_neg z] at hk
      have m3 : MO V V3 p t n tc nm (o + 1) i (.inr i) := ⟨f3, s3, fun j a b => by omega, Nat.le_refl _⟩
      refine ms_keep hF (by omega) s3 (by omega) (by omega) (nuq_0 (by omega) (by omega)) (fun V5 m5 => ?_)
      have m35 := m3.tr m5
      refine hT z (d - 1) (i + 1) nb V5 _ (by show 20 + 10 * (13 - (o + 1)) + 8 ≤ d - 1; omega) m5.2.1 (by omega) (fun V7 m7 => ?_)
      refine ms_need2 (c := 125) hF (by omega) m7 rfl (by decide) (by decide) (fun V9 m9 V11 e11 => hk V11 ((m35.tr m9).cl e11 |> fun z => ?_))
      cases w : prz (tkT t n) (lku tc nm) f 0 0 (o + 1) (i + 1) nb with
      | inl e => rw [w] at z; exact z
      | inr q =>
        rw [w] at z
        show MO V V11 p t n tc nm o i (rsI (if (tkT t n q.1).1 = 125 then rsO (q.1 + 1) q.2.1 q.2.2 else .inl (rfe (tkT t n) q.1)))
        have z : MO V V11 p t n tc nm o i (nee (tkT t n) 125 q.1) := z
        unfold nee at z
        by_cases c : (tkT t n q.1).1 = 125
        · rw [if_pos c] at z ⊢; exact z
        · rw [if_neg c] at z ⊢; exact z
  · have c1 := e126.mp q1
    rw [if_pos c1] at hk
    have hlt := h.lt (by omega) (by omega)
    refine ms_opens (by omega) h (fun z V' m => ⟨fun _ => ?_, fun q => absurd rfl q⟩) (fun z V3 s3 f3 => ⟨fun q => absurd q (by decide), fun _ => ?_⟩)
    · rw [if_pos z] at hk; exact hk V' m
    · rw [if_neg z] at hk
      have m3 : MO V V3 p t n tc nm (o + 1) i (.inr i) := ⟨f3, s3, fun j a b => by omega, Nat.le_refl _⟩
      refine ms_keep hF (by omega) s3 (by omega) (by omega) (nuq_0 (by omega) (by omega)) (fun V5 m5 => ?_)
      have m35 := m3.tr m5
      refine h3 z (d - 1) (i + 1) nb V5 _ (by show 20 + 10 * (13 - (o + 1)) + 5 ≤ d - 1; omega) m5.2.1 (by omega) (fun V7 m7 => ?_)
      show ∀ V9, V9 = _ → K V9
      intro V9 e9
      have z := (m35.tr m7).cl e9
      refine hk V9 ?_
      cases w : prz (tkT t n) (lku tc nm) f 3 0 (o + 1) (i + 1) nb with
      | inl e => rw [w] at z; exact z
      | inr q => rw [w] at z; exact z
theorem br_91 {d : Nat} (hF : eFr E) (h0 : 12 < d) : ∀ (q k : Nat), k + q = 19 → StQ p t n tc nm o (fun V K => ∀ x3 : Int32, vwp E d M_X12_bracket 91 [some (sl 6 0), some (wi 316), some (wi (nI (k + 1))), some (wi x3)] [] V (zv (fun V3 => ∃ V1, V3 = wrI V1 6 0 48 (vI V1 6 0 48 - 1) ∧ K V1))) (fun a => thn (if q = 0 ∨ (tkT t n a).1 ≠ 44 then .inr a else nrI (nls (tkT t n) true 9999 q (a + 1))) (nee (tkT t n) 41)) := by
  have n41 : StQ p t n tc nm o (fun V K => ∀ x2 : Int32, vwp E d M_X12_bracket 132 [some (sl 6 0), some (wi 316), some (wi x2), none] [] V (zv (fun V3 => ∃ V1, V3 = wrI V1 6 0 48 (vI V1 6 0 48 - 1) ∧ K V1))) (nee (tkT t n) 41) := (st_need (E := E) (d := d - 1) (c := 41) (x := 41) hF (by omega) rfl (by decide) (by decide)).by_ (fun V K h x2 => w_X12_bracket_132 (by omega) (vMV.mono h (fun V1 h1 V3 e3 => ⟨V1, e3, h1⟩)))
  intro q
  induction q with
  | zero =>
    intro k e
    refine (n41.by_ (fun V K h x3 => ?_)).ex (fun i => by rw [if_pos (Or.inl rfl)]; rfl)
    exact w_X12_bracket_91 (by omega) ⟨fun _ => h _, fun _ => ⟨fun _ => h _, fun _ => ⟨fun _ => h _, fun z => absurd (nI_le (a := 20) (by omega) (by omega)) z⟩⟩⟩
  | succ q ih =>
    intro k e
    refine ⟨fun V i K hM hk x3 => ?_, fun V K hD hk x3 => w_X12_bracket_91 (by omega) ⟨fun _ => n41.2 V K hD hk _, fun z => absurd z hD⟩⟩
    dsimp only at hk
    have e44 := hM.is 44 (by decide)
    refine w_X12_bracket_91 (by omega) ⟨fun z => absurd hM.2.1 z, fun _ => ⟨fun z => ?_, fun z => ⟨fun z2 => absurd z2 (nI_ge (b := 20) (by omega) (by decide)), fun _ => ?_⟩⟩⟩
    · rw [if_pos (Or.inr (fun y => z (e44.mpr y)))] at hk
      exact n41.1 V i K hM hk _
    · have c := e44.mp z
      rw [if_neg (fun y => by rcases y with y | y; omega; exact y c)] at hk
      refine ms_keep hF (by omega) hM (by omega) (by omega) (nuq_0 (by omega) (by omega)) (fun V1 m1 => ?_)
      have s := (st_anInt (E := E) (d := d - 1) (p := p) (t := t) (n := n) (tc := tc) (nm := nm) (o := o) (hi := 9999) (y := 9999) hF (by omega) rfl (by decide)).seq (ih (k + 1) (by omega))
      have z2 := s.1 V1 (i + 1) K m1.2.1 (fun V2 m2 => hk V2 (m1.tr (by rw [nls_I, thn_assoc]; exact m2)))
      refine vMI.mono z2 (fun r V3 h3 => ?_)
      rw [nI_1]; exact h3 r
theorem prs_6b {M : MN} {i nb : Nat} {T : Nat → TK} (hw : 313 ≤ (T i).1) (hw2 : (T i).1 ≤ 316) : prz T M (f + 1) 6 0 o i nb = (if (T (i + 1)).1 = 40 then (if 12 ≤ o then rsE 7 (T (i + 1)).f else rsB (prz T M f 4 0 (o + 1) (i + 2) nb) (fun i1 C1 N1 =>
          if (T i).1 = 313 then (if (T i1).1 = 41 then rsO (i1 + 1) (C1 ++ [(4, 0)]) N1 else .inl (rfe T i1))
          else if (T i).1 = 316 then (if (T i1).1 = 58 then nrB (nls T true 9999 20 (i1 + 1)) (fun i2 xs => if (T i2).1 = 41 then rsO (i2 + 1) (C1 ++ [(7, nI (nb + N1.length))]) (N1 ++ nI xs.length :: xs) else .inl (rfe T i2)) else .inl (rfe T i1))
          else rsB (prz T M f (if (T i).1 = 314 then 17 else 18) 19 (o + 1) i1 (nb + N1.length)) (fun i2 C2 N2 => if (T i2).1 = 41 then rsO (i2 + 1) (C1 ++ C2) (N1 ++ N2) else .inl (rfe T i2))))
        else .inl (rfe T (i + 1))) := by
  rw [prs_6, if_neg (by omega), if_neg (by omega), if_neg (by omega), if_neg (by omega), if_neg (by omega), if_pos ⟨hw, hw2⟩]
theorem nee_I {T : Nat → TK} {c j : Nat} {C : CD} {N : List Int32} : rsI (if (T j).1 = c then rsO (j + 1) C N else .inl (rfe T j)) = nee T c j := by
  unfold nee
  by_cases z : (T j).1 = c
  · rw [if_pos z, if_pos z]; rfl
  · rw [if_neg z, if_neg z]; rfl
/-- a bracket: plain, or behind a word -/
theorem ms_bracket {wd d j nb : Nat} {V : VH} {K : VH → Prop} (hF : eFr E) (h4 : ¬ 12 ≤ o → PB E p t n tc nm f 4 0 (o + 1)) (h17 : ¬ 12 ≤ o → PB E p t n tc nm f 17 19 (o + 1)) (h18 : ¬ 12 ≤ o → PB E p t n tc nm f 18 19 (o + 1)) (hd : 20 + 10 * (13 - o) + 1 ≤ d) (h : MZ V p t n tc nm j o) (c40 : (tkT t n j).1 = 40) (hf : 8 * (tln t n - (j + 1)) + 3 < f) (hw : wd = 0 ∨ 313 ≤ wd ∧ wd ≤ 316)
    (h7 : 12 ≤ o → ∀ V', MO V V' p t n tc nm o j (.inl (7, (tkT t n j).f)) → K V')
    (hy : ¬ 12 ≤ o → ∀ V', MO V V' p t n tc nm o j (match prz (tkT t n) (lku tc nm) f 4 0 (o + 1) (j + 1) nb with
      | .inl e => .inl e
      | .inr q => if wd = 316 then thn (nee (tkT t n) 58 q.1) (fun a => thn (nrI (nls (tkT t n) true 9999 20 a)) (nee (tkT t n) 41)) else if wd = 314 ∨ wd = 315 then thn (rsI (prz (tkT t n) (lku tc nm) f (if wd = 314 then 17 else 18) 19 (o + 1) q.1 (nb + q.2.2.length))) (nee (tkT t n) 41) else nee (tkT t n) 41 q.1) → K V') : vMV E d M_X12_bracket [sl 6 0, wi (nI wd)] V K := by
  have ho := h.2.2.2.2.2.2
  have r4 : rnk 4 = 3 := rfl
  have eqw : ∀ m : Nat, m < 400 → (nI wd = nI m ↔ wd = m) := fun m hm => nI_eq (by omega) (by omega)
  have d4 := eqw 314 (by decide)
  have d5 := eqw 315 (by decide)
  have d6 := eqw 316 (by decide)
  have hlt := h.lt (by omega) (by omega)
  refine w_X12_bracket_0 (by omega) (ms_opens (by omega) h (fun z V' m => ⟨fun q => absurd rfl q, fun _ => h7 z V' m⟩) (fun z V1 s1 f1 => ⟨fun _ => ?_, fun q => absurd q (by decide)⟩))
  have m1 : MO V V1 p t n tc nm (o + 1) j (.inr j) := ⟨f1, s1, fun j a b => by omega, Nat.le_refl _⟩
  have hy := hy z
  refine ms_keep hF (by omega) s1 (by omega) (by omega) (nuq_0 (by omega) (by omega)) (fun V3 m3 => ?_)
  have m13 := m1.tr m3
  refine h4 z (d - 1) (j + 1) nb V3 _ (by show 20 + 10 * (13 - (o + 1)) + 4 ≤ d - 1; omega) m3.2.1 (by omega) (fun V5 m5 => ?_)
  -- the closing bracket
  have fin : ∀ (V9 : VH) (r : (Nat × Nat) ⊕ Nat) (x2 : Int32), MO V V9 p t n tc nm (o + 1) j r → (∀ V', MO V V' p t n tc nm o j (thn r (nee (tkT t n) 41)) → K V') → vwp E d M_X12_bracket 132 [some (sl 6 0), some (wi (nI wd)), some (wi x2), none] [] V9 (zv K) := fun V9 r x2 m hk => w_X12_bracket_132 (by omega) (ms_need2 (c := 41) hF (by omega) m rfl (by decide) (by decide) (fun V' m' V11 e11 => hk V11 (m'.cl e11)))
  cases w : prz (tkT t n) (lku tc nm) f 4 0 (o + 1) (j + 1) nb with
  | inl e =>
    rw [w] at m5 hy
    have D := MO.dead m5
    have mm : MO V V5 p t n tc nm (o + 1) j (.inl e) := m13.tr m5
    have l132 : ∀ x2 : Int32, vwp E d M_X12_bracket 132 [some (sl 6 0), some (wi (nI wd)), some (wi x2), none] [] V5 (zv K) := fun x2 => fin V5 (.inl e) x2 mm (fun V' m => hy V' m)
    refine w_X12_bracket_19 ⟨fun _ => w_X12_bracket_70 (by omega) ⟨fun _ => l132 _, fun _ => md_need (by omega) D (md_anInt (by omega) D (w_X12_bracket_91 (by omega) ⟨fun _ => l132 _, fun q => absurd q D⟩))⟩, fun q => absurd q D⟩
  | inr q =>
    obtain ⟨i1, C1, N1⟩ := q
    obtain ⟨p1, p2, p3, p4⟩ := prs_ok (tlT t n) (by omega) (by omega) (by omega) w
    rw [if_pos (by decide)] at p1
    rw [w] at m5 hy
    have m5 : MO V3 V5 p t n tc nm (o + 1) (j + 1) (.inr i1) := m5
    have mm := m13.tr m5
    have s5 := m5.2.1
    have hy : ∀ V', MO V V' p t n tc nm o j (if wd = 316 then thn (nee (tkT t n) 58 i1) (fun a => thn (nrI (nls (tkT t n) true 9999 20 a)) (nee (tkT t n) 41)) else if wd = 314 ∨ wd = 315 then thn (rsI (prz (tkT t n) (lku tc nm) f (if wd = 314 then 17 else 18) 19 (o + 1) i1 (nb + N1.length))) (nee (tkT t n) 41) else nee (tkT t n) 41 i1) → K V' := hy
    by_cases c4 : wd = 314 ∨ wd = 315
    · rw [if_neg (by omega), if_pos c4] at hy
      have ext : ∀ tg : Nat, (if wd = 314 then 17 else 18) = tg → (¬ 12 ≤ o → PB E p t n tc nm f tg 19 (o + 1)) → (tg = 17 ∧ wd = 314 ∨ tg = 18 ∧ wd = 315) → vwp E d M_X12_bracket 19 [some (sl 6 0), some (wi (nI wd)), some (wi 1), none] [] V5 (zv K) := fun tg et hP hw2 => by
        rw [et] at hy
        have rkE : rkD tg = 5 := by rcases hw2 with ⟨rfl, _⟩ | ⟨rfl, _⟩ <;> rfl
        have rnE : rnk tg = 0 := by rcases hw2 with ⟨rfl, _⟩ | ⟨rfl, _⟩ <;> rfl
        have m := hP z d i1 (nb + N1.length) V5 K (by rw [rkE]; omega) s5 (by omega) (fun V7 m7 => ?_)
        · rcases hw2 with ⟨rfl, rfl⟩ | ⟨rfl, rfl⟩ <;> exact m
        · have mm7 := mm.tr m7
          have l : ∀ x2 : Int32, vwp E d M_X12_bracket 70 [some (sl 6 0), some (wi (nI wd)), some (wi x2), none] [] V7 (zv K) := fun x2 => w_X12_bracket_70 (by omega) ⟨fun _ => fin V7 _ x2 mm7 hy, fun q => absurd (d6.mp q) (by omega)⟩
          rcases hw2 with ⟨rfl, rfl⟩ | ⟨rfl, rfl⟩ <;> exact l
      rcases c4 with c | c
      · exact ext 17 (by rw [if_pos c]) h17 (Or.inl ⟨rfl, c⟩)
      · exact ext 18 (by rw [if_neg (by omega)]) h18 (Or.inr ⟨rfl, c⟩)
    · refine w_X12_bracket_19 ⟨fun q => absurd s5.2.1 q, fun _ => ⟨fun q => absurd (Or.inl (d4.mp q)) c4, fun _ => ⟨fun _ => w_X12_bracket_70 (by omega) ⟨fun q => ?_, fun q => ?_⟩, fun q => absurd (Or.inr (d5.mp q)) c4⟩⟩⟩
      · rw [if_neg (fun y => q (d6.mpr y)), if_neg c4] at hy
        exact fin V5 (.inr i1) _ mm hy
      · have c6 := d6.mp q
        rw [if_pos c6] at hy
        subst c6
        have s := ((st_need (E := E) (d := d - 1) (p := p) (t := t) (n := n) (tc := tc) (nm := nm) (o := o + 1) (c := 58) (x := 58) hF (by omega) rfl (by decide) (by decide)).seq (st_anInt (E := E) (d := d - 1) (hi := 9999) (y := 9999) hF (by omega) rfl (by decide))).seq (br_91 (E := E) (d := d) hF (by omega) 19 0 (by omega))
        have z2 := s.1 V5 i1 (fun V1 => ∀ V3, V3 = wrI V1 6 0 48 (vI V1 6 0 48 - 1) → K V3) s5 (fun V' m' V11 e11 => hy V11 ((mm.tr m').cl e11 |> fun z3 => by
          dsimp only at z3
          rw [thn_assoc] at z3
          show MO V V11 p t n tc nm o j (thn (nee (tkT t n) 58 i1) (fun a => thn (nrI (nls (tkT t n) true 9999 20 a)) (nee (tkT t n) 41)))
          have e : ∀ a, nrI (nls (tkT t n) true 9999 20 a) = thn (nrI (nmr (tkT t n) true 0 9999 a)) (fun b => if 19 = 0 ∨ (tkT t n b).1 ≠ 44 then .inr b else nrI (nls (tkT t n) true 9999 19 (b + 1))) := fun a => nls_I
          have e2 : (fun a => thn (nrI (nls (tkT t n) true 9999 20 a)) (nee (tkT t n) 41)) = fun a => thn (nrI (nmr (tkT t n) true 0 9999 a)) (fun b => thn (if 19 = 0 ∨ (tkT t n b).1 ≠ 44 then .inr b else nrI (nls (tkT t n) true 9999 19 (b + 1))) (nee (tkT t n) 41)) := by
            funext a
            rw [e, thn_assoc]
          rw [e2]
          exact z3))
        refine vMV.mono z2 (fun V7 h7' => vMI.mono h7' (fun r V8 h8 => vwp.mono (h8 r) (fun ww V9 h9 => ?_)))
        obtain ⟨e9, V10, e10, h10⟩ := h9
        exact ⟨e9, h10 V9 e10⟩
theorem PB_factor (hF : eFr E) (h6 : ¬ 12 ≤ o → PB E p t n tc nm f 6 0 (o + 1)) (hT : ¬ 12 ≤ o → PB E p t n tc nm f 0 0 (o + 1)) (h4 : ¬ 12 ≤ o → PB E p t n tc nm f 4 0 (o + 1)) (h17 : ¬ 12 ≤ o → PB E p t n tc nm f 17 19 (o + 1)) (h18 : ¬ 12 ≤ o → PB E p t n tc nm f 18 19 (o + 1)) : PB E p t n tc nm (f + 1) 6 0 o := by
  intro d i nb V K hd h hf hk
  have rd : 20 + 10 * (13 - o) + 2 ≤ d := hd
  have r6 : rnk 6 = 1 := rfl
  have r0 : rnk 0 = 7 := rfl
  have hi := h.2.2.2.1
  have tv := vcd_lt (tkT_ok t n i).1
  have e2 := h.is 2 (by decide)
  have e1 := h.is 1 (by decide)
  have e45 := h.is 45 (by decide)
  have e40 := h.is 40 (by decide)
  have e91 := h.is 91 (by decide)
  show vMV E d M_X12_factor [sl 6 0] V K
  refine w_X12_factor_0 (by omega) ⟨fun _ => ⟨fun q2 => ⟨fun q1 => ⟨fun q45 => ⟨fun q40 => ?_, fun q40 => ?_⟩, fun q45 => ?_⟩, fun q1 => ?_⟩, fun q2 => ?_⟩, fun q => absurd h.2.1 q⟩
  · have c2 : ¬ (tkT t n i).1 = 2 := fun z => q2 (e2.mpr z)
    have c1 : ¬ (tkT t n i).1 = 1 := fun z => q1 (e1.mpr z)
    have c45 : ¬ (tkT t n i).1 = 45 := fun z => q45 (e45.mpr z)
    have c40 : ¬ (tkT t n i).1 = 40 := fun z => q40 (e40.mpr z)
    have d313 : vI V 6 0 41 < 313 ↔ (tkT t n i).1 < 313 := by rw [h.tok.1]; exact nI_ltI (b := 313) (by omega) (by decide)
    have d316 : 316 < vI V 6 0 41 ↔ 316 < (tkT t n i).1 := by rw [h.tok.1]; exact nI_ltI (a := 316) (by decide) (by omega)
    have l184 : ¬ (313 ≤ (tkT t n i).1 ∧ (tkT t n i).1 ≤ 316) → vwp E d M_X12_factor 184 [some (sl 6 0), none] [] V (zv K) := fun c3 => by
      rw [prs_6, if_neg c1, if_neg c2, if_neg c45, if_neg c40] at hk
      refine w_X12_factor_184 (by omega) ⟨fun q => ?_, fun q => ?_⟩
      · rw [if_neg (fun z => q (e91.mpr z)), if_neg c3] at hk
        exact ms_failHere (by omega) h hk
      · have c := e91.mp q
        rw [if_pos c] at hk
        have hlt := h.lt (by omega) (by omega)
        refine ms_opens (by omega) h (fun z V' m => ⟨fun _ => ?_, fun q => absurd rfl q⟩) (fun z V3 s3 f3 => ⟨fun q => absurd q (by decide), fun _ => ?_⟩)
        · rw [if_pos z] at hk; exact hk V' m
        · rw [if_neg z] at hk
          have m3 : MO V V3 p t n tc nm (o + 1) i (.inr i) := ⟨f3, s3, fun j a b => by omega, Nat.le_refl _⟩
          refine ms_keep hF (by omega) s3 (by omega) (by omega) (nuq_0 (by omega) (by omega)) (fun V5 m5 => ?_)
          have m35 := m3.tr m5
          refine hT z (d - 1) (i + 1) nb V5 _ (by show 20 + 10 * (13 - (o + 1)) + 8 ≤ d - 1; omega) m5.2.1 (by omega) (fun V7 m7 => ?_)
          refine ms_need2 (c := 93) hF (by omega) m7 rfl (by decide) (by decide) (fun V9 m9 V11 e11 => hk V11 ((m35.tr m9).cl e11 |> fun z => ?_))
          cases w : prz (tkT t n) (lku tc nm) f 0 0 (o + 1) (i + 1) nb with
          | inl e => rw [w] at z; exact z
          | inr q =>
            rw [w] at z
            show MO V V11 p t n tc nm o i (rsI (if (tkT t n q.1).1 = 93 then rsO (q.1 + 1) (q.2.1 ++ [(5, 0)]) q.2.2 else .inl (rfe (tkT t n) q.1)))
            rw [nee_I]
            exact z
    refine ⟨fun q => l184 (fun z => by have := d313.mp q; omega), fun q => ⟨fun q3 => l184 (fun z => by have := d316.mp q3; omega), fun q3 => ?_⟩⟩
    have c3 : 313 ≤ (tkT t n i).1 ∧ (tkT t n i).1 ≤ 316 := ⟨by have := mt d313.mpr q; omega, by have := mt d316.mpr q3; omega⟩
    have hlt := h.lt (by omega) (by omega)
    rw [prs_6b c3.1 c3.2] at hk
    refine ms_keep hF (by omega) h (by omega) (by omega) (nuq_0 c1 c2) (fun V1 m1 => ?_)
    have s1 := m1.2.1
    have f40 := s1.is 40 (by decide)
    refine ⟨fun y => ?_, fun y => ms_failHere (by omega) s1 (fun V5 m5 => w_X12_factor_181 (hk V5 ?_))⟩
    · have cc := f40.mp y
      rw [if_pos cc] at hk
      rw [h.tok.1]
      refine ms_bracket (wd := (tkT t n i).1) (nb := nb) hF h4 h17 h18 (by omega) s1 cc (by omega) (Or.inr c3) (fun z V' m => w_X12_factor_181 (hk V' ?_)) (fun z V' m => w_X12_factor_181 (hk V' ?_))
      · rw [if_pos z]
        exact m1.tr m
      · rw [if_neg z]
        have m2 := m1.tr m
        cases w : prz (tkT t n) (lku tc nm) f 4 0 (o + 1) (i + 1 + 1) nb with
        | inl e => rw [w] at m2; exact m2
        | inr q =>
          obtain ⟨i1, C1, N1⟩ := q
          rw [w] at m2
          have m2 : MO V V' p t n tc nm o i (if (tkT t n i).1 = 316 then thn (nee (tkT t n) 58 i1) (fun a => thn (nrI (nls (tkT t n) true 9999 20 a)) (nee (tkT t n) 41)) else if (tkT t n i).1 = 314 ∨ (tkT t n i).1 = 315 then thn (rsI (prz (tkT t n) (lku tc nm) f (if (tkT t n i).1 = 314 then 17 else 18) 19 (o + 1) i1 (nb + N1.length))) (nee (tkT t n) 41) else nee (tkT t n) 41 i1) := m2
          show MO V V' p t n tc nm o i (rsI (if (tkT t n i).1 = 313 then (if (tkT t n i1).1 = 41 then rsO (i1 + 1) (C1 ++ [(4, 0)]) N1 else .inl (rfe (tkT t n) i1))
            else if (tkT t n i).1 = 316 then (if (tkT t n i1).1 = 58 then nrB (nls (tkT t n) true 9999 20 (i1 + 1)) (fun i2 xs => if (tkT t n i2).1 = 41 then rsO (i2 + 1) (C1 ++ [(7, nI (nb + N1.length))]) (N1 ++ nI xs.length :: xs) else .inl (rfe (tkT t n) i2)) else .inl (rfe (tkT t n) i1))
            else rsB (prz (tkT t n) (lku tc nm) f (if (tkT t n i).1 = 314 then 17 else 18) 19 (o + 1) i1 (nb + N1.length)) (fun i2 C2 N2 => if (tkT t n i2).1 = 41 then rsO (i2 + 1) (C1 ++ C2) (N1 ++ N2) else .inl (rfe (tkT t n) i2))))
          by_cases c13 : (tkT t n i).1 = 313
          · rw [if_pos c13, nee_I]
            rw [if_neg (by omega), if_neg (by omega)] at m2
            exact m2
          · rw [if_neg c13]
            by_cases c16 : (tkT t n i).1 = 316
            · rw [if_pos c16]
              rw [if_pos c16] at m2
              unfold nee at m2
              by_cases c58 : (tkT t n i1).1 = 58
              · rw [if_pos c58]
                rw [if_pos c58] at m2
                have m2 : MO V V' p t n tc nm o i (thn (nrI (nls (tkT t n) true 9999 20 (i1 + 1))) (nee (tkT t n) 41)) := m2
                cases w2 : nls (tkT t n) true 9999 20 (i1 + 1) with
                | inl e => rw [w2] at m2; exact m2
                | inr q =>
                  rw [w2] at m2
                  rw [nrB_r]
                  show MO V V' p t n tc nm o i (rsI (if (tkT t n q.1).1 = 41 then _ else _))
                  rw [nee_I]
                  exact m2
              · rw [if_neg c58]
                rw [if_neg c58] at m2
                exact m2
            · rw [if_neg c16]
              rw [if_neg c16, if_pos (by omega)] at m2
              cases w2 : prz (tkT t n) (lku tc nm) f (if (tkT t n i).1 = 314 then 17 else 18) 19 (o + 1) i1 (nb + N1.length) with
              | inl e => rw [w2] at m2; exact m2
              | inr q =>
                rw [w2] at m2
                show MO V V' p t n tc nm o i (rsI (if (tkT t n q.1).1 = 41 then _ else _))
                rw [nee_I]
                exact m2
    · rw [if_neg (fun z => y (f40.mpr z))]
      exact m1.tr m5
  · have c40 := e40.mp q40
    have hlt := h.lt (by omega) (by omega)
    rw [prs_6, if_neg (by omega), if_neg (by omega), if_neg (by omega), if_pos c40] at hk
    refine ms_bracket (wd := 0) (nb := nb) hF h4 h17 h18 (by omega) h c40 (by omega) (Or.inl rfl) (fun z V' m => hk V' ?_) (fun z V' m => hk V' ?_)
    · rw [if_pos z]; exact m
    · rw [if_neg z]
      cases w : prz (tkT t n) (lku tc nm) f 4 0 (o + 1) (i + 1) nb with
      | inl e => rw [w] at m; exact m
      | inr q =>
        rw [w] at m
        show MO V V' p t n tc nm o i (rsI (if (tkT t n q.1).1 = 41 then _ else _))
        rw [nee_I]
        exact m
  · have c45 := e45.mp q45
    have hlt := h.lt (by omega) (by omega)
    rw [prs_6, if_neg (by omega), if_neg (by omega), if_pos c45] at hk
    refine ms_opens (by omega) h (fun z V' m => ⟨fun _ => ?_, fun q => absurd rfl q⟩) (fun z V3 s3 f3 => ⟨fun q => absurd q (by decide), fun _ => ?_⟩)
    · rw [if_pos z] at hk; exact hk V' m
    · rw [if_neg z] at hk
      have m3 : MO V V3 p t n tc nm (o + 1) i (.inr i) := ⟨f3, s3, fun j a b => by omega, Nat.le_refl _⟩
      refine ms_keep hF (by omega) s3 (by omega) (by omega) (nuq_0 (by omega) (by omega)) (fun V5 m5 => ?_)
      have m35 := m3.tr m5
      refine h6 z (d - 1) (i + 1) nb V5 _ (by show 20 + 10 * (13 - (o + 1)) + 2 ≤ d - 1; omega) m5.2.1 (by omega) (fun V7 m7 => ?_)
      show ∀ V9, V9 = _ → K V9
      intro V9 e9
      have z := (m35.tr m7).cl e9
      refine hk V9 ?_
      cases w : prz (tkT t n) (lku tc nm) f 6 0 (o + 1) (i + 1) nb with
      | inl e => rw [w] at z; exact z
      | inr q => rw [w] at z; exact z
  · have c1 := e1.mp q1
    rw [prs_6, if_pos c1] at hk
    refine ms_meaning (by omega) h c1 ?_
    have bad : ∀ x : Int32, (∀ V', MO V V' p t n tc nm o i (.inl (4, (tkT t n i).f)) → K V') → vwp E d M_X12_factor 55 [some (sl 6 0), some (wi x)] [] V (zv K) := fun x hk => w_X12_factor_55 (by omega) (ms_fail h rfl h.tok.2.1 (by decide) (by decide) (fun V' m => w_X12_factor_72 (hk V' m)))
    cases w : lku tc nm (tkT t n i).2.1 with
    | none =>
      rw [w] at hk
      exact ⟨fun _ => bad _ hk, fun z => absurd (show (-1 : Int32) < 0 by decide) z⟩
    | some q =>
      rw [w] at hk
      obtain ⟨l1, l2, l3⟩ := mn_lt w h.1.2.2.2
      have hk : ∀ V', MO V V' p t n tc nm o i (rsI (if q.1 = 0 then rsO (i + 1) [(1, nI q.2)] [] else if q.1 = 1 then rsO (i + 1) [(2, nI q.2)] [] else rsE 4 (tkT t n i).f)) → K V' := hk
      have d200 : nI (100 * q.1 + q.2) < 200 ↔ 100 * q.1 + q.2 < 200 := nI_ltI (b := 200) (by omega) (by decide)
      show (nI (100 * q.1 + q.2) < 0 → _) ∧ (¬ nI (100 * q.1 + q.2) < 0 → (nI (100 * q.1 + q.2) < 200 → _) ∧ _)
      refine ⟨fun z => absurd z (nI_pos (by omega)), fun _ => ⟨fun z => ?_, fun z => bad _ ?_⟩⟩
      · have a := d200.mp z
        refine ms_keep hF (by omega) h (by omega) (by omega) (nuq_1 c1 w) (fun V' m => w_X12_factor_72 (hk V' ?_))
        by_cases c : q.1 = 0
        · rw [if_pos c]; exact m
        · rw [if_neg c, if_pos (by omega)]; exact m
      · have a := mt d200.mpr z
        rw [if_neg (by omega), if_neg (by omega)] at hk
        exact hk
  · have c2 := e2.mp q2
    rw [prs_6, if_neg (by omega), if_pos c2] at hk
    rw [h.tok.2.2.2 c2]
    exact ms_keep hF (by omega) h (by omega) (by omega) (nuq_2 c2) (fun V' m => hk V' m)
theorem prsM (hF : eFr E) : ∀ (f tag x o : Nat), tgO tag → (tag ≤ 6 → x = 0) → (17 ≤ tag → x ≤ 19) → PB E p t n tc nm f tag x o := by
  intro f
  induction f with
  | zero => intro tag x o _ _ _ d i nb V K _ _ hf; exact absurd hf (Nat.not_lt_zero _)
  | succ f ih =>
    intro tag x o ht hx0 hx
    have i0 : ∀ o, PB E p t n tc nm f 0 0 o := fun o => ih 0 0 o (Or.inl (by decide)) (fun _ => rfl) (fun _ => by decide)
    have i1 : ∀ o, PB E p t n tc nm f 1 0 o := fun o => ih 1 0 o (Or.inl (by decide)) (fun _ => rfl) (fun _ => by decide)
    have i2 : ∀ o, PB E p t n tc nm f 2 0 o := fun o => ih 2 0 o (Or.inl (by decide)) (fun _ => rfl) (fun _ => by decide)
    have i3 : ∀ o, PB E p t n tc nm f 3 0 o := fun o => ih 3 0 o (Or.inl (by decide)) (fun _ => rfl) (fun _ => by decide)
    have i4 : ∀ o, PB E p t n tc nm f 4 0 o := fun o => ih 4 0 o (Or.inl (by decide)) (fun _ => rfl) (fun _ => by decide)
    have i5 : ∀ o, PB E p t n tc nm f 5 0 o := fun o => ih 5 0 o (Or.inl (by decide)) (fun _ => rfl) (fun _ => by decide)
    have i6 : ∀ o, PB E p t n tc nm f 6 0 o := fun o => ih 6 0 o (Or.inl (by decide)) (fun _ => rfl) (fun _ => by decide)
    have i11 : ∀ x o, PB E p t n tc nm f 11 x o := fun x o => ih 11 x o (by unfold tgO; omega) (fun z => by omega) (fun z => by omega)
    have i12 : ∀ x o, PB E p t n tc nm f 12 x o := fun x o => ih 12 x o (by unfold tgO; omega) (fun z => by omega) (fun z => by omega)
    have i14 : ∀ x o, PB E p t n tc nm f 14 x o := fun x o => ih 14 x o (by unfold tgO; omega) (fun z => by omega) (fun z => by omega)
    have i15 : ∀ x o, PB E p t n tc nm f 15 x o := fun x o => ih 15 x o (by unfold tgO; omega) (fun z => by omega) (fun z => by omega)
    have i17 : ∀ x, x ≤ 19 → ∀ o, PB E p t n tc nm f 17 x o := fun x q o => ih 17 x o (by unfold tgO; omega) (fun z => by omega) (fun _ => q)
    have i18 : ∀ x, x ≤ 19 → ∀ o, PB E p t n tc nm f 18 x o := fun x q o => ih 18 x o (by unfold tgO; omega) (fun z => by omega) (fun _ => q)
    have ht : tag = 0 ∨ tag = 1 ∨ tag = 2 ∨ tag = 3 ∨ tag = 4 ∨ tag = 5 ∨ tag = 6 ∨ tag = 11 ∨ tag = 12 ∨ tag = 14 ∨ tag = 15 ∨ tag = 17 ∨ tag = 18 := by unfold tgO at ht; omega
    rcases ht with rfl | rfl | rfl | rfl | rfl | rfl | rfl | rfl | rfl | rfl | rfl | rfl | rfl
    · have := hx0 (by decide); subst this
      exact PB_test hF (i1 o) (fun _ => i0 (o + 1))
    · have := hx0 (by decide); subst this
      exact PB_seq (tag := 1) (by omega) (i2 o) (i11 0 o) (fun d V K h0 h => w_X12_or_0 h0 h) (fun _ _ _ => rfl) (fun _ _ _ => rfl) (fun _ _ _ => rfl) (by decide) rfl
    · have := hx0 (by decide); subst this
      exact PB_seq (tag := 2) (by omega) (i3 o) (i12 0 o) (fun d V K h0 h => w_X12_and_0 h0 h) (fun _ _ _ => rfl) (fun _ _ _ => rfl) (fun _ _ _ => rfl) (by decide) rfl
    · have := hx0 (by decide); subst this
      exact PB_unit hF (fun _ => i3 (o + 1)) (fun _ => i0 (o + 1)) (i4 o)
    · have := hx0 (by decide); subst this
      exact PB_seq (tag := 4) (by omega) (i5 o) (i14 0 o) (fun d V K h0 h => w_X12_sum_0 h0 h) (fun _ _ _ => rfl) (fun _ _ _ => rfl) (fun _ _ _ => rfl) (by decide) rfl
    · have := hx0 (by decide); subst this
      exact PB_seq (tag := 5) (by omega) (i6 o) (i15 0 o) (fun d V K h0 h => w_X12_term_0 h0 h) (fun _ _ _ => rfl) (fun _ _ _ => rfl) (fun _ _ _ => rfl) (by decide) rfl
    · have := hx0 (by decide); subst this
      exact PB_factor hF (fun _ => i6 (o + 1)) (fun _ => i0 (o + 1)) (fun _ => i4 (o + 1)) (fun _ => i17 19 (by decide) (o + 1)) (fun _ => i18 19 (by decide) (o + 1))
    · exact PB_loop1 (tag := 11) (sg := 124) (op := 20) (sgn := 124) hF (by omega) (by decide) (by decide) (fun c => rfl) (i2 o) (fun x => i11 x o) (fun _ _ _ => rfl) (fun _ _ _ => rfl) (by decide) (fun d x x' V K h0 h => w_X12_or_4 h0 h) x
    · exact PB_loop1 (tag := 12) (sg := 38) (op := 19) (sgn := 38) hF (by omega) (by decide) (by decide) (fun c => rfl) (i3 o) (fun x => i12 x o) (fun _ _ _ => rfl) (fun _ _ _ => rfl) (by decide) (fun d x x' V K h0 h => w_X12_and_4 h0 h) x
    · exact PB_sumloop hF (i5 o) (fun x => i14 x o) x
    · exact PB_loop1 (tag := 15) (sg := 42) (op := 10) (sgn := 42) hF (by omega) (by decide) (by decide) (fun c => rfl) (i6 o) (fun x => i15 x o) (fun _ _ _ => rfl) (fun _ _ _ => rfl) (by decide) (fun d x x' V K h0 h => w_X12_term_4 h0 h) x
    · exact PB_ext (wd := 314) hF (Or.inl ⟨rfl, rfl, rfl⟩) (i4 o) (fun x q => i17 x q o) x (hx (by decide))
    · exact PB_ext (wd := 315) hF (Or.inr ⟨rfl, rfl, rfl⟩) (i4 o) (fun x q => i18 x q o) x (hx (by decide))
end
