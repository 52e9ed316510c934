/-! the class reads units and factors -/
section
variable {E : EE} {g : Nat} {T : Nat → TK} {L : Nat} {tc : Nat → Nat} {nm : Nat → Nat → Int64} {f o : Nat}
theorem PA_sumloop (h1 : PA E g T L tc nm f 5 0 o) (h2 : ∀ x, PA E g T L tc nm f 14 x o) (x : Nat) : PA E g T L tc nm (f + 1) 14 x o := by
  intro d i nb ub sv V y K hd h hn hu hf hc he hy
  have rd : 10 + 10 * (13 - o) + 4 ≤ d := hd
  have tl := h.1.2.2.2.2.2.1.1
  have hi := h.2.2.1
  have hL := h.1.2.2.2.2.2.1.2.1
  show vwp E d M_X5_sum 11 [some (sl 0 7), some (wi y), none] [] V (zi K)
  have round : ∀ op : Int32, lpo 14 (T i).1 = some op → ((T i).1 = 43 ∨ (T i).1 = 45) → vwp E d M_X5_sum 61 [some (sl 0 7), some (wi y), none] [wi op] V (zi K) := fun op hop hc2 => by
    have hlt := tl.lt hi (by omega) (by omega)
    obtain ⟨y1, y2⟩ := cnt_step hc (by omega)
    refine w_X5_sum_61 (by omega) ?_
    exact PA_round (tag := 14) (x := x) (by omega) h1 (h2 (x - 1)) (Or.inl (by omega)) (fun _ _ _ => rfl) (by decide) hd h hn hu hf y2 hop he hy ⟨by omega, by omega, by omega⟩
  by_cases c : (T i).1 = 43 ∨ (T i).1 = 45
  · have hlt := tl.lt hi (by omega) (by omega)
    obtain ⟨y1, y2⟩ := cnt_step hc (by omega)
    have l42 : vwp E d M_X5_sum 42 [some (sl 0 7), some (wi y), none] [] V (zi K) := by
      refine w_X5_sum_42 (by omega) (cs_is (c := 43) h (by decide) (by decide) ?_)
      by_cases c1 : (T i).1 = 43
      · rw [decide_eq_true c1]
        exact ⟨fun q => absurd q (by decide), fun _ => round 8 (by rw [c1]; rfl) c⟩
      · rw [decide_eq_false c1]
        have c2 : (T i).1 = 45 := by omega
        exact ⟨fun _ => round 9 (by rw [c2]; rfl) c, fun q => absurd rfl q⟩
    refine w_X5_sum_11 (by omega) ⟨fun q => absurd q y1, fun _ => cs_is (c := 43) h (by decide) (by decide) ?_⟩
    by_cases c1 : (T i).1 = 43
    · rw [decide_eq_true c1]
      exact ⟨fun _ => l42, fun q => absurd q (by decide)⟩
    · rw [decide_eq_false c1]
      have c2 : (T i).1 = 45 := by omega
      refine ⟨fun q => absurd rfl q, fun _ => cs_is (c := 45) h (by decide) (by decide) ?_⟩
      rw [decide_eq_true c2]
      exact ⟨fun q => absurd q (by decide), fun _ => l42⟩
  · have e : K 1 V := PA_stop (E := E) (tag := 14) (d := d) (K := K) (by omega) h (Or.inl (by
      show (if (T i).1 = 43 then some (8 : Int32) else if (T i).1 = 45 then some 9 else none) = none
      rw [if_neg (fun z => c (Or.inl z)), if_neg (fun z => c (Or.inr z))])) hy
    refine w_X5_sum_11 (by omega) ⟨fun _ => e, fun _ => cs_is (c := 43) h (by decide) (by decide) ?_⟩
    rw [decide_eq_false (fun z => c (Or.inl z))]
    refine ⟨fun q => absurd rfl q, fun _ => cs_is (c := 45) h (by decide) (by decide) ?_⟩
    rw [decide_eq_false (fun z => c (Or.inr z))]
    exact ⟨fun _ => e, fun q => absurd rfl q⟩
theorem PA_ext {tag : Nat} {op : Int32} (ht : tag = 17 ∧ op = 11 ∨ tag = 18 ∧ op = 12) (h1 : PA E g T L tc nm f 4 0 o) (h2 : ∀ x, x ≤ 19 → PA E g T L tc nm f tag x o) (x : Nat) (hx : x ≤ 19) : PA E g T L tc nm (f + 1) tag x o := by
  intro d i nb ub sv V y K hd h hn hu hf hc he hy
  have tl := h.1.2.2.2.2.2.1.1
  have hi := h.2.2.1
  have hL := h.1.2.2.2.2.2.1.2.1
  have rd : 10 + 10 * (13 - o) + 5 ≤ d := by rcases ht with ⟨rfl, _⟩ | ⟨rfl, _⟩ <;> exact hd
  have mE : ∀ (x : Nat) (y : Int32) (V : VH), vwp E d M_X5_extreme 27 [some (sl 0 7), some (wi op), some (wi (nI (20 - x)))] [] V (zi K) → mA E d tag x y V K := fun x y V q => by rcases ht with ⟨rfl, rfl⟩ | ⟨rfl, rfl⟩ <;> exact q
  have mE' : ∀ (x : Nat) (y : Int32) (V : VH), mA E d tag x y V K → vwp E d M_X5_extreme 27 [some (sl 0 7), some (wi op), some (wi (nI (20 - x)))] [] V (zi K) := fun x y V q => by rcases ht with ⟨rfl, rfl⟩ | ⟨rfl, rfl⟩ <;> exact q
  have sE : ∀ V : VH, sA E d tag V K → ∀ z : Int32, vwp E d M_X5_extreme 77 [some (sl 0 7), some (wi op), some (wi z)] [] V (zi K) := fun V q => by rcases ht with ⟨rfl, rfl⟩ | ⟨rfl, rfl⟩ <;> exact q
  have lE : ∀ c, lpo tag c = if c = 44 then some op else none := fun c => by rcases ht with ⟨rfl, rfl⟩ | ⟨rfl, rfl⟩ <;> rfl
  have lS : lps tag = 4 := by rcases ht with ⟨rfl, rfl⟩ | ⟨rfl, rfl⟩ <;> rfl
  have stop : (lpo tag (T i).1 = none ∨ ¬ (tag ≤ 15 ∨ x ≠ 0)) → ∀ z : Int32, vwp E d M_X5_extreme 77 [some (sl 0 7), some (wi op), some (wi z)] [] V (zi K) := fun z => sE V (PA_stop (E := E) (d := d) (K := K) (by omega) h z hy)
  apply mE x y
  refine w_X5_extreme_27 (by omega) ⟨fun q => ?_, fun q => cs_is (c := 44) h (by decide) (by decide) ?_⟩
  · have : 20 ≤ 20 - x := (nI_leI (a := 20) (by decide) (by omega)).mp q
    exact stop (Or.inr (by omega)) _
  · have x0 : x ≠ 0 := fun z => q (by rw [z]; exact nI_le (a := 20) (by omega) (by omega))
    by_cases c : (T i).1 = 44
    · rw [decide_eq_true c]
      refine ⟨fun q => absurd q (by decide), fun _ => ?_⟩
      have z := PA_round (tag := tag) (x := x) (op := op) (y := 0) (by omega) (by rw [lS]; exact h1) (h2 (x - 1) (by omega)) (Or.inr x0) (fun _ _ _ => by rw [lS]; rfl) (by rw [lS]; rcases ht with ⟨rfl, _⟩ | ⟨rfl, _⟩ <;> decide) hd h hn hu hf ⟨1, by omega, rfl⟩ (by rw [lE, if_pos c]) he hy ⟨by omega, by omega, by omega⟩
      rw [lS] at z
      refine vMV.mono z (fun V3 z3 => vMI.mono z3 (fun r5 V5 z5 => ⟨fun q5 => ⟨(z5.1 q5).1, vMI.mono (z5.1 q5).2 (fun r8 V8 z8 => ?_)⟩, z5.2⟩))
      have z8 := mE' (x - 1) (0 + 1) V8 z8
      rw [show nI (20 - x) + 1 = nI (20 - (x - 1)) from by rw [nI_1]; congr 1; omega]
      exact z8
    · rw [decide_eq_false c]
      exact ⟨fun _ => stop (Or.inl (by rw [lE, if_neg c])) _, fun q => absurd rfl q⟩
theorem prs_3 {M : MN} {x i nb : Nat} : prz T M (f + 1) 3 x o i nb = (if (T i).1 = 126 then (if 12 ≤ o then rsE 7 (T i).f else rsB (prz T M f 3 0 (o + 1) (i + 1) nb) (fun i1 C N => rsO i1 (C ++ [(6, 0)]) N))
     else if (T i).1 = 123 then (if 12 ≤ o then rsE 7 (T i).f else rsB (prz T M f 0 0 (o + 1) (i + 1) nb) (fun i1 C N => if (T i1).1 = 125 then rsO (i1 + 1) C N else .inl (rfe T i1)))
     else if 306 ≤ (T i).1 ∧ (T i).1 ≤ 312 then spc T M nb i
     else rsB (prz T M f 4 0 o i nb) (fun i1 C1 N1 => match rlo (T i1).1 with
       | none => .inl (rfe T i1)
       | some op => rsB (prz T M f 4 0 o (i1 + 1) (nb + N1.length)) (fun i2 C2 N2 => rsO i2 (C1 ++ C2 ++ [(op, 0)]) (N1 ++ N2)))) := by
  rw [prz, prq, if_neg (by decide), if_pos rfl]
  by_cases c1 : (T i).1 = 126
  · rw [if_pos c1, if_pos c1]
  rw [if_neg c1, if_neg c1]
  by_cases c2 : (T i).1 = 123
  · rw [if_pos c2, if_pos c2]
  rw [if_neg c2, if_neg c2]
  by_cases c3 : 306 ≤ (T i).1 ∧ (T i).1 ≤ 312
  · rw [if_pos c3, if_pos c3]
  rw [if_neg c3, if_neg c3]
  congr 1
theorem cs_comparison {d i nb ub : Nat} {sv : Int32} {V : VH} {K : Int32 → VH → Prop} (h0 : 0 < d) (h : CS V g T L tc nm i o nb ub sv) (hn : rlo (T i).1 = none → K (-1) V) (hy : ∀ op, rlo (T i).1 = some op → K op V) : vMI E d M_X5_comparison [sl 0 7] V K := by
  unfold rlo at hn hy
  refine w_X5_comparison_0 h0 (cs_is (c := 61) h (by decide) (by decide) ?_)
  by_cases c1 : (T i).1 = 61
  · rw [decide_eq_true c1]; rw [if_pos c1] at hy
    exact ⟨fun q => absurd q (by decide), fun _ => hy 13 rfl⟩
  rw [decide_eq_false c1]; rw [if_neg c1] at hy hn
  refine ⟨fun _ => cs_is (c := 35) h (by decide) (by decide) ?_, fun q => absurd rfl q⟩
  by_cases c2 : (T i).1 = 35
  · rw [decide_eq_true c2]; rw [if_pos c2] at hy
    exact ⟨fun q => absurd q (by decide), fun _ => hy 14 rfl⟩
  rw [decide_eq_false c2]; rw [if_neg c2] at hy hn
  refine ⟨fun _ => cs_is (c := 60) h (by decide) (by decide) ?_, fun q => absurd rfl q⟩
  by_cases c3 : (T i).1 = 60
  · rw [decide_eq_true c3]; rw [if_pos c3] at hy
    exact ⟨fun q => absurd q (by decide), fun _ => hy 15 rfl⟩
  rw [decide_eq_false c3]; rw [if_neg c3] at hy hn
  refine ⟨fun _ => cs_is (c := 200) h (by decide) (by decide) ?_, fun q => absurd rfl q⟩
  by_cases c4 : (T i).1 = 200
  · rw [decide_eq_true c4]; rw [if_pos c4] at hy
    exact ⟨fun q => absurd q (by decide), fun _ => hy 16 rfl⟩
  rw [decide_eq_false c4]; rw [if_neg c4] at hy hn
  refine ⟨fun _ => cs_is (c := 62) h (by decide) (by decide) ?_, fun q => absurd rfl q⟩
  by_cases c5 : (T i).1 = 62
  · rw [decide_eq_true c5]; rw [if_pos c5] at hy
    exact ⟨fun q => absurd q (by decide), fun _ => hy 17 rfl⟩
  rw [decide_eq_false c5]; rw [if_neg c5] at hy hn
  refine ⟨fun _ => cs_is (c := 201) h (by decide) (by decide) ?_, fun q => absurd rfl q⟩
  by_cases c6 : (T i).1 = 201
  · rw [decide_eq_true c6]; rw [if_pos c6] at hy
    exact ⟨fun q => absurd q (by decide), fun _ => hy 18 rfl⟩
  rw [decide_eq_false c6]; rw [if_neg c6] at hn
  exact ⟨fun _ => hn rfl, fun q => absurd rfl q⟩
theorem rlo_pos {c : Nat} {op : Int32} (h : rlo c = some op) : 0 ≤ op ∧ c ≠ 0 ∧ c ≠ 3 ∧ c ≠ 1 := by
  unfold rlo at h
  split at h
  · cases h; exact ⟨by decide, by omega, by omega, by omega⟩
  · split at h
    · cases h; exact ⟨by decide, by omega, by omega, by omega⟩
    · split at h
      · cases h; exact ⟨by decide, by omega, by omega, by omega⟩
      · split at h
        · cases h; exact ⟨by decide, by omega, by omega, by omega⟩
        · split at h
          · cases h; exact ⟨by decide, by omega, by omega, by omega⟩
          · split at h
            · cases h; exact ⟨by decide, by omega, by omega, by omega⟩
            · cases h
/-- the marks of special tests -/
theorem CS.spec {i nb ub : Nat} {sv : Int32} {V : VH} (h : CS V g T L tc nm i o nb ub sv) : (vI V 0 2 6 = 4 ∧ ¬ vJ V 0 2 7 < 6 ∧ ¬ 12 < vJ V 0 2 7) ↔ 306 ≤ (T i).1 ∧ (T i).1 ≤ 312 := by
  obtain ⟨_, t2, t3, _⟩ := h.tok
  have vc := (h.1.2.2.2.2.2.1.2.2 i).1
  have lt := vcd_lt vc
  have nLlt : ∀ a b : Nat, a < 100000 → b < 100000 → (nL a < nL b ↔ a < b) := fun a b ha hb => by
    rw [Int64.lt_iff_toInt_lt]
    show (Int64.ofNat a).toInt < (Int64.ofNat b).toInt ↔ _
    rw [Int64.toInt_ofNat_of_lt (by omega), Int64.toInt_ofNat_of_lt (by omega)]
    omega
  rw [t2, clK_4]
  constructor
  · rintro ⟨a, b, c⟩
    rw [t3 (by omega), clX_m a] at b c
    have l1 := clM_lt (T i).1 lt
    have b := mt (nLlt (clM (T i).1) 6 (by omega) (by omega)).mpr b
    have c := mt (nLlt 12 (clM (T i).1) (by omega) (by omega)).mpr c
    unfold clM at b c
    by_cases q : 300 ≤ (T i).1
    · rw [if_pos q] at b c; omega
    · rw [if_neg q] at b c
      have v := of_decide_eq_true vc
      split at c
      · omega
      · split at c
        · omega
        · split at c
          · omega
          · split at c <;> omega
  · rintro ⟨a, b⟩
    have m : clM (T i).1 = (T i).1 - 300 := by unfold clM; rw [if_pos (by omega)]
    refine ⟨by omega, ?_, ?_⟩
    · rw [t3 (by omega), clX_m (by omega), m]
      exact fun z => absurd ((nLlt _ 6 (by omega) (by omega)).mp z) (by omega)
    · rw [t3 (by omega), clX_m (by omega), m]
      exact fun z => absurd ((nLlt 12 _ (by omega) (by omega)).mp z) (by omega)
theorem PA_unit (hF : eFr E) (h3 : ¬ 12 ≤ o → PA E g T L tc nm f 3 0 (o + 1)) (hT : ¬ 12 ≤ o → PA E g T L tc nm f 0 0 (o + 1)) (h4 : PA E g T L tc nm f 4 0 o) : PA E g T L tc nm (f + 1) 3 0 o := by
  intro d i nb ub sv V y K hd h hn hu hf hc he hy
  have rd : 10 + 10 * (13 - o) + 5 ≤ d := hd
  have r3 : rnk 3 = 4 := rfl
  have r0 : rnk 0 = 7 := rfl
  have r4 : rnk 4 = 3 := rfl
  have tl := h.1.2.2.2.2.2.1.1
  have hi := h.2.2.1
  have hL := h.1.2.2.2.2.2.1.2.1
  rw [prs_3] at he hy
  show vMI E d M_X5_unit [sl 0 7] V K
  refine w_X5_unit_0 (by omega) (cs_is (c := 126) h (by decide) (by decide) ?_)
  by_cases c1 : (T i).1 = 126
  · rw [decide_eq_true c1]
    rw [if_pos c1] at he hy
    have hlt := tl.lt hi (by omega) (by omega)
    refine ⟨fun q => absurd q (by decide), fun _ => cs_enter (c := 126) (by omega) h (by decide) (by decide) (fun z => absurd c1 z) (fun _ z V' r f => ⟨fun _ => he _ (by rw [if_pos z]; rfl) V' r f, fun q => absurd rfl q⟩) (fun _ z V1 r1 k1 a1 => ⟨fun q => absurd q (by decide), fun _ => ?_⟩)⟩
    rw [if_neg z] at he hy
    refine h3 z (d - 1) (i + 1) nb ub sv V1 0 _ (by show 10 + 10 * (13 - (o + 1)) + 5 ≤ d - 1; omega) k1 (by omega) (by omega) (by omega) ⟨0, Nat.zero_le _, rfl⟩ (fun e z2 V' r f => ⟨fun q => absurd rfl q, fun _ => he e (by rw [z2]; rfl) V' (r1.trans r) f⟩) (fun i1 C N z2 V3 r3' k3 a3 b3 => ?_)
    obtain ⟨p1, p2, p3, p4⟩ := prs_ok tl (by omega) (by omega) (by omega) z2
    rw [if_pos (by decide)] at p1
    show (¬ (1 : Int32) = 0 → _) ∧ _
    refine ⟨fun _ V9 e9 => ?_, fun q => absurd q (by decide)⟩
    obtain ⟨r9, k9, a9⟩ := k3.less e9
    rw [k9.1.2.1]
    refine ⟨k9.1.2.2.1, cs_emit (by omega) k9 (by omega) (fun V11 r11 k11 a11 => ⟨Or.inr rfl, ?_⟩)⟩
    refine hy i1 (C ++ [(6, 0)]) N (by rw [z2]; rfl) V11 (((r1.trans r3').trans r9).trans r11) ?_ ?_ (by omega)
    · rw [svx_l (by omega) (by omega)] at k11
      rw [List.length_append, show ub + 2 * (C.length + [((6 : Int32), (0 : Int32))].length) = ub + 2 * C.length + 2 from by show ub + 2 * (C.length + 1) = _; omega]
      exact k11
    · have t1 := (a1.trans a3).ex (C' := C) (N' := N) rfl rfl
      have t2 := (t1.trans a9).ex (C' := C) (N' := N) (List.append_nil _) (List.append_nil _)
      exact (t2.trans a11).ex rfl (List.append_nil _)
  rw [decide_eq_false c1]
  rw [if_neg c1] at he hy
  refine ⟨fun _ => cs_is (c := 123) h (by decide) (by decide) ?_, fun q => absurd rfl q⟩
  by_cases c2 : (T i).1 = 123
  · rw [decide_eq_true c2]
    rw [if_pos c2] at he hy
    have hlt := tl.lt hi (by omega) (by omega)
    refine ⟨fun q => absurd q (by decide), fun _ => cs_enter (c := 123) (by omega) h (by decide) (by decide) (fun z => absurd c2 z) (fun _ z V' r f => ⟨fun _ => he _ (by rw [if_pos z]; rfl) V' r f, fun q => absurd rfl q⟩) (fun _ z V1 r1 k1 a1 => ⟨fun q => absurd q (by decide), fun _ => ?_⟩)⟩
    rw [if_neg z] at he hy
    refine hT z (d - 1) (i + 1) nb ub sv V1 0 _ (by show 10 + 10 * (13 - (o + 1)) + 8 ≤ d - 1; omega) k1 (by omega) (by omega) (by omega) ⟨0, Nat.zero_le _, rfl⟩ (fun e z2 V' r f => ⟨fun _ => he e (by rw [z2]; rfl) V' (r1.trans r) f, fun q => absurd rfl q⟩) (fun i1 C N z2 V3 r3' k3 a3 b3 => ?_)
    obtain ⟨p1, p2, p3, p4⟩ := prs_ok tl (by omega) (by omega) (by omega) z2
    rw [if_pos (by decide)] at p1
    rw [z2, rsB_r] at he hy
    show ((1 : Int32) = 0 → _) ∧ _
    refine ⟨fun q => absurd q (by decide), fun _ => cs_leave (c := 125) (by omega) k3 (by decide) (by decide) (fun z3 V' r f => ⟨fun _ => he _ (by rw [if_neg z3]) V' ((r1.trans r3').trans r) f, fun q => absurd rfl q⟩) (fun z3 V5 r5 k5 a5 => ⟨fun q => absurd q (by decide), fun _ => ?_⟩)⟩
    refine hy (i1 + 1) C N (by rw [if_pos z3]; rfl) V5 ((r1.trans r3').trans r5) ?_ ?_ (by omega)
    · rw [svx_l (by omega) (by omega), ← svx_r (T := T) (M := lku tc nm) (i := i) (k := i1) (by omega) (by omega)] at k5
      exact k5
    · have t1 := (a1.trans a3).ex (C' := C) (N' := N) rfl rfl
      exact (t1.trans a5).ex (List.append_nil _) (List.append_nil _)
  rw [decide_eq_false c2]
  rw [if_neg c2] at he hy
  refine ⟨fun _ => ?_, fun q => absurd rfl q⟩
  have sp := h.spec
  have plain : ¬ (306 ≤ (T i).1 ∧ (T i).1 ≤ 312) → vwp E d M_X5_unit 209 [some (sl 0 7), none] [] V (zi K) := fun c3 => by
    rw [if_neg c3] at he hy
    refine w_X5_unit_209 (by omega) ?_
    refine h4 (d - 1) i nb ub sv V 0 _ (by show 10 + 10 * (13 - o) + 4 ≤ d - 1; omega) h hn hu (by omega) ⟨0, Nat.zero_le _, rfl⟩ (fun e z V' r f => ⟨fun q => absurd rfl q, fun _ => he e (by rw [z]; rfl) V' r f⟩) (fun i1 C1 N1 z V1 r1 k1 a1 b1 => ?_)
    obtain ⟨p1, p2, p3, p4⟩ := prs_ok tl hi (by omega) (by omega) z
    rw [if_pos (by decide)] at p1
    rw [z, rsB_r] at he hy
    show (¬ (1 : Int32) = 0 → _) ∧ _
    refine ⟨fun _ => cs_comparison (by omega) k1 (fun q => ?_) (fun op q => ?_), fun q => absurd q (by decide)⟩
    · refine ⟨fun z2 => absurd z2 (by decide), fun _ => cs_refuse k1 (fun V' r f => ⟨Or.inl rfl, he _ (by rw [q]) V' (r1.trans r) f⟩)⟩
    · obtain ⟨o1, o2, o3, o4⟩ := rlo_pos q
      have hlt := tl.lt p2 o2 o3
      refine ⟨fun _ => cs_step k1 o2 o3 (fun V5 r5 k5 a5 => ?_), fun z2 => absurd o1 z2⟩
      rw [q] at he hy
      refine h4 (d - 1) (i1 + 1) (nb + N1.length) (ub + 2 * C1.length) _ V5 0 _ (by show 10 + 10 * (13 - o) + 4 ≤ d - 1; omega) k5 (by omega) (by omega) (by omega) ⟨0, Nat.zero_le _, rfl⟩ (fun e z2 V' r f => ⟨fun _ => he e (by show rsB _ _ = _; rw [z2]; rfl) V' ((r1.trans r5).trans r) f, fun q => absurd rfl q⟩) (fun i2 C2 N2 z2 V7 r7 k7 a7 b7 => ?_)
      obtain ⟨w1, w2, w3, w4⟩ := prs_ok tl (by omega) (by omega) (by omega) z2
      rw [if_pos (by decide)] at w1
      show ((1 : Int32) = 0 → _) ∧ _
      refine ⟨fun q => absurd q (by decide), fun _ => ?_⟩
      rw [k7.1.2.1]
      refine ⟨k7.1.2.2.1, cs_emit (by omega) k7 (by omega) (fun V10 r10 k10 a10 => ⟨fun q => absurd q (by decide), fun _ => ?_⟩)⟩
      refine hy i2 (C1 ++ C2 ++ [(op, 0)]) (N1 ++ N2) (by show rsB _ _ = _; rw [z2]; rfl) V10 (((r1.trans r5).trans r7).trans r10) ?_ ?_ (by omega)
      · have e1 : (sv ||| svx T (lku tc nm) i i1) ||| svx T (lku tc nm) (i1 + 1) i2 = sv ||| svx T (lku tc nm) i i2 := by
          rw [← svx_r (T := T) (M := lku tc nm) (i := i) (k := i1) o4 (by omega), Int32.or_assoc, svx_tr (by omega) (by omega)]
        rw [e1] at k10
        rw [List.length_append, List.length_append, List.length_append, show nb + (N1.length + N2.length) = nb + N1.length + N2.length from by omega, show ub + 2 * (C1.length + C2.length + [(op, (0 : Int32))].length) = ub + 2 * C1.length + 2 * C2.length + 2 from by show ub + 2 * (C1.length + C2.length + 1) = _; omega]
        exact k10
      · have t := ((a1.trans a5).ex (C' := C1) (N' := N1) (List.append_nil _) (List.append_nil _)).trans a7
        have t3 := t.trans (C2 := [(op, 0)]) (N2 := []) (V2 := V10) (by rw [List.length_append, List.length_append, show ub + 2 * (C1.length + C2.length) = ub + 2 * C1.length + 2 * C2.length from by omega, show nb + (N1.length + N2.length) = nb + N1.length + N2.length from by omega]; exact a10)
        exact t3.ex rfl (List.append_nil _)
  refine ⟨fun q => plain (fun c3 => q (sp.mpr c3).1), fun q => ⟨fun q2 => plain (fun c3 => (sp.mpr c3).2.1 q2), fun q2 => ⟨fun q3 => plain (fun c3 => (sp.mpr c3).2.2 q3), fun q3 => ?_⟩⟩⟩
  have c3 := sp.mp ⟨q, q2, q3⟩
  rw [if_pos c3] at he hy
  have hlt := tl.lt hi (by omega) (by omega)
  have eop : ((22 : Int32) + Int64.toInt32 (vJ V 0 2 7)) - 6 = nI ((T i).1 - 284) := by
    rw [h.tok.2.2.1 (by omega), clX_m (by omega), l2i_nL]
    have m : clM (T i).1 = (T i).1 - 300 := by unfold clM; rw [if_pos (by omega)]
    rw [m, show (22 : Int32) = nI 22 from rfl, nI_add, show (6 : Int32) = nI 6 from rfl, nI_sub (by omega), show 22 + ((T i).1 - 300) - 6 = (T i).1 - 284 from by omega]
  refine cs_step h (by omega) (by omega) (fun V5 r5 k5 a5 => ?_)
  rw [k5.1.2.1, eop, k5.2.2.2.2.2.2.1.1]
  refine ⟨k5.1.2.2.1, cs_emit (by omega) k5 (by omega) (fun V8 r8 k8 a8 => ?_)⟩
  unfold spc at he hy
  refine cs_accept (c := 40) (by omega) k8 (by decide) (by decide) (fun z V' r f => ⟨fun _ => he _ (by rw [if_neg z]) V' ((r5.trans r8).trans r) f, fun q => absurd rfl q⟩) (fun z V11 r11 k11 a11 => ⟨fun q => absurd q (by decide), fun _ => ?_⟩)
  rw [if_pos z] at he hy
  refine cs_lists (w := (T i).1) hF (by omega) k11 (by omega) c3.1 c3.2 (fun e z2 V' r f => ⟨fun _ => he e (by rw [z2]; rfl) V' (((r5.trans r8).trans r11).trans r) f, fun q => absurd rfl q⟩) (fun i1 N z2 V14 r14 k14 a14 b14 => ⟨fun q => absurd q (by decide), fun _ => ?_⟩)
  rw [z2, nrB_r] at he hy
  refine cs_accept (c := 41) (by omega) k14 (by decide) (by decide) (fun z3 V' r f => ⟨fun _ => he _ (by show (if (T i1).1 = 41 then _ else _) = _; rw [if_neg z3]) V' ((((r5.trans r8).trans r11).trans r14).trans r) f, fun q => absurd rfl q⟩) (fun z3 V17 r17 k17 a17 => ⟨fun q => absurd q (by decide), fun _ => ?_⟩)
  refine hy (i1 + 1) [(nI ((T i).1 - 284), nI nb)] N (by show (if (T i1).1 = 41 then _ else _) = _; rw [if_pos z3]; rfl) V17 ((((r5.trans r8).trans r11).trans r14).trans r17) ?_ ?_ (by omega)
  · have e1 : svx T (lku tc nm) (i + 1 + 1) i1 = svx T (lku tc nm) i (i1 + 1) := by
      rw [svx_l (by omega) (by omega), svx_l (by omega) (by omega), svx_r (by omega) (by omega)]
    rw [e1] at k17
    exact k17
  · have t1 := (a5.trans a8).ex (C' := [(nI ((T i).1 - 284), nI nb)]) (N' := []) rfl rfl
    have t2 := (t1.trans a11).ex (C' := [(nI ((T i).1 - 284), nI nb)]) (N' := []) rfl rfl
    have t3 := (t2.trans a14).ex (C' := [(nI ((T i).1 - 284), nI nb)]) (N' := N) rfl rfl
    exact (t3.trans a17).ex rfl (List.append_nil _)
end
