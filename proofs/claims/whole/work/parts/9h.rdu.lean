/-! the class reads factors; all together -/
section
variable {E : EE} {g : Nat} {T : Nat → TK} {L : Nat} {tc : Nat → Nat} {nm : Nat → Nat → Int64} {f o : Nat}
theorem prs_6 {M : MN} {x i nb : Nat} : prz T M (f + 1) 6 x o i nb = (if (T i).1 = 1 then (match M (T i).2.1 with
       | some q => if q.1 = 0 then rsO (i + 1) [(1, nI q.2)] [] else if q.1 = 1 then rsO (i + 1) [(2, nI q.2)] [] else rsE 4 (T i).f
       | none => rsE 4 (T i).f)
     else if (T i).1 = 2 then rsO (i + 1) [(0, nI (T i).2.2.1)] []
     else if (T i).1 = 45 then (if 12 ≤ o then rsE 7 (T i).f else rsB (prz T M f 6 0 (o + 1) (i + 1) nb) (fun i1 C N => rsO i1 (C ++ [(3, 0)]) N))
     else if (T i).1 = 40 then (if 12 ≤ o then rsE 7 (T i).f else rsB (prz T M f 4 0 (o + 1) (i + 1) nb) (fun i1 C N => if (T i1).1 = 41 then rsO (i1 + 1) C N else .inl (rfe T i1)))
     else if (T i).1 = 91 then (if 12 ≤ o then rsE 7 (T i).f else rsB (prz T M f 0 0 (o + 1) (i + 1) nb) (fun i1 C N => if (T i1).1 = 93 then rsO (i1 + 1) (C ++ [(5, 0)]) N else .inl (rfe T i1)))
     else if 313 ≤ (T i).1 ∧ (T i).1 ≤ 316 then
       (if (T (i + 1)).1 = 40 then (if 12 ≤ o then rsE 7 (T (i + 1)).f else rsB (prz T M f 4 0 (o + 1) (i + 2) nb) (fun i1 C1 N1 =>
          if (T i).1 = 313 then (if (T i1).1 = 41 then rsO (i1 + 1) (C1 ++ [(4, 0)]) N1 else .inl (rfe T i1))
          else if (T i).1 = 316 then (if (T i1).1 = 58 then nrB (nls T true 9999 20 (i1 + 1)) (fun i2 xs => if (T i2).1 = 41 then rsO (i2 + 1) (C1 ++ [(7, nI (nb + N1.length))]) (N1 ++ nI xs.length :: xs) else .inl (rfe T i2)) else .inl (rfe T i1))
          else rsB (prz T M f (if (T i).1 = 314 then 17 else 18) 19 (o + 1) i1 (nb + N1.length)) (fun i2 C2 N2 => if (T i2).1 = 41 then rsO (i2 + 1) (C1 ++ C2) (N1 ++ N2) else .inl (rfe T i2))))
        else .inl (rfe T (i + 1)))
     else .inl (rfe T i)) := by
  rw [prz, prq, if_neg (by decide), if_neg (by decide), if_pos rfl]
  by_cases c1 : (T i).1 = 1
  · rw [if_pos c1, if_pos c1]
    cases M (T i).2.1 <;> rfl
  rw [if_neg c1, if_neg c1]
theorem cs_named {d i nb ub : Nat} {sv : Int32} {V : VH} {K : Int32 → VH → Prop} (h0 : 2 < d) (h : CS V g T L tc nm i o nb ub sv) (hu : ub + 4 ≤ 2 * i) (c1 : (T i).1 = 1)
    (he : (∀ q, lku tc nm (T i).2.1 = some q → q.1 ≠ 0 ∧ q.1 ≠ 1) → ∀ V', Rdf V V' g → Flt V' (4, (T i).f) → K 0 V')
    (hy : ∀ q op, lku tc nm (T i).2.1 = some q → (q.1 = 0 ∧ op = 1 ∨ q.1 = 1 ∧ op = 2) → ∀ V', Rdf V V' g → CS V' g T L tc nm (i + 1) o nb (ub + 2) (sv ||| svx T (lku tc nm) i (i + 1)) → Apd V V' g ub nb [(op, nI q.2)] [] → K 1 V') : vMI E d M_X5_namedFactor [sl 0 7] V K := by
  have hx := h.1
  refine w_X5_namedFactor_0 (by omega) ?_
  rw [hx.1, h.key c1]
  refine ⟨hx.2.2.1, c_lookUp hx.2.2.1 hx.2.2.2.2.2.2 ?_⟩
  cases w : lku tc nm (T i).2.1 with
  | none =>
    refine ⟨fun z => absurd z (by decide), fun _ => w_X5_namedFactor_27 (by omega) ⟨fun _ => ⟨fun _ => cs_fail h rfl h.tok.2.2.2.1 (fun V' a b => ⟨Or.inl rfl, he (fun q z => by rw [w] at z; cases z) V' a b⟩), fun z => absurd z (by decide)⟩, fun z => absurd z (by decide)⟩⟩
  | some q =>
    obtain ⟨l1, l2, _⟩ := lku_lt w
    have l3 := (hx.2.2.2.2.2.2.1 q.1 l1).2
    obtain ⟨d1, d2⟩ := lk_div (s := q.1) (k := q.2) l1 (by omega)
    refine ⟨fun _ => ?_, fun z => absurd (Int32.not_lt.mp (nI_pos (show 24 * q.1 + q.2 < 2 ^ 31 by omega))) z⟩
    show vwp E d M_X5_namedFactor 27 [some (sl 0 7), some (wi (nI (24 * q.1 + q.2))), none, none] [wi (nI (24 * q.1 + q.2) / 24)] V (zi K)
    refine w_X5_namedFactor_27 (by omega) ?_
    rw [d2, d1]
    have e1 : nI q.1 = 1 ↔ q.1 = 1 := nI_eq (b := 1) (by omega) (by decide)
    have e0 : nI q.1 = 0 ↔ q.1 = 0 := nI_eq (b := 0) (by omega) (by decide)
    have eb : q.1 = 1 → svx T (lku tc nm) i (i + 1) = 1 <<< (nI q.2 &&& 31) := fun c2 => by
      rw [svx_1]
      unfold vbt
      rw [if_pos c1, w]
      show (if q.1 = 1 then _ else _) = _
      rw [if_pos c2]
    have en : q.1 ≠ 1 → svx T (lku tc nm) i (i + 1) = 0 := fun c2 => by
      rw [svx_1]
      unfold vbt
      rw [if_pos c1, w]
      show (if q.1 = 1 then _ else _) = _
      rw [if_neg c2]
    refine ⟨fun z0 => ⟨fun z1 => cs_fail h rfl h.tok.2.2.2.1 (fun V' a b => ⟨Or.inl rfl, he (fun q' z => by
      rw [w] at z; cases z; exact ⟨fun y => z0 (e0.mpr y), fun y => z1 (e1.mpr y)⟩) V' a b⟩), fun z1 => ?_⟩, fun z0 => ?_⟩
    · have c2 := e1.mp z1
      rw [hx.2.1]
      refine ⟨hx.2.2.1, cs_emit (by omega) h (by omega) (fun V4 r4 k4 a4 => w_X5_namedFactor_84 ⟨fun y => absurd z1 y, fun _ V5 e5 => ?_⟩)⟩
      obtain ⟨r5, k5, a5⟩ := k4.seen e5
      refine w_X5_namedFactor_101 (by omega) (cs_step k5 (by omega) (by omega) (fun V6 r6 k6 a6 => hy q 2 w (Or.inr ⟨c2, rfl⟩) V6 ((r4.trans r5).trans r6) ?_ ((a4.trans a5).trans a6)))
      rw [eb c2]
      rw [k4.2.2.2.2.2.1] at k6
      exact k6
    · have c2 := e0.mp z0
      rw [hx.2.1]
      refine ⟨hx.2.2.1, cs_emit (by omega) h (by omega) (fun V8 r8 k8 a8 => w_X5_namedFactor_84 ⟨fun _ => w_X5_namedFactor_101 (by omega) (cs_step k8 (by omega) (by omega) (fun V6 r6 k6 a6 => hy q 1 w (Or.inl ⟨c2, rfl⟩) V6 (r8.trans r6) ?_ (a8.trans a6))), fun y => absurd (e1.mp y) (by omega)⟩)⟩
      rw [en (by omega), Int32.or_zero]
      exact k6
theorem PA_factor (h6 : ¬ 12 ≤ o → PA E g T L tc nm f 6 0 (o + 1)) (hT : ¬ 12 ≤ o → PA E g T L tc nm f 0 0 (o + 1)) (h4 : ¬ 12 ≤ o → PA E g T L tc nm f 4 0 (o + 1)) (h17 : ¬ 12 ≤ o → PA E g T L tc nm f 17 19 (o + 1)) (h18 : ¬ 12 ≤ o → PA E g T L tc nm f 18 19 (o + 1)) : PA E g T L tc nm (f + 1) 6 0 o := by
  intro d i nb ub sv V y K hd h hn hu hf hc he hy
  have rd : 10 + 10 * (13 - o) + 2 ≤ d := hd
  have ho := h.2.2.2.2.1
  have r6 : rnk 6 = 1 := rfl
  have r0 : rnk 0 = 7 := rfl
  have r4 : rnk 4 = 3 := rfl
  have r17 : rnk 17 = 0 := rfl
  have r18 : rnk 18 = 0 := rfl
  have tl := h.1.2.2.2.2.2.1.1
  have hi := h.2.2.1
  have hL := h.1.2.2.2.2.2.1.2.1
  obtain ⟨t1, t2, t3, t4, t5⟩ := h.tok
  rw [prs_6] at he hy
  show vMI E d M_X5_factor [sl 0 7] V K
  refine w_X5_factor_0 (by omega) ⟨fun q2 => ⟨fun q3 => ?_, fun q3 => ?_⟩, fun q2 => ?_⟩
  rotate_left
  · -- a number
    have c2 : (T i).1 = 2 := clK_3.mp (t2.symm.trans q3)
    rw [if_neg (by omega), if_pos c2] at hy
    have hlt := tl.lt hi (by omega) (by omega)
    have ek : Int64.toInt32 (vJ V 0 2 7) = nI (T i).2.2.1 := by
      rw [t3 (by omega)]
      unfold clX
      rw [if_neg (by omega), if_pos c2]
      exact l2i_nL
    rw [h.1.2.1, ek]
    refine ⟨h.1.2.2.1, cs_emit (by omega) h (by omega) (fun V1 r1 k1 a1 => cs_step k1 (by omega) (by omega) (fun V2 r2 k2 a2 => hy (i + 1) [(0, nI (T i).2.2.1)] [] rfl V2 (r1.trans r2) ?_ (a1.trans a2) (by omega)))⟩
    rw [svx_1, vbt_0 (by omega), Int32.or_zero]
    exact k2
  · -- a name
    have c1 : (T i).1 = 1 := clK_2.mp (t2.symm.trans q2)
    rw [if_pos c1] at he hy
    refine cs_named (by omega) h hu c1 (fun z V' r f => ⟨Or.inl rfl, he (4, (T i).f) ?_ V' r f⟩) (fun q op z z2 V' r k a => ⟨Or.inr rfl, ?_⟩)
    · cases w : lku tc nm (T i).2.1 with
      | none => rfl
      | some q =>
        obtain ⟨a, b⟩ := z q w
        show (if q.1 = 0 then _ else if q.1 = 1 then _ else _) = _
        rw [if_neg a, if_neg b]; rfl
    · refine hy (i + 1) [(op, nI q.2)] [] ?_ V' r k a (by omega)
      rw [z]
      show (if q.1 = 0 then _ else if q.1 = 1 then _ else _) = _
      rcases z2 with ⟨b0, rfl⟩ | ⟨b0, rfl⟩
      · rw [if_pos b0]; rfl
      · rw [if_neg (by omega), if_pos b0]; rfl
  have c1 : ¬ (T i).1 = 1 := fun z => q2 (t2.trans (clK_2.mpr z))
  have c2 : ¬ (T i).1 = 2 := fun z => q3 (t2.trans (clK_3.mpr z))
  rw [if_neg c1, if_neg c2] at he hy
  refine cs_is (c := 45) h (by decide) (by decide) ?_
  by_cases c3 : (T i).1 = 45
  · rw [decide_eq_true c3]
    rw [if_pos c3] at he hy
    have hlt := tl.lt hi (by omega) (by omega)
    refine ⟨fun q => absurd q (by decide), fun _ => cs_enter (c := 45) (by omega) h (by decide) (by decide) (fun z => absurd c3 z) (fun _ z V' r f => ⟨fun _ => he _ (by rw [if_pos z]; rfl) V' r f, fun q => absurd rfl q⟩) (fun _ z V1 r1 k1 a1 => ⟨fun q => absurd q (by decide), fun _ => ?_⟩)⟩
    rw [if_neg z] at he hy
    refine h6 z (d - 1) (i + 1) nb ub sv V1 0 _ (by show 10 + 10 * (13 - (o + 1)) + 2 ≤ d - 1; omega) k1 (by omega) (by omega) (by omega) ⟨0, Nat.zero_le _, rfl⟩ (fun e z2 V' r f => ⟨fun q => absurd rfl q, fun _ => he e (by rw [z2]; rfl) V' (r1.trans r) f⟩) (fun i1 C N z2 V3 r3' k3 a3 b3 => ?_)
    obtain ⟨p1, p2, p3, p4⟩ := prs_ok tl (by omega) (by omega) (by omega) z2
    rw [if_pos (by decide)] at p1
    show (¬ (1 : Int32) = 0 → _) ∧ _
    refine ⟨fun _ V9 e9 => ?_, fun q => absurd q (by decide)⟩
    obtain ⟨r9, k9, a9⟩ := k3.less e9
    rw [k9.1.2.1]
    refine ⟨k9.1.2.2.1, cs_emit (by omega) k9 (by omega) (fun V11 r11 k11 a11 => ⟨Or.inr rfl, ?_⟩)⟩
    refine hy i1 (C ++ [(3, 0)]) N (by rw [z2]; rfl) V11 (((r1.trans r3').trans r9).trans r11) ?_ ?_ (by omega)
    · rw [svx_l c1 (by omega)] at k11
      rw [List.length_append, show ub + 2 * (C.length + [((3 : Int32), (0 : Int32))].length) = ub + 2 * C.length + 2 from by show ub + 2 * (C.length + 1) = _; omega]
      exact k11
    · have t1 := (a1.trans a3).ex (C' := C) (N' := N) rfl rfl
      have t2 := (t1.trans a9).ex (C' := C) (N' := N) (List.append_nil _) (List.append_nil _)
      exact (t2.trans a11).ex rfl (List.append_nil _)
  rw [decide_eq_false c3]
  rw [if_neg c3] at he hy
  refine ⟨fun _ => cs_is (c := 40) h (by decide) (by decide) ?_, fun q => absurd rfl q⟩
  by_cases c4 : (T i).1 = 40
  · rw [decide_eq_true c4]
    rw [if_pos c4] at he hy
    have hlt := tl.lt hi (by omega) (by omega)
    refine ⟨fun q => absurd q (by decide), fun _ => cs_enter (c := 40) (by omega) h (by decide) (by decide) (fun z => absurd c4 z) (fun _ z V' r f => ⟨fun _ => he _ (by rw [if_pos z]; rfl) V' r f, fun q => absurd rfl q⟩) (fun _ z V1 r1 k1 a1 => ⟨fun q => absurd q (by decide), fun _ => ?_⟩)⟩
    rw [if_neg z] at he hy
    refine h4 z (d - 1) (i + 1) nb ub sv V1 0 _ (by show 10 + 10 * (13 - (o + 1)) + 4 ≤ d - 1; omega) k1 (by omega) (by omega) (by omega) ⟨0, Nat.zero_le _, rfl⟩ (fun e z2 V' r f => ⟨fun _ => he e (by rw [z2]; rfl) V' (r1.trans r) f, fun q => absurd rfl q⟩) (fun i1 C N z2 V3 r3' k3 a3 b3 => ?_)
    obtain ⟨p1, p2, p3, p4⟩ := prs_ok tl (by omega) (by omega) (by omega) z2
    rw [if_pos (by decide)] at p1
    rw [z2, rsB_r] at he hy
    show ((1 : Int32) = 0 → _) ∧ _
    refine ⟨fun q => absurd q (by decide), fun _ => cs_leave (c := 41) (by omega) k3 (by decide) (by decide) (fun z3 V' r f => ⟨fun _ => he _ (by rw [if_neg z3]) V' ((r1.trans r3').trans r) f, fun q => absurd rfl q⟩) (fun z3 V5 r5 k5 a5 => ⟨fun q => absurd q (by decide), fun _ => ?_⟩)⟩
    refine hy (i1 + 1) C N (by rw [if_pos z3]; rfl) V5 ((r1.trans r3').trans r5) ?_ ?_ (by omega)
    · rw [svx_l c1 (by omega), ← svx_r (T := T) (M := lku tc nm) (i := i) (k := i1) (by omega) (by omega)] at k5
      exact k5
    · have t1 := (a1.trans a3).ex (C' := C) (N' := N) rfl rfl
      exact (t1.trans a5).ex (List.append_nil _) (List.append_nil _)
  rw [decide_eq_false c4]
  rw [if_neg c4] at he hy
  refine ⟨fun _ => cs_is (c := 91) h (by decide) (by decide) ?_, fun q => absurd rfl q⟩
  by_cases c5 : (T i).1 = 91
  · rw [decide_eq_true c5]
    rw [if_pos c5] at he hy
    have hlt := tl.lt hi (by omega) (by omega)
    refine ⟨fun q => absurd q (by decide), fun _ => cs_enter (c := 91) (by omega) h (by decide) (by decide) (fun z => absurd c5 z) (fun _ z V' r f => ⟨fun _ => he _ (by rw [if_pos z]; rfl) V' r f, fun q => absurd rfl q⟩) (fun _ z V1 r1 k1 a1 => ⟨fun q => absurd q (by decide), fun _ => ?_⟩)⟩
    rw [if_neg z] at he hy
    refine hT z (d - 1) (i + 1) nb ub sv V1 0 _ (by show 10 + 10 * (13 - (o + 1)) + 8 ≤ d - 1; omega) k1 (by omega) (by omega) (by omega) ⟨0, Nat.zero_le _, rfl⟩ (fun e z2 V' r f => ⟨fun _ => he e (by rw [z2]; rfl) V' (r1.trans r) f, fun q => absurd rfl q⟩) (fun i1 C N z2 V3 r3' k3 a3 b3 => ?_)
    obtain ⟨p1, p2, p3, p4⟩ := prs_ok tl (by omega) (by omega) (by omega) z2
    rw [if_pos (by decide)] at p1
    rw [z2, rsB_r] at he hy
    show ((1 : Int32) = 0 → _) ∧ _
    refine ⟨fun q => absurd q (by decide), fun _ => cs_leave (c := 93) (by omega) k3 (by decide) (by decide) (fun z3 V' r f => ⟨fun _ => he _ (by rw [if_neg z3]) V' ((r1.trans r3').trans r) f, fun q => absurd rfl q⟩) (fun z3 V5 r5 k5 a5 => ⟨fun q => absurd q (by decide), fun _ => ?_⟩)⟩
    rw [k5.1.2.1]
    refine ⟨k5.1.2.2.1, cs_emit (by omega) k5 (by omega) (fun V7 r7 k7 a7 => ⟨fun q => absurd q (by decide), fun _ => ?_⟩)⟩
    refine hy (i1 + 1) (C ++ [(5, 0)]) N (by rw [if_pos z3]; rfl) V7 (((r1.trans r3').trans r5).trans r7) ?_ ?_ (by omega)
    · rw [svx_l c1 (by omega), ← svx_r (T := T) (M := lku tc nm) (i := i) (k := i1) (by omega) (by omega)] at k7
      rw [List.length_append, show ub + 2 * (C.length + [((5 : Int32), (0 : Int32))].length) = ub + 2 * C.length + 2 from by show ub + 2 * (C.length + 1) = _; omega]
      exact k7
    · have t1 := (a1.trans a3).ex (C' := C) (N' := N) rfl rfl
      have t2 := (t1.trans a5).ex (C' := C) (N' := N) (List.append_nil _) (List.append_nil _)
      exact (t2.trans a7).ex rfl (List.append_nil _)
  rw [decide_eq_false c5]
  rw [if_neg c5] at he hy
  refine ⟨fun _ => ?_, fun q => absurd rfl q⟩
  -- words: what all of them begin with
  have word : ∀ (W : Nat), (T i).1 = W → 313 ≤ W → W ≤ 316 → ∀ (K' : Int32 → VH → Prop), (∀ e, (if (T (i + 1)).1 = 40 then (if 12 ≤ o then rsE 7 (T (i + 1)).f else rsB (prz T (lku tc nm) f 4 0 (o + 1) (i + 2) nb) (fun i1 C1 N1 =>
          if (T i).1 = 313 then (if (T i1).1 = 41 then rsO (i1 + 1) (C1 ++ [(4, 0)]) N1 else .inl (rfe T i1))
          else if (T i).1 = 316 then (if (T i1).1 = 58 then nrB (nls T true 9999 20 (i1 + 1)) (fun i2 xs => if (T i2).1 = 41 then rsO (i2 + 1) (C1 ++ [(7, nI (nb + N1.length))]) (N1 ++ nI xs.length :: xs) else .inl (rfe T i2)) else .inl (rfe T i1))
          else rsB (prz T (lku tc nm) f (if (T i).1 = 314 then 17 else 18) 19 (o + 1) i1 (nb + N1.length)) (fun i2 C2 N2 => if (T i2).1 = 41 then rsO (i2 + 1) (C1 ++ C2) (N1 ++ N2) else .inl (rfe T i2))))
        else .inl (rfe T (i + 1)) : RS) = .inl e → ∀ V', Rdf V V' g → Flt V' e → K' 0 V') →
      (∀ (i1 : Nat) (C1 : CD) (N1 : List Int32) (V5 : VH), (T (i + 1)).1 = 40 → ¬ 12 ≤ o → prz T (lku tc nm) f 4 0 (o + 1) (i + 2) nb = .inr (i1, C1, N1) → Rdf V V5 g → CS V5 g T L tc nm i1 (o + 1) (nb + N1.length) (ub + 2 * C1.length) (sv ||| svx T (lku tc nm) i i1) → Apd V V5 g ub nb C1 N1 → i + 3 ≤ i1 → i1 ≤ L → C1.length + (i + 2) ≤ i1 → N1.length + (i + 2) ≤ i1 → K' 1 V5) →
      ∀ (D : Nat), 9 + 10 * (13 - o) + 1 ≤ D → vMV E D M_X10_step [sl 0 2] V (fun V1 => vMI E D M_X5_enter [sl 0 7, wi 40] V1 (fun r3 V3 => (r3 = 0 → K' 0 V3) ∧ (¬ r3 = 0 → vMI E D M_X5_sum [sl 0 7] V3 (fun r5 V5 => (r5 = 0 → K' 0 V5) ∧ (¬ r5 = 0 → K' 1 V5))))) := fun W hW w1 w2 K' heK hyK D hD => by
    have hlt := tl.lt hi (by omega) (by omega)
    refine cs_step h (by omega) (by omega) (fun V1 r1 k1 a1 => ?_)
    refine cs_enter (c := 40) (by omega) k1 (by decide) (by decide) (fun z V' r f => ⟨fun _ => heK _ (by rw [if_neg z]) V' (r1.trans r) f, fun q => absurd rfl q⟩) (fun z z2 V' r f => ⟨fun _ => heK _ (by rw [if_pos z, if_pos z2]; rfl) V' (r1.trans r) f, fun q => absurd rfl q⟩) (fun z z2 V3 r3 k3 a3 => ⟨fun q => absurd q (by decide), fun _ => ?_⟩)
    have i2L := k3.2.2.1
    refine h4 z2 D (i + 2) nb ub sv V3 0 _ (by show 10 + 10 * (13 - (o + 1)) + 4 ≤ D; omega) k3 (by omega) (by omega) (by omega) ⟨0, Nat.zero_le _, rfl⟩ (fun e z3 V' r f => ⟨fun _ => heK e (by rw [if_pos z, if_neg z2, z3]; rfl) V' ((r1.trans r3).trans r) f, fun q => absurd rfl q⟩) (fun i1 C N z3 V5 r5 k5 a5 b5 => ?_)
    obtain ⟨p1, p2, p3, p4⟩ := prs_ok tl i2L (by omega) (by omega) z3
    rw [if_pos (by decide)] at p1
    show ((1 : Int32) = 0 → _) ∧ _
    refine ⟨fun q => absurd q (by decide), fun _ => hyK i1 C N V5 z z2 z3 ((r1.trans r3).trans r5) ?_ (((a1.trans a3).trans a5).ex rfl rfl) (by omega) p2 (by omega) (by omega)⟩
    have e1 : svx T (lku tc nm) (i + 2) i1 = svx T (lku tc nm) i i1 := by
      rw [show i + 2 = (i + 1) + 1 from rfl, svx_l (by omega) (by omega), svx_l c1 (by omega)]
    rw [e1] at k5
    exact k5
  have exm : ∀ (W tg : Nat) (op : Int32), (T i).1 = W → (W = 314 ∧ tg = 17 ∧ op = 11 ∨ W = 315 ∧ tg = 18 ∧ op = 12) → (¬ 12 ≤ o → PA E g T L tc nm f tg 19 (o + 1)) → vMI E (d - 1) M_X5_extreme [sl 0 7, wi op] V (fun r35 V35 => bz r35 ∧ K r35 V35) := fun W tg op hW hw hP => by
    have wW : 313 ≤ (T i).1 ∧ (T i).1 ≤ 316 := by omega
    rw [if_pos wW] at he hy
    have w313 : ¬ (T i).1 = 313 := by omega
    have w316 : ¬ (T i).1 = 316 := by omega
    have eT : (if (T i).1 = 314 then 17 else 18) = tg := by
      rcases hw with ⟨a, b, _⟩ | ⟨a, b, _⟩
      · rw [if_pos (by omega), b]
      · rw [if_neg (by omega), b]
    refine w_X5_extreme_0 (by omega) ?_
    refine vMV.mono (word W hW (by omega) (by omega) (fun r5 V5 => (¬ r5 = 0 → vwp E (d - 1) M_X5_extreme 27 [some (sl 0 7), some (wi op), some (wi 1)] [] V5 (zi (fun r35 V35 => bz r35 ∧ K r35 V35))) ∧ (r5 = 0 → bz 0 ∧ K 0 V5)) (fun e z V' r f => ⟨fun q => absurd rfl q, fun _ => ⟨Or.inl rfl, he e z V' r f⟩⟩) (fun i1 C1 N1 V5 z z2 z3 r5 k5 a5 b1 b2 b3 b4 => ⟨fun _ => ?_, fun q => absurd q (by decide)⟩) (d - 1 - 1) (by omega)) (fun V1 q1 => vMI.mono q1 (fun r3 V3 q3 => ⟨fun z => (q3.1 z).2 rfl, fun z => vMI.mono (q3.2 z) (fun r5 V5 q5 => ⟨fun z5 => (q5.2 z5).1 (by decide), fun z5 => (q5.1 z5).2 rfl⟩)⟩))
    rw [if_pos z, if_neg z2, z3, rsB_r, if_neg w313, if_neg w316, eT] at he hy
    have rkE : rkD tg = 5 := by rcases hw with ⟨_, rfl, _⟩ | ⟨_, rfl, _⟩ <;> rfl
    have rnE : rnk tg = 0 := by rcases hw with ⟨_, rfl, _⟩ | ⟨_, rfl, _⟩ <;> rfl
    have m := hP z2 (d - 1) i1 (nb + N1.length) (ub + 2 * C1.length) _ V5 0 (fun r35 V35 => bz r35 ∧ K r35 V35) (by rw [rkE]; omega) k5 (by omega) (by omega) (by omega) ⟨0, Nat.zero_le _, rfl⟩ (fun e z4 V' r f => ⟨Or.inl rfl, he e (by rw [z4]; rfl) V' (r5.trans r) f⟩) (fun i2 C2 N2 z4 V7 r7 k7 a7 b7 => ?_)
    · rcases hw with ⟨_, rfl, rfl⟩ | ⟨_, rfl, rfl⟩ <;> exact m
    · obtain ⟨p1, p2, p3, p4⟩ := prs_ok tl b2 (by omega) (by omega) z4
      rw [z4, rsB_r] at he hy
      have fin : ∀ zz : Int32, vwp E (d - 1) M_X5_extreme 77 [some (sl 0 7), some (wi op), some (wi zz)] [] V7 (zi (fun r35 V35 => bz r35 ∧ K r35 V35)) := fun zz => by
        refine w_X5_extreme_77 (by omega) (cs_leave (c := 41) (by omega) k7 (by decide) (by decide) (fun z5 V' r f => ⟨Or.inl rfl, Or.inl rfl, he _ (by rw [if_neg z5]) V' ((r5.trans r7).trans r) f⟩) (fun z5 V9 r9 k9 a9 => ⟨Or.inr rfl, Or.inr rfl, ?_⟩))
        refine hy (i2 + 1) (C1 ++ C2) (N1 ++ N2) (by rw [if_pos z5]; rfl) V9 ((r5.trans r7).trans r9) ?_ ?_ (by omega)
        · rw [Int32.or_assoc, svx_tr (by omega) b7, ← svx_r (T := T) (M := lku tc nm) (i := i) (k := i2) (by omega) (by omega)] at k9
          rw [List.length_append, List.length_append, show nb + (N1.length + N2.length) = nb + N1.length + N2.length from by omega, show ub + 2 * (C1.length + C2.length) = ub + 2 * C1.length + 2 * C2.length from by omega]
          exact k9
        · have t := a5.trans a7
          have t2 := t.trans (C2 := []) (N2 := []) (V2 := V9) (by rw [List.length_append, List.length_append, show ub + 2 * (C1.length + C2.length) = ub + 2 * C1.length + 2 * C2.length from by omega, show nb + (N1.length + N2.length) = nb + N1.length + N2.length from by omega]; exact a9)
          exact t2.ex (List.append_nil _) (List.append_nil _)
      rcases hw with ⟨_, rfl, rfl⟩ | ⟨_, rfl, rfl⟩ <;> exact fin
  refine cs_is (c := 313) h (by decide) (by decide) ?_
  by_cases c6 : (T i).1 = 313
  · rw [decide_eq_true c6]
    rw [if_pos (by omega)] at he hy
    refine ⟨fun q => absurd q (by decide), fun _ => ?_⟩
    refine vMV.mono (word 313 c6 (by omega) (by omega) (fun r5 V5 => (r5 = 0 → K 0 V5) ∧ (¬ r5 = 0 → vMI E (d - 1) M_X5_leave [sl 0 7, wi 41] V5 (fun r45 V45 => (r45 = 0 → K 0 V45) ∧ (¬ r45 = 0 → PG (vL V45) (vQ V45) ∧ (vMI E (d - 1) M_X2_emit [sl (vQ V45) 9, wi 4, wi 0] V45 (fun r48 V48 => (r48 = 0 → K 0 V48) ∧ (¬ r48 = 0 → K 1 V48))))))) (fun e z V' r f => ⟨fun _ => he e z V' r f, fun q => absurd rfl q⟩) (fun i1 C1 N1 V5 z z2 z3 r5 k5 a5 b1 b2 b3 b4 => ⟨fun q => absurd q (by decide), fun _ => ?_⟩) (d - 1) (by omega)) (fun V1 q1 => vMI.mono q1 (fun r3 V3 q3 => ⟨fun z => (q3.1 z).1 rfl, fun z => vMI.mono (q3.2 z) (fun r5 V5 q5 => ⟨fun z5 => (q5.1 z5).1 rfl, fun z5 => (q5.2 z5).2 (by decide)⟩)⟩))
    rw [if_pos z, if_neg z2, z3, rsB_r, if_pos c6] at he hy
    refine cs_leave (c := 41) (by omega) k5 (by decide) (by decide) (fun z5 V' r f => ⟨fun _ => he _ (by rw [if_neg z5]) V' (r5.trans r) f, fun q => absurd rfl q⟩) (fun z5 V9 r9 k9 a9 => ⟨fun q => absurd q (by decide), fun _ => ?_⟩)
    rw [k9.1.2.1]
    refine ⟨k9.1.2.2.1, cs_emit (by omega) k9 (by omega) (fun V7 r7 k7 a7 => ⟨fun q => absurd q (by decide), fun _ => ?_⟩)⟩
    refine hy (i1 + 1) (C1 ++ [(4, 0)]) N1 (by rw [if_pos z5]; rfl) V7 ((r5.trans r9).trans r7) ?_ ?_ (by omega)
    · rw [← svx_r (T := T) (M := lku tc nm) (i := i) (k := i1) (by omega) (by omega)] at k7
      rw [List.length_append, show ub + 2 * (C1.length + [((4 : Int32), (0 : Int32))].length) = ub + 2 * C1.length + 2 from by show ub + 2 * (C1.length + 1) = _; omega]
      exact k7
    · have t2 := (a5.trans a9).ex (C' := C1) (N' := N1) (List.append_nil _) (List.append_nil _)
      exact (t2.trans a7).ex rfl (List.append_nil _)
  rw [decide_eq_false c6]
  refine ⟨fun _ => cs_is (c := 314) h (by decide) (by decide) ?_, fun q => absurd rfl q⟩
  by_cases c7 : (T i).1 = 314
  · rw [decide_eq_true c7]
    exact ⟨fun q => absurd q (by decide), fun _ => exm 314 17 11 c7 (Or.inl ⟨rfl, rfl, rfl⟩) h17⟩
  rw [decide_eq_false c7]
  refine ⟨fun _ => cs_is (c := 315) h (by decide) (by decide) ?_, fun q => absurd rfl q⟩
  by_cases c8 : (T i).1 = 315
  · rw [decide_eq_true c8]
    exact ⟨fun q => absurd q (by decide), fun _ => exm 315 18 12 c8 (Or.inr ⟨rfl, rfl, rfl⟩) h18⟩
  rw [decide_eq_false c8]
  refine ⟨fun _ => cs_is (c := 316) h (by decide) (by decide) ?_, fun q => absurd rfl q⟩
  by_cases c9 : (T i).1 = 316
  · rw [decide_eq_true c9]
    rw [if_pos (by omega)] at he hy
    refine ⟨fun q => absurd q (by decide), fun _ => ?_⟩
    refine vMV.mono (word 316 c9 (by omega) (by omega) (fun r5 V5 => (r5 = 0 → K 0 V5) ∧ (¬ r5 = 0 → vMI E (d - 1) M_X10_accept [sl 0 2, wi 58] V5 (fun r23 V23 => (r23 = 0 → K 0 V23) ∧ (¬ r23 = 0 → PG (vL V23) (vQ V23) ∧ (vMI E (d - 1) M_X2_emit [sl (vQ V23) 9, wi 7, wi (vI V23 (vQ V23) 9 3)] V23 (fun r26 V26 => (r26 = 0 → K 0 V26) ∧ (¬ r26 = 0 → vMI E (d - 1) M_X5_numerals [sl 0 7, wi 1, wi 20, wi 9999] V26 (fun r29 V29 => (r29 = 0 → K 0 V29) ∧ (¬ r29 = 0 → vMI E (d - 1) M_X5_leave [sl 0 7, wi 41] V29 (fun r32 V32 => (r32 = 0 → K 0 V32) ∧ (¬ r32 = 0 → K 1 V32))))))))))) (fun e z V' r f => ⟨fun _ => he e z V' r f, fun q => absurd rfl q⟩) (fun i1 C1 N1 V5 z z2 z3 r5 k5 a5 b1 b2 b3 b4 => ⟨fun q => absurd q (by decide), fun _ => ?_⟩) (d - 1) (by omega)) (fun V1 q1 => vMI.mono q1 (fun r3 V3 q3 => ⟨fun z => (q3.1 z).1 rfl, fun z => vMI.mono (q3.2 z) (fun r5 V5 q5 => ⟨fun z5 => (q5.1 z5).1 rfl, fun z5 => (q5.2 z5).2 (by decide)⟩)⟩))
    rw [if_pos z, if_neg z2, z3, rsB_r, if_neg c6, if_pos c9] at he hy
    refine cs_accept (c := 58) (by omega) k5 (by decide) (by decide) (fun z5 V' r f => ⟨fun _ => he _ (by rw [if_neg z5]) V' (r5.trans r) f, fun q => absurd rfl q⟩) (fun z5 V9 r9 k9 a9 => ⟨fun q => absurd q (by decide), fun _ => ?_⟩)
    rw [if_pos z5] at he hy
    have i9L := k9.2.2.1
    rw [k9.1.2.1, k9.2.2.2.2.2.2.1.1]
    refine ⟨k9.1.2.2.1, cs_emit (by omega) k9 (by omega) (fun V7 r7 k7 a7 => ⟨fun q => absurd q (by decide), fun _ => ?_⟩)⟩
    refine cs_numerals (sg := true) (most := 20) (top := 9999) (by omega) k7 (by omega) (by decide) (by decide) (by decide) (fun e z6 V' r f => ⟨fun _ => he e (by rw [z6]; rfl) V' (((r5.trans r9).trans r7).trans r) f, fun q => absurd rfl q⟩) (fun i2 xs z6 V11 r11 k11 a11 b11 => ⟨fun q => absurd q (by decide), fun _ => ?_⟩)
    rw [z6, nrB_r] at he hy
    refine cs_leave (c := 41) (by omega) k11 (by decide) (by decide) (fun z7 V' r f => ⟨fun _ => he _ (by show (if (T i2).1 = 41 then _ else _) = _; rw [if_neg z7]) V' ((((r5.trans r9).trans r7).trans r11).trans r) f, fun q => absurd rfl q⟩) (fun z7 V13 r13 k13 a13 => ⟨fun q => absurd q (by decide), fun _ => ?_⟩)
    refine hy (i2 + 1) (C1 ++ [(7, nI (nb + N1.length))]) (N1 ++ nI xs.length :: xs) (by show (if (T i2).1 = 41 then _ else _) = _; rw [if_pos z7]; rfl) V13 ((((r5.trans r9).trans r7).trans r11).trans r13) ?_ ?_ (by omega)
    · have e1 : (sv ||| svx T (lku tc nm) i i1) ||| svx T (lku tc nm) (i1 + 1) i2 = sv ||| svx T (lku tc nm) i (i2 + 1) := by
        rw [← svx_r (T := T) (M := lku tc nm) (i := i) (k := i1) (by omega) (by omega), Int32.or_assoc, svx_tr (by omega) b11, svx_r (by omega) (by omega)]
      rw [e1] at k13
      rw [List.length_append, List.length_append, List.length_cons, show nb + (N1.length + (xs.length + 1)) = nb + N1.length + (xs.length + 1) from by omega, show ub + 2 * (C1.length + [((7 : Int32), nI (nb + N1.length))].length) = ub + 2 * C1.length + 2 from by show ub + 2 * (C1.length + 1) = _; omega]
      exact k13
    · have t2 := (a5.trans a9).ex (C' := C1) (N' := N1) (List.append_nil _) (List.append_nil _)
      have t3 := (t2.trans a7).ex (C' := C1 ++ [(7, nI (nb + N1.length))]) (N' := N1) rfl (List.append_nil _)
      have t4 := t3.trans (C2 := []) (N2 := nI xs.length :: xs) (V2 := V11) (by rw [List.length_append]; show Apd V7 V11 g (ub + 2 * (C1.length + 1)) _ _ _; rw [show ub + 2 * (C1.length + 1) = ub + 2 * C1.length + 2 from by omega]; exact a11)
      have t5 := t4.trans (C2 := []) (N2 := []) (V2 := V13) (by
        rw [List.length_append, List.length_append, List.length_append, List.length_cons]
        show Apd V11 V13 g (ub + 2 * (C1.length + 1 + 0)) (nb + (N1.length + (xs.length + 1))) [] []
        rw [show ub + 2 * (C1.length + 1 + 0) = ub + 2 * C1.length + 2 from by omega, show nb + (N1.length + (xs.length + 1)) = nb + N1.length + (xs.length + 1) from by omega]
        exact a13)
      exact t5.ex (by rw [List.append_nil, List.append_nil]) (List.append_nil _)
  rw [decide_eq_false c9]
  rw [if_neg (by omega)] at he
  exact ⟨fun _ => cs_refuse h (fun V' r f => ⟨Or.inl rfl, he _ rfl V' r f⟩), fun q => absurd rfl q⟩
theorem prsC (hF : eFr E) : ∀ (f tag x o : Nat), tgO tag → (tag ≤ 6 → x = 0) → (17 ≤ tag → x ≤ 19) → PA E g T L tc nm f tag x o := by
  intro f
  induction f with
  | zero => intro tag x o _ _ _ d i nb ub sv V y K _ _ _ _ hf; exact absurd hf (Nat.not_lt_zero _)
  | succ f ih =>
    intro tag x o ht hx0 hx
    have i0 : ∀ o, PA E g T L tc nm f 0 0 o := fun o => ih 0 0 o (Or.inl (by decide)) (fun _ => rfl) (fun _ => by decide)
    have i1 : ∀ o, PA E g T L tc nm f 1 0 o := fun o => ih 1 0 o (Or.inl (by decide)) (fun _ => rfl) (fun _ => by decide)
    have i2 : ∀ o, PA E g T L tc nm f 2 0 o := fun o => ih 2 0 o (Or.inl (by decide)) (fun _ => rfl) (fun _ => by decide)
    have i3 : ∀ o, PA E g T L tc nm f 3 0 o := fun o => ih 3 0 o (Or.inl (by decide)) (fun _ => rfl) (fun _ => by decide)
    have i4 : ∀ o, PA E g T L tc nm f 4 0 o := fun o => ih 4 0 o (Or.inl (by decide)) (fun _ => rfl) (fun _ => by decide)
    have i5 : ∀ o, PA E g T L tc nm f 5 0 o := fun o => ih 5 0 o (Or.inl (by decide)) (fun _ => rfl) (fun _ => by decide)
    have i6 : ∀ o, PA E g T L tc nm f 6 0 o := fun o => ih 6 0 o (Or.inl (by decide)) (fun _ => rfl) (fun _ => by decide)
    have i11 : ∀ x o, PA E g T L tc nm f 11 x o := fun x o => ih 11 x o (by unfold tgO; omega) (fun z => by omega) (fun z => by omega)
    have i12 : ∀ x o, PA E g T L tc nm f 12 x o := fun x o => ih 12 x o (by unfold tgO; omega) (fun z => by omega) (fun z => by omega)
    have i14 : ∀ x o, PA E g T L tc nm f 14 x o := fun x o => ih 14 x o (by unfold tgO; omega) (fun z => by omega) (fun z => by omega)
    have i15 : ∀ x o, PA E g T L tc nm f 15 x o := fun x o => ih 15 x o (by unfold tgO; omega) (fun z => by omega) (fun z => by omega)
    have i17 : ∀ x, x ≤ 19 → ∀ o, PA E g T L tc nm f 17 x o := fun x q o => ih 17 x o (by unfold tgO; omega) (fun z => by omega) (fun _ => q)
    have i18 : ∀ x, x ≤ 19 → ∀ o, PA E g T L tc nm f 18 x o := fun x q o => ih 18 x o (by unfold tgO; omega) (fun z => by omega) (fun _ => q)
    have ht : tag = 0 ∨ tag = 1 ∨ tag = 2 ∨ tag = 3 ∨ tag = 4 ∨ tag = 5 ∨ tag = 6 ∨ tag = 11 ∨ tag = 12 ∨ tag = 14 ∨ tag = 15 ∨ tag = 17 ∨ tag = 18 := by unfold tgO at ht; omega
    rcases ht with rfl | rfl | rfl | rfl | rfl | rfl | rfl | rfl | rfl | rfl | rfl | rfl | rfl
    · have := hx0 (by decide); subst this
      exact PA_test (i1 o) (fun _ => i0 (o + 1))
    · have := hx0 (by decide); subst this
      exact PA_seq (tag := 1) (by omega) (i2 o) (i11 0 o) (fun d V K h0 h => w_X5_either_0 h0 h) (fun _ _ _ => rfl) (fun _ _ _ => rfl) (fun _ _ _ => rfl) (fun _ _ _ _ => rfl) (by decide) rfl
    · have := hx0 (by decide); subst this
      exact PA_seq (tag := 2) (by omega) (i3 o) (i12 0 o) (fun d V K h0 h => w_X5_both_0 h0 h) (fun _ _ _ => rfl) (fun _ _ _ => rfl) (fun _ _ _ => rfl) (fun _ _ _ _ => rfl) (by decide) rfl
    · have := hx0 (by decide); subst this
      exact PA_unit hF (fun _ => i3 (o + 1)) (fun _ => i0 (o + 1)) (i4 o)
    · have := hx0 (by decide); subst this
      exact PA_seq (tag := 4) (by omega) (i5 o) (i14 0 o) (fun d V K h0 h => w_X5_sum_0 h0 h) (fun _ _ _ => rfl) (fun _ _ _ => rfl) (fun _ _ _ => rfl) (fun _ _ _ _ => rfl) (by decide) rfl
    · have := hx0 (by decide); subst this
      exact PA_seq (tag := 5) (by omega) (i6 o) (i15 0 o) (fun d V K h0 h => w_X5_term_0 h0 h) (fun _ _ _ => rfl) (fun _ _ _ => rfl) (fun _ _ _ => rfl) (fun _ _ _ _ => rfl) (by decide) rfl
    · have := hx0 (by decide); subst this
      exact PA_factor (fun _ => i6 (o + 1)) (fun _ => i0 (o + 1)) (fun _ => i4 (o + 1)) (fun _ => i17 19 (by decide) (o + 1)) (fun _ => i18 19 (by decide) (o + 1))
    · exact PA_loop1 (tag := 11) (sg := 124) (op := 20) (sgn := 124) (by omega) (by decide) (by decide) (fun c => rfl) (i2 o) (fun x => i11 x o) (fun _ _ _ => rfl) (fun _ _ _ => rfl) (by decide) (fun _ _ _ _ _ _ => rfl) (fun d x' y V K h0 h => w_X5_either_11 h0 h) x
    · exact PA_loop1 (tag := 12) (sg := 38) (op := 19) (sgn := 38) (by omega) (by decide) (by decide) (fun c => rfl) (i3 o) (fun x => i12 x o) (fun _ _ _ => rfl) (fun _ _ _ => rfl) (by decide) (fun _ _ _ _ _ _ => rfl) (fun d x' y V K h0 h => w_X5_both_11 h0 h) x
    · exact PA_sumloop (i5 o) (fun x => i14 x o) x
    · exact PA_loop1 (tag := 15) (sg := 42) (op := 10) (sgn := 42) (by omega) (by decide) (by decide) (fun c => rfl) (i6 o) (fun x => i15 x o) (fun _ _ _ => rfl) (fun _ _ _ => rfl) (by decide) (fun _ _ _ _ _ _ => rfl) (fun d x' y V K h0 h => w_X5_term_11 h0 h) x
    · exact PA_ext (Or.inl ⟨rfl, rfl⟩) (i4 o) (fun x q => i17 x q o) x (hx (by decide))
    · exact PA_ext (Or.inr ⟨rfl, rfl⟩) (i4 o) (fun x q => i18 x q o) x (hx (by decide))
end
