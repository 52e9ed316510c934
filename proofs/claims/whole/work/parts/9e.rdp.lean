/-! the class reads tests and sums -/
theorem sh_A : ∀ j : Fin 4, shA j.val ≤ 3 ∧ txB 0 (min j.val (txN 0 - 1)) = chS (shA j.val) := by decide
theorem sh_B : ∀ j : Fin 3, shB j.val ≤ 3 ∧ txB 1 (min j.val (txN 1 - 1)) = chS (shB j.val) := by decide
theorem sh_R : ∀ j : Fin 12, shR j.val ≤ 3 ∧ txB 2 (min j.val (txN 2 - 1)) = chS (shR j.val) := by decide
theorem sh_S : ∀ j : Fin 3, shS j.val ≤ 3 ∧ txB 3 (min j.val (txN 3 - 1)) = chS (shS j.val) := by decide
theorem nms_cnt {T : Nat → TK} {M : MN} {least : Nat} : ∀ (m n i i1 : Nat) (vs : List Nat), nms T M least m n i = .inr (i1, vs) → n + m = least → vs.length = m := by
  intro m
  induction m with
  | zero => intro n i i1 vs h _; rw [nms] at h; cases h; rfl
  | succ m ih =>
    intro n i i1 vs h e
    rw [nms] at h
    cases w : vrb T M i with
    | inl q => rw [w] at h; cases h
    | inr q =>
      rw [w, nrB_r] at h
      have h : (if m = 0 ∨ (least ≤ n + 1 ∧ (T q.1).1 ≠ 44) then (.inr (q.1, [q.2]) : NR (List Nat)) else if (T q.1).1 = 44 then nrB (nms T M least m (n + 1) (q.1 + 1)) (fun i2 vs => .inr (i2, q.2 :: vs)) else .inl (rfe T q.1)) = .inr (i1, vs) := h
      by_cases c : m = 0
      · rw [if_pos (Or.inl c)] at h
        cases h
        rw [c]; rfl
      · rw [if_neg (fun z => by rcases z with z | z; exact c z; omega)] at h
        by_cases c2 : (T q.1).1 = 44
        · rw [if_pos c2] at h
          cases w2 : nms T M least m (n + 1) (q.1 + 1) with
          | inl q2 => rw [w2] at h; cases h
          | inr q2 =>
            rw [w2, nrB_r] at h
            have h : (.inr (q2.1, q.2 :: q2.2) : NR (List Nat)) = .inr (i1, vs) := h
            cases h
            rw [List.length_cons, ih (n + 1) (q.1 + 1) q2.1 q2.2 w2 (by omega)]
        · rw [if_neg c2] at h; cases h
theorem nms_just {T : Nat → TK} {M : MN} {k i i1 : Nat} {vs : List Nat} (h : nms T M k k 0 i = .inr (i1, vs)) (_ : 1 ≤ k) : vs.length = k := nms_cnt k 0 i i1 vs h (by omega)
section
variable {E : EE} {d : Nat} {V : VH} {g : Nat} {T : Nat → TK} {L : Nat} {tc : Nat → Nat} {nm : Nat → Nat → Int64} {i o nb ub : Nat} {sv : Int32}
theorem cs_lists {w : Nat} {K : Int32 → VH → Prop} (hF : eFr E) (h0 : 6 < d) (h : CS V g T L tc nm i o nb ub sv) (hn : nb + 2 ≤ i) (hw : 306 ≤ w) (hw2 : w ≤ 312) (he : ∀ e, lst T (lku tc nm) w i = .inl e → ∀ V', Rdf V V' g → Flt V' e → K 0 V') (hy : ∀ i1 N, lst T (lku tc nm) w i = .inr (i1, N) → ∀ V', Rdf V V' g → CS V' g T L tc nm i1 o (nb + N.length) ub (sv ||| svx T (lku tc nm) i i1) → Apd V V' g ub nb [] N → i ≤ i1 → K 1 V') : vMI E d M_X5_lists [sl 0 7, wi (nI (w - 284))] V K := by
  have eqw : ∀ m : Nat, m < 100 → (nI (w - 284) = nI m ↔ w = m + 284) := fun m hm => by
    rw [nI_eq (by omega) (by omega)]; omega
  unfold lst at he hy
  refine w_X5_lists_0 (by omega) ⟨fun q28 => ⟨fun q27 => ?_, fun q27 => ?_⟩, fun q28 => ?_⟩
  · have n312 : w ≠ 312 := fun z => q28 ((eqw 28 (by decide)).mpr (by omega))
    have n311 : w ≠ 311 := fun z => q27 ((eqw 27 (by decide)).mpr (by omega))
    rw [if_neg n312, if_neg n311] at he hy
    refine cs_names (least := 1) (most := 12) (by omega) h hn (by decide) (by decide) (by decide) (fun e z V' r f => ⟨fun y => absurd y (by decide), fun _ => he e (by rw [z]; rfl) V' r f⟩) (fun i1 vs z V1 r1 s1 a1 b1 b2 b3 => ?_)
    rw [z, nrB_r] at he hy
    have len1 : (nvs vs).length = vs.length + 1 := nvs_len vs
    refine ⟨fun _ => ?_, fun y => absurd (Int32.not_lt.mp (nI_pos (by omega))) y⟩
    have all : (w = 306 ∨ w = 309) → K 1 V1 := fun z2 => hy i1 (nvs vs) (by show (if w = 306 ∨ w = 309 then _ else _) = _; rw [if_pos z2]) V1 r1 (by rw [len1]; exact s1) a1 (by omega)
    refine ⟨fun q22 => all (Or.inl ((eqw 22 (by decide)).mp q22)), fun q22 => ⟨fun q25 => ?_, fun q25 => all (Or.inr ((eqw 25 (by decide)).mp q25))⟩⟩
    have nall : ¬ (w = 306 ∨ w = 309) := fun z2 => by
      rcases z2 with z2 | z2
      · exact q22 ((eqw 22 (by decide)).mpr z2)
      · exact q25 ((eqw 25 (by decide)).mpr z2)
    refine cs_accept (c := 58) (by omega) s1 (by decide) (by decide) (fun z2 V' r2 f => ⟨fun y => absurd rfl y, fun _ => he _ (by show (if w = 306 ∨ w = 309 then _ else _) = _; rw [if_neg nall, if_neg z2]) V' (r1.trans r2) f⟩) (fun z2 V3 r3 s3 a3 => ⟨fun _ => ?_, fun y => absurd y (by decide)⟩)
    have i1L := s3.2.2.1
    have sv1 : svx T (lku tc nm) i i1 = svx T (lku tc nm) i (i1 + 1) := (svx_r (by omega) (by omega)).symm
    rw [sv1] at s3
    have hn3 : nb + (vs.length + 1) + 2 ≤ i1 + 1 := by omega
    have join : ∀ (i2 : Nat) (X : List Int32) (V' : VH), i1 + 1 ≤ i2 → Rdf V3 V' g → CS V' g T L tc nm i2 o (nb + (vs.length + 1) + X.length) ub ((sv ||| svx T (lku tc nm) i (i1 + 1)) ||| svx T (lku tc nm) (i1 + 1) i2) → Apd V3 V' g ub (nb + (vs.length + 1)) [] X → Rdf V V' g ∧ CS V' g T L tc nm i2 o (nb + (nvs vs ++ X).length) ub (sv ||| svx T (lku tc nm) i i2) ∧ Apd V V' g ub nb [] (nvs vs ++ X) := fun i2 X V' b r s a => by
      refine ⟨(r1.trans r3).trans r, ?_, ?_⟩
      · rw [Int32.or_assoc, svx_tr (by omega) b] at s
        rw [List.length_append, len1, show nb + (vs.length + 1 + X.length) = nb + (vs.length + 1) + X.length from by omega]
        exact s
      · have t := a1.sm a3 (Nat.le_refl _) (by rw [len1]; exact Nat.le_refl _)
        have a : Apd V3 V' g (ub + 2 * ([] : CD).length) (nb + (nvs vs).length) [] X := by rw [len1]; exact a
        exact t.trans a
    have he : ∀ e, (if w = 308 then nrB (nms T (lku tc nm) vs.length vs.length 0 (i1 + 1)) (fun i2 us => (.inr (i2, nvs vs ++ nvs us) : NR (List Int32))) else if w = 307 then nrB (grs T (lku tc nm) shR vs.length 40 (i1 + 1)) (fun i2 q => .inr (i2, nvs vs ++ nI q.1 :: q.2)) else nrB (grs T (lku tc nm) shS 3 40 (i1 + 1)) (fun i2 q => if (T i2).1 = 58 then nrB (nls T false 9 10 (i2 + 1)) (fun i3 ss => .inr (i3, nvs vs ++ (nI q.1 :: q.2) ++ (nI ss.length :: ss))) else .inl (rfe T i2))) = .inl e → ∀ V', Rdf V V' g → Flt V' e → K 0 V' := fun e z3 => he e (by show (if w = 306 ∨ w = 309 then _ else _) = _; rw [if_neg nall, if_pos z2]; exact z3)
    have hy : ∀ i2 N, (if w = 308 then nrB (nms T (lku tc nm) vs.length vs.length 0 (i1 + 1)) (fun i2 us => (.inr (i2, nvs vs ++ nvs us) : NR (List Int32))) else if w = 307 then nrB (grs T (lku tc nm) shR vs.length 40 (i1 + 1)) (fun i2 q => .inr (i2, nvs vs ++ nI q.1 :: q.2)) else nrB (grs T (lku tc nm) shS 3 40 (i1 + 1)) (fun i2 q => if (T i2).1 = 58 then nrB (nls T false 9 10 (i2 + 1)) (fun i3 ss => .inr (i3, nvs vs ++ (nI q.1 :: q.2) ++ (nI ss.length :: ss))) else .inl (rfe T i2))) = .inr (i2, N) → ∀ V', Rdf V V' g → CS V' g T L tc nm i2 o (nb + N.length) ub (sv ||| svx T (lku tc nm) i i2) → Apd V V' g ub nb [] N → i ≤ i2 → K 1 V' := fun i2 N z3 => hy i2 N (by show (if w = 306 ∨ w = 309 then _ else _) = _; rw [if_neg nall, if_pos z2]; exact z3)
    refine ⟨fun q24 => ⟨fun q23 => ?_, fun q23 => ?_⟩, fun q24 => ?_⟩
    · -- auto
      rw [if_neg (fun y => q24 ((eqw 24 (by decide)).mpr y)), if_neg (fun y => q23 ((eqw 23 (by decide)).mpr y))] at he hy
      refine cs_groups (tx := 3) (wide := 3) (sh := shS) hF (by omega) s3 hn3 (by decide) (by decide) (by decide) (fun j hj => sh_S ⟨j, hj⟩) (fun e z3 V' r f => ⟨fun _ => he e (by rw [z3]; rfl) V' ((r1.trans r3).trans r) f, fun y => absurd rfl y⟩) (fun i2 q z3 V5 r5 s5 a5 b5 => ⟨fun y => absurd y (by decide), fun _ => ?_⟩)
      rw [z3, nrB_r] at he hy
      have i2L := s5.2.2.1
      obtain ⟨R, S, A⟩ := join i2 (nI q.1 :: q.2) V5 (by omega) r5 s5 a5
      refine cs_accept (c := 58) (by omega) S (by decide) (by decide) (fun z4 V' r2 f => ⟨fun _ => he _ (by show (if (T i2).1 = 58 then _ else _) = _; rw [if_neg z4]) V' (R.trans r2) f, fun y => absurd rfl y⟩) (fun z4 V7 r7 s7 a7 => ⟨fun y => absurd y (by decide), fun _ => ?_⟩)
      have l7 : (nvs vs ++ nI q.1 :: q.2).length = vs.length + 1 + (q.2.length + 1) := by rw [List.length_append, len1]; rfl
      refine cs_numerals (sg := false) (most := 10) (top := 9) (by omega) s7 (by rw [l7]; omega) (by decide) (by decide) (by decide) (fun e z5 V' r f => ⟨fun _ => he e (by show (if (T i2).1 = 58 then _ else _) = _; rw [if_pos z4, z5]; rfl) V' ((R.trans r7).trans r) f, fun y => absurd rfl y⟩) (fun i3 ss z5 V9 r9 s9 a9 b9 => ⟨fun y => absurd y (by decide), fun _ => ?_⟩)
      refine hy i3 (nvs vs ++ (nI q.1 :: q.2) ++ (nI ss.length :: ss)) (by show (if (T i2).1 = 58 then _ else _) = _; rw [if_pos z4, z5]; rfl) V9 ((R.trans r7).trans r9) ?_ ?_ (by omega)
      · have e1 : (sv ||| svx T (lku tc nm) i i2) ||| svx T (lku tc nm) (i2 + 1) i3 = sv ||| svx T (lku tc nm) i i3 := by
          rw [← svx_r (T := T) (M := lku tc nm) (i := i) (k := i2) (by omega) (by omega), Int32.or_assoc, svx_tr (by omega) b9]
        rw [e1] at s9
        rw [List.length_append (as := nvs vs ++ (nI q.1 :: q.2)), List.length_cons (a := nI ss.length), ← Nat.add_assoc]
        exact s9
      · have t := (A.trans a7).ex (C' := []) (N' := nvs vs ++ (nI q.1 :: q.2)) rfl (List.append_nil _)
        exact t.trans a9
    · -- row
      have w307 : w = 307 := (eqw 23 (by decide)).mp q23
      rw [if_neg (by omega), if_pos w307] at he hy
      refine cs_groups (tx := 2) (wide := vs.length) (sh := shR) hF (by omega) s3 hn3 (by decide) (by decide) b3 (fun j hj => sh_R ⟨j, by omega⟩) (fun e z3 V' r f => ⟨Or.inl rfl, he e (by rw [z3]; rfl) V' ((r1.trans r3).trans r) f⟩) (fun i2 q z3 V5 r5 s5 a5 b5 => ⟨Or.inr rfl, ?_⟩)
      obtain ⟨R, S, A⟩ := join i2 (nI q.1 :: q.2) V5 (by omega) r5 s5 a5
      exact hy i2 _ (by rw [z3]; rfl) V5 R S A (by omega)
    · -- lex
      have w308 : w = 308 := (eqw 24 (by decide)).mp q24
      rw [if_pos w308] at he hy
      refine cs_names (least := vs.length) (most := vs.length) (by omega) s3 hn3 b2 b3 b3 (fun e z3 V' r f => ⟨fun _ => he e (by rw [z3]; rfl) V' ((r1.trans r3).trans r) f, fun y => absurd y (fun y => by
        have : (-1 : Int32) ≠ nI vs.length := fun z4 => absurd (show (-1 : Int32) < 0 by decide) (by rw [z4]; exact nI_pos (by omega))
        exact this y)⟩) (fun i2 us z3 V5 r5 s5 a5 c1 c2 c3 => ?_)
      have eq : us.length = vs.length := nms_just z3 b2
      refine ⟨fun y => absurd (by rw [eq]) y, fun _ => ?_⟩
      obtain ⟨R, S, A⟩ := join i2 (nvs us) V5 (by omega) r5 (by rw [nvs_len]; exact s5) a5
      exact hy i2 _ (by rw [z3]; rfl) V5 R S A (by omega)
  · -- busy
    have w311 : w = 311 := (eqw 27 (by decide)).mp q27
    rw [if_neg (by omega), if_pos w311] at he hy
    refine cs_numeral (sg := false) (lo := 0) (hi := 9999) (by omega) h (by decide) (by decide) (fun e z V' r f => ⟨fun y => absurd rfl y, fun _ => he e (by rw [z]; rfl) V' r f⟩) (fun i1 x z V1 r1 s1 a1 x1 _ b1 b2 b3 sz => ⟨fun _ => ?_, fun y => absurd y (by decide)⟩)
    rw [z, nrB_r] at he hy
    have i1L := s1.2.2.1
    have b4 : i + 1 ≤ i1 := by
      have := nmr_fit (T := T) (L := L) h.1.2.2.2.2.2.1.1 (sg := false) (lo := 0) (hi := 9999) h.2.2.1
      rw [z] at this
      exact this.1
    rw [s1.1.2.1, x1]
    refine ⟨s1.1.2.2.1, cs_note (by omega) s1 (by omega) (fun V2 r2 s2 a2 => ?_)⟩
    refine cs_accept (c := 58) (by omega) s2 (by decide) (by decide) (fun z2 V' r f => ⟨fun _ => he _ (by show (if (T i1).1 = 58 then _ else _) = _; rw [if_neg z2]) V' ((r1.trans r2).trans r) f, fun y => absurd rfl y⟩) (fun z2 V3 r3 s3 a3 => ⟨fun y => absurd y (by decide), fun _ => ?_⟩)
    have i2L := s3.2.2.1
    refine cs_groups (tx := 1) (wide := 3) (sh := shB) hF (by omega) s3 (by omega) (by decide) (by decide) (by decide) (fun j hj => sh_B ⟨j, hj⟩) (fun e z3 V' r f => ⟨fun _ => he e (by show (if (T i1).1 = 58 then _ else _) = _; rw [if_pos z2, z3]; rfl) V' (((r1.trans r2).trans r3).trans r) f, fun y => absurd rfl y⟩) (fun i2 q z3 V5 r5 s5 a5 b5 => ⟨fun y => absurd y (by decide), fun _ => ?_⟩)
    refine hy i2 (x :: nI q.1 :: q.2) (by show (if (T i1).1 = 58 then _ else _) = _; rw [if_pos z2, z3]; rfl) V5 (((r1.trans r2).trans r3).trans r5) ?_ ?_ (by omega)
    · have e1 : svx T (lku tc nm) (i1 + 1) i2 = svx T (lku tc nm) i i2 := by
        rw [← svx_tr (T := T) (M := lku tc nm) (i := i) (j := i1) (k := i2) (by omega) (by omega), sz, Int32.zero_or, svx_l (by omega) (by omega)]
      rw [e1] at s5
      rw [List.length_cons, List.length_cons, show nb + (q.2.length + 1 + 1) = nb + 1 + (q.2.length + 1) from by omega]
      exact s5
    · have t := ((a1.trans a2).trans a3).ex (C' := []) (N' := [x]) rfl rfl
      exact t.trans a5
  · -- apart
    have w312 : w = 312 := (eqw 28 (by decide)).mp q28
    rw [if_pos w312] at he hy
    refine cs_groups (tx := 0) (wide := 4) (sh := shA) hF (by omega) h hn (by decide) (by decide) (by decide) (fun j hj => sh_A ⟨j, hj⟩) (fun e z3 V' r f => ⟨Or.inl rfl, he e (by rw [z3]; rfl) V' r f⟩) (fun i2 q z3 V5 r5 s5 a5 b5 => ⟨Or.inr rfl, ?_⟩)
    exact hy i2 (nI q.1 :: q.2) (by rw [z3]; rfl) V5 r5 s5 a5 (by omega)
end
