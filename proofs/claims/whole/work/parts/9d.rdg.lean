/-! the class reads: lists -/
def chS (s : Nat) : Nat := if s = 0 then 118 else if s = 1 then 105 else if s = 2 then 110 else 115
section
variable {E : EE} {d : Nat} {V : VH} {g : Nat} {T : Nat → TK} {L : Nat} {tc : Nat → Nat} {nm : Nat → Nat → Int64} {i o nb ub : Nat} {sv : Int32}
theorem nrB_l {α : Type} {β : Type} {e : Nat × Nat} {f : Nat → α → (Nat × Nat) ⊕ β} : nrB (.inl e : NR α) f = .inl e := rfl
theorem nrB_r {α : Type} {β : Type} {q : Nat × α} {f : Nat → α → (Nat × Nat) ⊕ β} : nrB (.inr q : NR α) f = f q.1 q.2 := rfl
theorem vrb_r {M : MN} {i1 v : Nat} (h : vrb T M i = .inr (i1, v)) : i1 = i + 1 ∧ (T i).1 = 1 := by
  unfold vrb at h
  by_cases c : (T i).1 = 1
  · rw [if_pos c] at h
    cases w : M (T i).2.1 with
    | none => rw [w] at h; cases h
    | some q =>
      rw [w] at h
      have h : (if q.1 = 1 then (.inr (i + 1, q.2) : NR Nat) else .inl (4, (T i).f)) = .inr (i1, v) := h
      by_cases c2 : q.1 = 1
      · rw [if_pos c2] at h; cases h; exact ⟨rfl, c⟩
      · rw [if_neg c2] at h; cases h
  · rw [if_neg c] at h; cases h
theorem cs_names {least most : Nat} {K : Int32 → VH → Prop} (h0 : 4 < d) (h : CS V g T L tc nm i o nb ub sv) (hn : nb + 2 ≤ i) (hm : 1 ≤ most) (hm2 : most ≤ 12) (hl : least ≤ 12) (he : ∀ e, nms T (lku tc nm) least most 0 i = .inl e → ∀ V', Rdf V V' g → Flt V' e → K (-1) V') (hy : ∀ i1 vs, nms T (lku tc nm) least most 0 i = .inr (i1, vs) → ∀ V', Rdf V V' g → CS V' g T L tc nm i1 o (nb + (vs.length + 1)) ub (sv ||| svx T (lku tc nm) i i1) → Apd V V' g ub nb [] (nvs vs) → i + 2 * vs.length ≤ i1 + 1 → 1 ≤ vs.length → vs.length ≤ most → K (nI vs.length) V') : vMI E d M_X5_names [sl 0 7, wi (nI least), wi (nI most)] V K := by
  have go : ∀ (m n j : Nat) (W : VH) (as : List Nat) (y : Int32), n + m = most → as.length = n → 1 ≤ m → i + 2 * n ≤ j → Rdf V W g → CS W g T L tc nm j o (nb + 1 + n) ub (sv ||| svx T (lku tc nm) i j) → Apd V W g ub nb [] (y :: as.map nI) → (∀ e, nms T (lku tc nm) least m n j = .inl e → ∀ V', Rdf V V' g → Flt V' e → K (-1) V') → (∀ i1 vs, nms T (lku tc nm) least m n j = .inr (i1, vs) → ∀ V', Rdf V V' g → CS V' g T L tc nm i1 o (nb + ((as ++ vs).length + 1)) ub (sv ||| svx T (lku tc nm) i i1) → Apd V V' g ub nb [] (nvs (as ++ vs)) → i + 2 * (as ++ vs).length ≤ i1 + 1 → 1 ≤ (as ++ vs).length → (as ++ vs).length ≤ most → K (nI (as ++ vs).length) V') → vwp E d M_X5_names 12 [some (sl 0 7), some (wi (nI least)), some (wi (nI most)), some (wi (nI nb)), some (wi (nI (n + 1)))] [] W (zi K) := by
    intro m
    induction m with
    | zero => intro n j W as y e _ h1; omega
    | succ m ih =>
      intro n j W as y e el _ hj r s a he hy
      have hjL := s.2.2.1
      have hLn := s.1.2.2.2.2.2.1.2.1
      rw [nms] at he hy
      refine w_X5_names_12 (by omega) ⟨fun q => absurd q (nI_nlt (by omega) (by omega)), fun _ => ?_⟩
      refine cs_variable (by omega) s (by omega) (fun e2 z V' r2 f => ⟨fun y => absurd rfl y, fun _ => he e2 (by rw [z]; rfl) V' (r.trans r2) f⟩) (fun v z V1 r1 s1 a1 => ?_)
      refine ⟨fun _ => ?_, fun y => absurd y (by decide)⟩
      rw [s1.1.2.1]
      refine ⟨s1.1.2.2.1, cs_amend (j := nb) s1 (by omega) (fun V4 r4 s4 k1 k2 k3 => ?_)⟩
      rw [z, nrB_r] at he hy
      have aa : Apd V V4 g ub nb [] (nI (n + 1) :: (as ++ [v]).map nI) := by
        have t1 : Apd W V1 g (ub + 2 * ([] : CD).length) (nb + (y :: as.map nI).length) [] [nI v] := by
          rw [List.length_cons, List.length_map, el]
          show Apd W V1 g ub (nb + (n + 1)) [] [nI v]
          rw [show nb + (n + 1) = nb + 1 + n from by omega]; exact a1
        have t := a.trans t1
        have t2 : Apd V V1 g ub nb [] (y :: (as ++ [v]).map nI) := t.ex rfl (by rw [List.map_append]; rfl)
        exact t2.amend k1 k2 k3
      have sn : CS V4 g T L tc nm (j + 1) o (nb + 1 + (n + 1)) ub (sv ||| svx T (lku tc nm) i (j + 1)) := by
        have q : (sv ||| svx T (lku tc nm) i j) ||| svx T (lku tc nm) j (j + 1) = sv ||| svx T (lku tc nm) i (j + 1) := by
          rw [Int32.or_assoc, svx_tr (by omega) (by omega)]
        rw [q] at s4
        exact s4
      have rr : Rdf V V4 g := (r.trans r1).trans r4
      have fin : (m = 0 ∨ (least ≤ n + 1 ∧ (T (j + 1)).1 ≠ 44)) → K (nI (n + 1)) V4 := fun z2 => by
        show K (nI (n + 1)) V4
        rw [if_pos z2] at hy
        have q := hy (j + 1) [v] rfl V4 rr
        have e1 : (as ++ [v]).length = n + 1 := by rw [List.length_append, el]; rfl
        rw [e1] at q
        refine q ?_ ?_ (by omega) (by omega) (by omega)
        · rw [show nb + (n + 1 + 1) = nb + 1 + (n + 1) from by omega]; exact sn
        · unfold nvs; rw [e1]; exact aa
      have more : ¬ (m = 0 ∨ (least ≤ n + 1 ∧ (T (j + 1)).1 ≠ 44)) → vwp E d M_X5_names 64 [some (sl 0 7), some (wi (nI least)), some (wi (nI most)), some (wi (nI nb)), some (wi (nI (n + 1)))] [] V4 (zi K) := fun z2 => by
        rw [if_neg z2] at he hy
        refine w_X5_names_64 (by omega) (cs_accept (c := 44) (by omega) sn (by decide) (by decide) (fun z3 V' r2 f => ⟨fun y => absurd rfl y, fun _ => he _ (by rw [if_neg z3]) V' (rr.trans r2) f⟩) (fun z3 V5 r5 s5 a5 => ⟨fun _ => ?_, fun y => absurd y (by decide)⟩))
        rw [if_pos z3] at he hy
        rw [show nI (n + 1) + 1 = nI (n + 1 + 1) from nI_1 (n + 1)]
        refine ih (n + 1) (j + 2) V5 (as ++ [v]) (nI (n + 1)) (by omega) (by rw [List.length_append, el]; rfl) (by omega) (by omega) (rr.trans r5) ?_ (aa.sm a5 (Nat.le_refl _) (by rw [List.length_cons, List.length_map, List.length_append, el]; show nb + (n + 1 + 1) ≤ nb + 1 + (n + 1); omega)) (fun e2 z4 => he e2 (by rw [z4]; rfl)) (fun i1 vs z4 => ?_)
        · have q : svx T (lku tc nm) i (j + 1) = svx T (lku tc nm) i (j + 2) := (svx_r (by omega) (by omega)).symm
          rw [q] at s5
          exact s5
        · have q := hy i1 (v :: vs) (by rw [z4]; rfl)
          rw [show as ++ v :: vs = (as ++ [v]) ++ vs from by rw [List.append_assoc]; rfl] at q
          exact q
      refine ⟨fun z2 => fin (Or.inl ?_), fun z2 => ?_⟩
      · have := (nI_eq (by omega) (by omega)).mp z2
        omega
      · have m0 : m ≠ 0 := fun z3 => z2 (by rw [show n + 1 = most from by omega])
        refine ⟨fun z3 => more (fun z4 => ?_), fun z3 => ?_⟩
        · have := (nI_ltI (by omega) (by omega)).mp z3
          rcases z4 with z4 | z4
          · exact m0 z4
          · omega
        · have nl : least ≤ n + 1 := by
            have := mt (nI_ltI (a := n + 1) (b := least) (by omega) (by omega)).mpr z3
            omega
          refine cs_is (c := 44) sn (by decide) (by decide) ?_
          by_cases c : (T (j + 1)).1 = 44
          · rw [decide_eq_true c]
            exact ⟨fun _ => more (fun z4 => by rcases z4 with z4 | z4; exact m0 z4; exact z4.2 c), fun y => absurd y (by decide)⟩
          · rw [decide_eq_false c]
            exact ⟨fun y => absurd rfl y, fun _ => fin (Or.inr ⟨nl, c⟩)⟩
  refine w_X5_names_0 (by omega) ?_
  rw [h.1.2.1]
  refine ⟨h.1.2.2.1, cs_note (by omega) h (by omega) (fun V2 r2 s2 a2 => ?_)⟩
  refine go most 0 i V2 [] 0 (by omega) rfl hm (by omega) r2 ?_ a2 he (fun i1 vs z => ?_)
  · rw [svx_self, Int32.or_zero]; exact s2
  · have := hy i1 vs z
    rw [List.nil_append]
    exact this
theorem cs_numerals {sg : Bool} {most top : Nat} {K : Int32 → VH → Prop} (h0 : 4 < d) (h : CS V g T L tc nm i o nb ub sv) (hn : nb + 2 ≤ i) (hm : 1 ≤ most) (hm2 : most ≤ 20) (ht : top ≤ 9999) (he : ∀ e, nls T sg top most i = .inl e → ∀ V', Rdf V V' g → Flt V' e → K 0 V') (hy : ∀ i1 xs, nls T sg top most i = .inr (i1, xs) → ∀ V', Rdf V V' g → CS V' g T L tc nm i1 o (nb + (xs.length + 1)) ub (sv ||| svx T (lku tc nm) i i1) → Apd V V' g ub nb [] (nI xs.length :: xs) → i ≤ i1 → K 1 V') : vMI E d M_X5_numerals [sl 0 7, wi (bI sg), wi (nI most), wi (nI top)] V K := by
  have go : ∀ (m n j : Nat) (W : VH) (as : List Int32) (y : Int32), n + m = most → as.length = n → 1 ≤ m → i + 2 * n ≤ j → Rdf V W g → CS W g T L tc nm j o (nb + 1 + n) ub (sv ||| svx T (lku tc nm) i j) → Apd V W g ub nb [] (y :: as) → (∀ e, nls T sg top m j = .inl e → ∀ V', Rdf V V' g → Flt V' e → K 0 V') → (∀ i1 xs, nls T sg top m j = .inr (i1, xs) → ∀ V', Rdf V V' g → CS V' g T L tc nm i1 o (nb + ((as ++ xs).length + 1)) ub (sv ||| svx T (lku tc nm) i i1) → Apd V V' g ub nb [] (nI (as ++ xs).length :: (as ++ xs)) → i ≤ i1 → K 1 V') → vwp E d M_X5_numerals 13 [some (sl 0 7), some (wi (bI sg)), some (wi (nI most)), some (wi (nI top)), some (wi (nI nb)), some (wi (nI (n + 1)))] [] W (zi K) := by
    intro m
    induction m with
    | zero => intro n j W as y e _ h1; omega
    | succ m ih =>
      intro n j W as y e el _ hj r s a he hy
      have hjL := s.2.2.1
      have hLn := s.1.2.2.2.2.2.1.2.1
      rw [nls] at he hy
      refine w_X5_numerals_13 (by omega) ⟨fun q => absurd q (nI_nlt (by omega) (by omega)), fun _ => ?_⟩
      refine cs_numeral (sg := sg) (lo := 0) (hi := top) (by omega) s (by omega) ht (fun e2 z V' r2 f => ⟨fun y => absurd rfl y, fun _ => he e2 (by rw [z]; rfl) V' (r.trans r2) f⟩) (fun i1 x z V1 r1 s1 a1 x1 _ b1 b2 b3 sz => ?_)
      have il := s1.2.2.1
      have b4 : j + 1 ≤ i1 := by
        have := nmr_fit (T := T) (L := L) s.1.2.2.2.2.2.1.1 (sg := sg) (lo := 0) (hi := top) hjL
        rw [z] at this
        exact this.1
      refine ⟨fun _ => ?_, fun y => absurd y (by decide)⟩
      rw [s1.1.2.1, x1]
      refine ⟨s1.1.2.2.1, cs_note (by omega) s1 (by omega) (fun V2 r2 s2 a2 => ?_)⟩
      rw [s2.1.2.1]
      refine ⟨s2.1.2.2.1, cs_amend (j := nb) s2 (by omega) (fun V4 r4 s4 k1 k2 k3 => ?_)⟩
      rw [z, nrB_r] at he hy
      have aa : Apd V V4 g ub nb [] (nI (n + 1) :: (as ++ [x])) := by
        have t1 : Apd W V2 g (ub + 2 * ([] : CD).length) (nb + (y :: as).length) [] [x] := by
          rw [List.length_cons, el]
          show Apd W V2 g ub (nb + (n + 1)) [] [x]
          rw [show nb + (n + 1) = nb + 1 + n from by omega]; exact a1.trans a2
        have t2 : Apd V V2 g ub nb [] (y :: (as ++ [x])) := a.trans t1
        exact t2.amend k1 k2 k3
      have sn : CS V4 g T L tc nm i1 o (nb + 1 + (n + 1)) ub (sv ||| svx T (lku tc nm) i i1) := by
        have q : sv ||| svx T (lku tc nm) i j = sv ||| svx T (lku tc nm) i i1 := by
          rw [← svx_tr (T := T) (M := lku tc nm) (i := i) (j := j) (k := i1) (by omega) b1, sz, Int32.or_zero]
        rw [q] at s4
        exact s4
      have rr : Rdf V V4 g := ((r.trans r1).trans r2).trans r4
      have fin : (m = 0 ∨ (T i1).1 ≠ 44) → K 1 V4 := fun z2 => by
        rw [if_pos z2] at hy
        have q := hy i1 [x] rfl V4 rr
        have e1 : (as ++ [x]).length = n + 1 := by rw [List.length_append, el]; rfl
        rw [e1] at q
        refine q ?_ aa (by omega)
        rw [show nb + (n + 1 + 1) = nb + 1 + (n + 1) from by omega]; exact sn
      refine ⟨fun z2 => fin (Or.inl ?_), fun z2 => ?_⟩
      · have := (nI_eq (by omega) (by omega)).mp z2
        omega
      · have m0 : m ≠ 0 := fun z3 => z2 (by rw [show n + 1 = most from by omega])
        refine cs_is (c := 44) sn (by decide) (by decide) ?_
        by_cases c : (T i1).1 = 44
        · rw [decide_eq_true c]
          rw [if_neg (fun z4 => by rcases z4 with z4 | z4; exact m0 z4; exact z4 c)] at he hy
          refine ⟨fun _ => cs_step sn (by omega) (by omega) (fun V5 r5 s5 a5 => ?_), fun y => absurd y (by decide)⟩
          rw [show nI (n + 1) + 1 = nI (n + 1 + 1) from nI_1 (n + 1)]
          refine ih (n + 1) (i1 + 1) V5 (as ++ [x]) (nI (n + 1)) (by omega) (by rw [List.length_append, el]; rfl) (by omega) (by omega) (rr.trans r5) ?_ (aa.sm a5 (Nat.le_refl _) (by rw [List.length_cons, List.length_append, el]; show nb + (n + 1 + 1) ≤ nb + 1 + (n + 1); omega)) (fun e2 z4 => he e2 (by rw [z4]; rfl)) (fun i2 xs z4 => ?_)
          · have q : svx T (lku tc nm) i i1 = svx T (lku tc nm) i (i1 + 1) := (svx_r (by omega) (by omega)).symm
            rw [q] at s5
            exact s5
          · have q := hy i2 (x :: xs) (by rw [z4]; rfl)
            rw [show as ++ x :: xs = (as ++ [x]) ++ xs from by rw [List.append_assoc]; rfl] at q
            exact q
        · rw [decide_eq_false c]
          exact ⟨fun y => absurd rfl y, fun _ => fin (Or.inr c)⟩
  refine w_X5_numerals_0 (by omega) ?_
  rw [h.1.2.1]
  refine ⟨h.1.2.2.1, cs_note (by omega) h (by omega) (fun V2 r2 s2 a2 => ?_)⟩
  refine go most 0 i V2 [] 0 (by omega) rfl hm (by omega) r2 ?_ a2 he (fun i1 xs z => ?_)
  · rw [svx_self, Int32.or_zero]; exact s2
  · have := hy i1 xs z
    rw [List.nil_append]
    exact this
theorem cs_groups {tx wide : Nat} {sh : Nat → Nat} {K : Int32 → VH → Prop} (hF : eFr E) (h0 : 5 < d) (h : CS V g T L tc nm i o nb ub sv) (hn : nb + 2 ≤ i) (htx : tx < 22) (htl : 1 ≤ txN tx) (hw : wide ≤ 12) (hsh : ∀ j, j < wide → sh j ≤ 3 ∧ txB tx (min j (txN tx - 1)) = chS (sh j)) (he : ∀ e, grs T (lku tc nm) sh wide 40 i = .inl e → ∀ V', Rdf V V' g → Flt V' e → K 0 V') (hy : ∀ i1 q, grs T (lku tc nm) sh wide 40 i = .inr (i1, q) → ∀ V', Rdf V V' g → CS V' g T L tc nm i1 o (nb + (q.2.length + 1)) ub (sv ||| svx T (lku tc nm) i i1) → Apd V V' g ub nb [] (nI q.1 :: q.2) → i + q.2.length + 1 ≤ i1 → K 1 V') : vMI E d M_X5_groups [sl 0 7, wt tx, wi (nI wide)] V K := by
  have tl30 := (tx_lt tx htx).1
  -- one group
  have inner : ∀ (m j k n : Nat) (W : VH) (fs xs : List Int32) (y : Int32), j + m = wide → xs.length = j → n ≤ 40 → i ≤ k → nb + 1 + (fs.length + j) + 1 ≤ k → i + (fs.length + j) + (fs.length + j) ≤ k → Rdf V W g → CS W g T L tc nm k o (nb + 1 + (fs.length + j)) ub (sv ||| svx T (lku tc nm) i k) → Apd V W g ub nb [] (y :: (fs ++ xs)) → (∀ e, grp T (lku tc nm) sh m j k = .inl e → ∀ V', Rdf V V' g → Flt V' e → K 0 V') → (∀ k1 ys, grp T (lku tc nm) sh m j k = .inr (k1, ys) → ys.length = m → ∀ V', Rdf V V' g → CS V' g T L tc nm k1 o (nb + 1 + (fs.length + wide)) ub (sv ||| svx T (lku tc nm) i k1) → Apd V V' g ub nb [] (y :: (fs ++ (xs ++ ys))) → i ≤ k1 → nb + 1 + (fs.length + wide) + 1 ≤ k1 → i + (fs.length + wide) + (fs.length + wide) ≤ k1 → vwp E d M_X5_groups 22 [some (sl 0 7), some (wt tx), some (wi (nI wide)), some (wi (nI nb)), some (wi (nI n)), some (wi (nI wide)), none] [] V' (zi K)) → vwp E d M_X5_groups 22 [some (sl 0 7), some (wt tx), some (wi (nI wide)), some (wi (nI nb)), some (wi (nI n)), some (wi (nI j)), none] [] W (zi K) := by
    intro m
    induction m with
    | zero =>
      intro j k n W fs xs y ej el hn40 hik hb hb2 r s a he hy
      have : j = wide := by omega
      subst this
      exact hy k [] rfl rfl W r s (by rw [List.append_nil]; exact a) hik hb hb2
    | succ m ih =>
      intro j k n W fs xs y ej el hn40 hik hb hb2 r s a he hy
      have hkL := s.2.2.1
      have hLn := s.1.2.2.2.2.2.1.2.1
      obtain ⟨hs3, hch⟩ := hsh j (by omega)
      rw [grp] at he hy
      have emin : imin (nI j) (nI (txN tx) - 1) = nI (min j (txN tx - 1)) := by
        rw [show (1 : Int32) = nI 1 from rfl, nI_sub htl]
        by_cases c : j ≤ txN tx - 1
        · rw [imin_nI c (by omega), Nat.min_eq_left c]
        · rw [imin_nI' (by omega) (by omega), Nat.min_eq_right (by omega)]
      refine w_X5_groups_22 (by omega) ⟨fun q => absurd q (nI_ge (by omega) (by omega)), fun _ => ⟨htx, c_tlen htx (by omega) ?_⟩⟩
      rw [emin]
      refine c_charAt hF htx (by omega) (by omega) ?_
      rw [hch]
      -- behind the bracket or comma
      have body : ∀ (W1 : VH), (T k).1 = (if j = 0 then 40 else 44) → Rdf V W1 g → CS W1 g T L tc nm (k + 1) o (nb + 1 + (fs.length + j)) ub (sv ||| svx T (lku tc nm) i k) → Apd V W1 g ub nb [] (y :: (fs ++ xs)) →
          ((¬ nI (chS (sh j)) = 118 → (¬ nI (chS (sh j)) = 105 → vwp E d M_X5_groups 99 [some (sl 0 7), some (wt tx), some (wi (nI wide)), some (wi (nI nb)), some (wi (nI n)), some (wi (nI j)), some (wi (nI (chS (sh j))))] [wi 0, sl 0 7] W1 (zi K)) ∧ (nI (chS (sh j)) = 105 → vwp E d M_X5_groups 99 [some (sl 0 7), some (wt tx), some (wi (nI wide)), some (wi (nI nb)), some (wi (nI n)), some (wi (nI j)), some (wi (nI (chS (sh j))))] [wi 1, sl 0 7] W1 (zi K))) ∧ (nI (chS (sh j)) = 118 → vMI E (d - 1) M_X5_variable [sl 0 7] W1 (fun r3 V3 => (r3 = 0 → K 0 V3) ∧ (¬ r3 = 0 → vwp E d M_X5_groups 123 [some (sl 0 7), some (wt tx), some (wi (nI wide)), some (wi (nI nb)), some (wi (nI n)), some (wi (nI j)), some (wi (nI (chS (sh j))))] [] V3 (zi K))))) := fun W1 ck r1 s1 a1 => by
        rw [if_pos ck] at he hy
        have k1L := s1.2.2.1
        -- an entry x has been read and noted
        have next : ∀ (k1 : Nat) (x : Int32) (W2 : VH), ent T (lku tc nm) (sh j) (k + 1) = .inr (k1, x) → k + 2 ≤ k1 → Rdf V W2 g → CS W2 g T L tc nm k1 o (nb + 1 + (fs.length + (j + 1))) ub (sv ||| svx T (lku tc nm) i k1) → Apd V W2 g ub nb [] (y :: (fs ++ (xs ++ [x]))) → vwp E d M_X5_groups 142 [some (sl 0 7), some (wt tx), some (wi (nI wide)), some (wi (nI nb)), some (wi (nI n)), some (wi (nI j)), some (wi (nI (chS (sh j))))] [] W2 (zi K) := fun k1 x W2 z hk1 r2 s2 a2 => by
          rw [z, nrB_r] at he hy
          refine w_X5_groups_142 ?_
          rw [nI_1]
          refine ih (j + 1) k1 n W2 fs (xs ++ [x]) y (by omega) (by rw [List.length_append, el]; rfl) hn40 (by omega) (by omega) (by omega) r2 s2 a2 (fun e2 z4 => he e2 (by show nrB (grp T (lku tc nm) sh m (j + 1) k1) _ = _; rw [z4]; rfl)) (fun k2 ys z4 el4 V' r4 s4 a4 => ?_)
          refine hy k2 (x :: ys) (by show nrB (grp T (lku tc nm) sh m (j + 1) k1) _ = _; rw [z4]; rfl) (by rw [List.length_cons, el4]) V' r4 s4 ?_
          rw [show xs ++ x :: ys = (xs ++ [x]) ++ ys from by rw [List.append_assoc]; rfl]
          exact a4
        have hsv : svx T (lku tc nm) i k = svx T (lku tc nm) i (k + 1) := (svx_r (by rw [ck]; split <;> decide) (by omega)).symm
        have nums : ∀ (sg : Bool) (t top : Nat), ent T (lku tc nm) (sh j) (k + 1) = nmr T sg 0 top (k + 1) → top ≤ 9999 → sh j ≠ 0 → vMI E (d - 1) M_X5_numeral [sl 0 7, wi (bI sg), wi 0, wi (nI top)] W1 (fun r1 V1 => (¬ r1 = 0 → vwp E d M_X5_groups 123 [some (sl 0 7), some (wt tx), some (wi (nI wide)), some (wi (nI nb)), some (wi (nI n)), some (wi (nI j)), some (wi (nI (chS (sh j))))] [] V1 (zi K)) ∧ (r1 = 0 → K 0 V1)) := fun sg t top ee ht hs0 => by
          refine cs_numeral (lo := 0) (by omega) s1 (by omega) ht (fun e2 z V' r2 f => ⟨fun y => absurd rfl y, fun _ => he e2 (by rw [ee, z]; rfl) V' (r1.trans r2) f⟩) (fun i1 x z V2 r2 s2 a2 x2 _ b1 b2 b3 sz => ⟨fun _ => ?_, fun y => absurd y (by decide)⟩)
          have b4 : k + 2 ≤ i1 := by
            have := nmr_fit (T := T) (L := L) s.1.2.2.2.2.2.1.1 (sg := sg) (lo := 0) (hi := top) k1L
            rw [z] at this
            exact this.1
          refine w_X5_groups_123 (by omega) ⟨fun y => ?_, fun _ => ?_⟩
          · exfalso
            have y := (nI_eq (b := 118) (by unfold chS; split <;> (try split) <;> (try split) <;> decide) (by decide)).mp y
            unfold chS at y
            rw [if_neg hs0] at y
            split at y
            · omega
            · split at y <;> omega
          · rw [s2.1.2.1, x2]
            have i1L := s2.2.2.1
            refine ⟨s2.1.2.2.1, cs_note (by omega) s2 (by omega) (fun V3 r3 s3 a3 => ?_)⟩
            refine next i1 x V3 (by rw [ee]; exact z) b4 ((r1.trans r2).trans r3) ?_ ?_
            · have q : sv ||| svx T (lku tc nm) i k = sv ||| svx T (lku tc nm) i i1 := by
                rw [hsv, ← svx_tr (T := T) (M := lku tc nm) (i := i) (j := k + 1) (k := i1) (by omega) (by omega), sz, Int32.or_zero]
              rw [q] at s3
              rw [show nb + 1 + (fs.length + (j + 1)) = nb + 1 + (fs.length + j) + 1 from by omega]
              exact s3
            · have t1 : Apd W1 V3 g (ub + 2 * ([] : CD).length) (nb + (y :: (fs ++ xs)).length) [] [x] := by
                rw [List.length_cons, List.length_append, el]
                show Apd W1 V3 g ub (nb + (fs.length + j + 1)) [] [x]
                rw [show nb + (fs.length + j + 1) = nb + 1 + (fs.length + j) from by omega]
                exact a2.trans a3
              exact (a1.trans t1).ex rfl (by show y :: (fs ++ xs ++ [x]) = _; rw [List.append_assoc])
        have n118 := fun c : Nat => nI_eq (a := c) (b := 118)
        have cl : chS (sh j) < 2 ^ 31 := by unfold chS; split <;> (try split) <;> (try split) <;> decide
        have d118 : nI (chS (sh j)) = 118 ↔ sh j = 0 := by
          rw [show (118 : Int32) = nI 118 from rfl, nI_eq cl (by decide)]
          unfold chS
          constructor
          · intro z; by_cases c : sh j = 0
            · exact c
            · rw [if_neg c] at z; split at z
              · omega
              · split at z <;> omega
          · intro z; rw [if_pos z]
        have d105 : nI (chS (sh j)) = 105 ↔ sh j = 1 := by
          rw [show (105 : Int32) = nI 105 from rfl, nI_eq cl (by decide)]
          unfold chS
          constructor
          · intro z; by_cases c : sh j = 0
            · rw [if_pos c] at z; omega
            · rw [if_neg c] at z
              by_cases c1 : sh j = 1
              · exact c1
              · rw [if_neg c1] at z; split at z <;> omega
          · intro z; rw [if_neg (by omega), if_pos z]
        have d115 : nI (chS (sh j)) = 115 ↔ sh j = 3 := by
          rw [show (115 : Int32) = nI 115 from rfl, nI_eq cl (by decide)]
          unfold chS
          constructor
          · intro z; by_cases c : sh j = 0
            · rw [if_pos c] at z; omega
            · rw [if_neg c] at z
              by_cases c1 : sh j = 1
              · rw [if_pos c1] at z; omega
              · rw [if_neg c1] at z
                by_cases c2 : sh j = 2
                · rw [if_pos c2] at z; omega
                · omega
          · intro z; rw [if_neg (by omega), if_neg (by omega), if_neg (by omega)]
        have fin99 : ∀ sg : Bool, (sg = decide (sh j = 1)) → sh j ≠ 0 → vwp E d M_X5_groups 99 [some (sl 0 7), some (wt tx), some (wi (nI wide)), some (wi (nI nb)), some (wi (nI n)), some (wi (nI j)), some (wi (nI (chS (sh j))))] [wi (bI sg), sl 0 7] W1 (zi K) := fun sg esg hs0 => by
          have ee : ∀ top, (if sh j = 3 then 9 else 9999) = top → ent T (lku tc nm) (sh j) (k + 1) = nmr T sg 0 top (k + 1) := fun top et => by
            unfold ent
            rw [if_neg hs0, ← esg, et]
          refine w_X5_groups_99 ⟨fun z => w_X5_groups_115 (by omega) (nums sg 0 9999 (ee 9999 (by rw [if_neg (fun y => z (d115.mpr y))])) (by omega) hs0), fun z => w_X5_groups_115 (by omega) (nums sg 0 9 (ee 9 (by rw [if_pos (d115.mp z)])) (by omega) hs0)⟩
        refine ⟨fun z => ⟨fun z2 => ?_, fun z2 => ?_⟩, fun z => ?_⟩
        · exact fin99 false (decide_eq_false (fun y => z2 (d105.mpr y))).symm (fun y => z (d118.mpr y))
        · exact fin99 true (decide_eq_true (d105.mp z2)).symm (fun y => z (d118.mpr y))
        · have s0 := d118.mp z
          have ee : ent T (lku tc nm) (sh j) (k + 1) = nrB (vrb T (lku tc nm) (k + 1)) (fun i1 v => .inr (i1, nI v)) := by unfold ent; rw [if_pos s0]
          refine cs_variable (by omega) s1 (by omega) (fun e2 z V' r2 f => ⟨fun _ => he e2 (by rw [ee, z]; rfl) V' (r1.trans r2) f, fun y => absurd rfl y⟩) (fun v z V2 r2 s2 a2 => ⟨fun y => absurd y (by decide), fun _ => ?_⟩)
          refine w_X5_groups_123 (by omega) ⟨fun _ => ?_, fun y => absurd (by rw [s0]; rfl) y⟩
          refine next (k + 2) (nI v) V2 (by rw [ee, z]; rfl) (by omega) (r1.trans r2) ?_ ?_
          · have q : (sv ||| svx T (lku tc nm) i k) ||| svx T (lku tc nm) (k + 1) (k + 1 + 1) = sv ||| svx T (lku tc nm) i (k + 2) := by
              rw [hsv, Int32.or_assoc, svx_tr (by omega) (by omega)]
            rw [q] at s2
            rw [show nb + 1 + (fs.length + (j + 1)) = nb + 1 + (fs.length + j) + 1 from by omega]
            exact s2
          · have t1 : Apd W1 V2 g (ub + 2 * ([] : CD).length) (nb + (y :: (fs ++ xs)).length) [] [nI v] := by
              rw [List.length_cons, List.length_append, el]
              show Apd W1 V2 g ub (nb + (fs.length + j + 1)) [] [nI v]
              rw [show nb + (fs.length + j + 1) = nb + 1 + (fs.length + j) from by omega]
              exact a2
            exact (a1.trans t1).ex rfl (by show y :: (fs ++ xs ++ [nI v]) = _; rw [List.append_assoc])
      by_cases cj : j = 0
      · have b := body
        rw [if_pos cj] at b he
        refine ⟨fun q => absurd (by rw [cj]; rfl) q, fun _ => w_X5_groups_61 (by omega) (cs_accept (c := 40) (by omega) s (by decide) (by decide) (fun z V' r2 f => ⟨fun y => absurd rfl y, fun _ => he _ (by rw [if_neg z]) V' (r.trans r2) f⟩) (fun z V1 r1 s1 a1 => ⟨fun _ => b V1 z (r.trans r1) s1 (a.sm a1 (Nat.le_refl _) (by rw [List.length_cons, List.length_append, el]; omega)), fun y => absurd y (by decide)⟩))⟩
      · have b := body
        rw [if_neg cj] at b he
        refine ⟨fun _ => w_X5_groups_61 (by omega) (cs_accept (c := 44) (by omega) s (by decide) (by decide) (fun z V' r2 f => ⟨fun y => absurd rfl y, fun _ => he _ (by rw [if_neg z]) V' (r.trans r2) f⟩) (fun z V1 r1 s1 a1 => ⟨fun _ => b V1 z (r.trans r1) s1 (a.sm a1 (Nat.le_refl _) (by rw [List.length_cons, List.length_append, el]; omega)), fun y => absurd y (by decide)⟩)), fun q => absurd ((nI_eq (b := 0) (by omega) (by decide)).mp q) cj⟩
  -- all groups
  have go : ∀ (m n k : Nat) (W : VH) (fs : List Int32) (y : Int32), n + m = 40 → 1 ≤ m → i ≤ k → nb + 1 + fs.length + 1 ≤ k → i + fs.length + fs.length ≤ k → Rdf V W g → CS W g T L tc nm k o (nb + 1 + fs.length) ub (sv ||| svx T (lku tc nm) i k) → Apd V W g ub nb [] (y :: fs) → (∀ e, grs T (lku tc nm) sh wide m k = .inl e → ∀ V', Rdf V V' g → Flt V' e → K 0 V') → (∀ i1 q, grs T (lku tc nm) sh wide m k = .inr (i1, q) → ∀ V', Rdf V V' g → CS V' g T L tc nm i1 o (nb + ((fs ++ q.2).length + 1)) ub (sv ||| svx T (lku tc nm) i i1) → Apd V V' g ub nb [] (nI (n + q.1) :: (fs ++ q.2)) → i + (fs ++ q.2).length + 1 ≤ i1 → K 1 V') → vwp E d M_X5_groups 12 [some (sl 0 7), some (wt tx), some (wi (nI wide)), some (wi (nI nb)), some (wi (nI (n + 1))), none, none] [] W (zi K) := by
    intro m
    induction m with
    | zero => intro n k W fs y e h1; omega
    | succ m ih =>
      intro n k W fs y e _ hik hb hb2 r s a he hy
      have hkL := s.2.2.1
      have hLn := s.1.2.2.2.2.2.1.2.1
      rw [grs] at he hy
      refine w_X5_groups_12 ⟨fun q => absurd q (nI_nlt (a := 40) (b := n + 1) (by omega) (by decide)), fun _ => ?_⟩
      refine inner wide 0 k (n + 1) W fs [] y (by omega) rfl (by omega) hik (by omega) (by omega) r (by rw [Nat.add_zero]; exact s) (by rw [List.append_nil]; exact a) (fun e2 z V' r2 f => he e2 (by rw [z]; rfl) V' r2 f) (fun k1 ys z ely V1 r1 s1 a1 hik1 hb1 hb3 => ?_)
      rw [z, nrB_r] at he hy
      rw [List.nil_append] at a1
      have ely2 : (fs ++ ys).length = fs.length + wide := by rw [List.length_append, ely]
      refine w_X5_groups_22 (by omega) ⟨fun _ => ?_, fun q => absurd (nI_le (Nat.le_refl _) (by omega)) q⟩
      refine cs_accept (c := 41) (by omega) s1 (by decide) (by decide) (fun z2 V' r2 f => ⟨fun y => absurd rfl y, fun _ => he _ (by show (if (T k1).1 = 41 then _ else _) = _; rw [if_neg z2]) V' (r1.trans r2) f⟩) (fun z2 V2 r2 s2 a2 => ⟨fun _ => ?_, fun y => absurd y (by decide)⟩)
      have he : ∀ e, (if m = 0 ∨ (T (k1 + 1)).1 ≠ 44 then (.inr (k1 + 1, 1, ys) : NR (Nat × List Int32)) else nrB (grs T (lku tc nm) sh wide m (k1 + 2)) (fun i2 q => .inr (i2, q.1 + 1, ys ++ q.2))) = .inl e → ∀ V', Rdf V V' g → Flt V' e → K 0 V' := fun e2 z3 => he e2 (by show (if (T k1).1 = 41 then _ else _) = _; rw [if_pos z2]; exact z3)
      have hy : ∀ i1 q, (if m = 0 ∨ (T (k1 + 1)).1 ≠ 44 then (.inr (k1 + 1, 1, ys) : NR (Nat × List Int32)) else nrB (grs T (lku tc nm) sh wide m (k1 + 2)) (fun i2 q => .inr (i2, q.1 + 1, ys ++ q.2))) = .inr (i1, q) → ∀ V', Rdf V V' g → CS V' g T L tc nm i1 o (nb + ((fs ++ q.2).length + 1)) ub (sv ||| svx T (lku tc nm) i i1) → Apd V V' g ub nb [] (nI (n + q.1) :: (fs ++ q.2)) → i + (fs ++ q.2).length + 1 ≤ i1 → K 1 V' := fun i1 q z3 => hy i1 q (by show (if (T k1).1 = 41 then _ else _) = _; rw [if_pos z2]; exact z3)
      rw [s2.1.2.1]
      refine ⟨s2.1.2.2.1, cs_amend (j := nb) s2 (by omega) (fun V4 r4 s4 q1 q2 q3 => ?_)⟩
      have aa : Apd V V4 g ub nb [] (nI (n + 1) :: (fs ++ ys)) := (a1.sm a2 (Nat.le_refl _) (by rw [List.length_cons, ely2]; omega)).amend q1 q2 q3
      have rr : Rdf V V4 g := (r1.trans r2).trans r4
      have sn : CS V4 g T L tc nm (k1 + 1) o (nb + 1 + (fs.length + wide)) ub (sv ||| svx T (lku tc nm) i (k1 + 1)) := by
        rw [svx_r (by omega) (by omega)]; exact s4
      have fin : (m = 0 ∨ (T (k1 + 1)).1 ≠ 44) → K 1 V4 := fun z3 => by
        refine hy (k1 + 1) (1, ys) (by rw [if_pos z3]) V4 rr ?_ aa ?_
        · show CS V4 g T L tc nm (k1 + 1) o (nb + ((fs ++ ys).length + 1)) ub _
          rw [ely2, show nb + (fs.length + wide + 1) = nb + 1 + (fs.length + wide) from by omega]; exact sn
        · show i + (fs ++ ys).length + 1 ≤ k1 + 1
          rw [ely2]; omega
      refine ⟨fun z3 => fin (Or.inl ?_), fun z3 => ?_⟩
      · have := (nI_eq (b := 40) (by omega) (by decide)).mp z3
        omega
      · have m0 : m ≠ 0 := fun z4 => z3 (by rw [show n + 1 = 40 from by omega]; rfl)
        refine cs_is (c := 44) sn (by decide) (by decide) ?_
        by_cases c : (T (k1 + 1)).1 = 44
        · rw [decide_eq_true c]
          have nz : ¬ (m = 0 ∨ (T (k1 + 1)).1 ≠ 44) := fun z4 => by rcases z4 with z4 | z4; exact m0 z4; exact z4 c
          refine ⟨fun _ => cs_step sn (by omega) (by omega) (fun V5 r5 s5 a5 => ?_), fun y => absurd y (by decide)⟩
          rw [show nI (n + 1) + 1 = nI (n + 1 + 1) from nI_1 (n + 1)]
          refine ih (n + 1) (k1 + 2) V5 (fs ++ ys) (nI (n + 1)) (by omega) (by omega) (by omega) (by rw [ely2]; omega) (by rw [ely2]; omega) (rr.trans r5) ?_ (aa.sm a5 (Nat.le_refl _) (by rw [List.length_cons, ely2]; omega)) (fun e2 z4 => he e2 (by rw [if_neg nz, z4]; rfl)) (fun i1 q z4 V' r6 s6 a6 b6 => ?_)
          · rw [ely2, ← svx_r (T := T) (M := lku tc nm) (i := i) (k := k1 + 1) (by omega) (by omega)] at *
            exact s5
          · refine hy i1 (q.1 + 1, ys ++ q.2) (by rw [if_neg nz, z4]; rfl) V' r6 ?_ ?_ ?_
            · show CS V' g T L tc nm i1 o (nb + ((fs ++ (ys ++ q.2)).length + 1)) ub _
              rw [← List.append_assoc]; exact s6
            · show Apd V V' g ub nb [] (nI (n + (q.1 + 1)) :: (fs ++ (ys ++ q.2)))
              rw [← List.append_assoc, show n + (q.1 + 1) = n + 1 + q.1 from by omega]; exact a6
            · show i + (fs ++ (ys ++ q.2)).length + 1 ≤ i1
              rw [← List.append_assoc]; exact b6
        · rw [decide_eq_false c]
          exact ⟨fun y => absurd rfl y, fun _ => fin (Or.inr c)⟩
  refine w_X5_groups_0 (by omega) ?_
  rw [h.1.2.1]
  refine ⟨h.1.2.2.1, cs_note (by omega) h (by omega) (fun V2 r2 s2 a2 => ?_)⟩
  refine go 40 0 i V2 [] 0 (by omega) (by omega) (Nat.le_refl _) (by show nb + 1 + 0 + 1 ≤ i; omega) (by show i + 0 + 0 ≤ i; omega) r2 ?_ a2 he (fun i1 q z => ?_)
  · rw [svx_self, Int32.or_zero]; exact s2
  · have := hy i1 q z
    rw [List.nil_append, Nat.zero_add]
    exact this
end
