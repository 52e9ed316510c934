/-! the reference reads vars -/
theorem nmr_sg {T : Nat → TK} {lo hi j : Nat} : nmr T true lo hi j = (match nmr T false lo hi (nmj T true j) with
    | .inl e => .inl e
    | .inr q => .inr (q.1, if nmj T true j = j then q.2 else - q.2)) := by
  have e : nmj T false (nmj T true j) = nmj T true j := by unfold nmj; rw [if_neg (fun z => absurd z.1 (by decide))]
  unfold nmr
  rw [e]
  by_cases c2 : (T (nmj T true j)).1 = 2
  · rw [if_pos c2, if_pos c2]
    by_cases c3 : (T (nmj T true j)).2.2.1 < lo ∨ hi < (T (nmj T true j)).2.2.1
    · rw [if_pos c3, if_pos c3]
    · rw [if_neg c3, if_neg c3, if_pos rfl]
  · rw [if_neg c2, if_neg c2]
section
variable {E : EE} {d : Nat} {V V' : VH} {p : Nat} {t : Nat → Int32} {n : Nat} {tc : Nat → Nat} {nm : Nat → Nat → Int64} {i : Nat} {R : List SR} {r : SR} {F : Nat}
/-- what reading values leads to: the list, and how many -/
def VmH (V : VH) (p : Nat) (t : Nat → Int32) (n : Nat) (tc : Nat → Nat) (nm : Nat → Nat → Int64) (i : Nat) (X : NR (List Int32)) (K : Int32 → VH → Prop) : Prop := (∀ e, X = .inl e → ∀ V' x, ML V V' p t n tc nm i (.inl e) → K x V') ∧ ∀ i1 vs, X = .inr (i1, vs) → ∀ V', ML V V' p t n tc nm i (.inr i1) → (∀ k, k < vs.length → vI V' 6 34 k = vs.getD k 0) → vs.length ≤ 199 → K (nI vs.length) V'
theorem ms_aRange {K : Int32 → VH → Prop} (hF : eFr E) (h0 : 12 < d) (h : MZ V p t n tc nm i 0) (hV : VmH V p t n tc nm i (rng (tkT t n) i) K) : vMI E d M_X12_aRange [sl 6 0] V K := by
  obtain ⟨he, hy⟩ := hV
  refine w_X12_aRange_0 (by omega) (ms_anInt (hi := 99) hF (by omega) h rfl (by decide) (fun V1 x m1 hx => ?_))
  cases w1 : nmr (tkT t n) true 0 99 i with
  | inl e =>
    rw [w1] at m1
    have m1 : MO V V1 p t n tc nm 0 i (.inl e) := m1
    exact md_need (by omega) m1.dead (md_isMinus (by omega) m1.dead ⟨fun q => absurd q m1.dead, fun _ => he e (by unfold rng; rw [w1]; rfl) V1 0 m1.ml⟩)
  | inr q =>
    obtain ⟨j, v⟩ := q
    rw [w1] at m1
    have m1 : MO V V1 p t n tc nm 0 i (.inr j) := m1
    have xv := hx j v w1
    subst xv
    have e1 : rng (tkT t n) i = (if (tkT t n j).1 = 202 then nrB (nmr (tkT t n) true 0 99 (j + 1)) (fun i2 y => if y < x then .inl (5, (tkT t n (i2 - 1)).f) else .inr (i2, lsr x y)) else .inl (rfe (tkT t n) j)) := by unfold rng; rw [w1]; rfl
    refine ms_need (c := 202) hF (by omega) m1.2.1 rfl (by decide) (by decide) (fun V3 m3 => ?_)
    unfold nee at m3
    by_cases c2 : (tkT t n j).1 = 202
    rotate_left
    · rw [if_neg c2] at m3 e1
      exact md_isMinus (by omega) m3.dead ⟨fun q => absurd q m3.dead, fun _ => he _ e1 V3 0 (m1.tr m3).ml⟩
    rw [if_pos c2] at m3 e1
    have m13 := m1.tr m3
    obtain ⟨⟨bx1, bx2⟩, _⟩ := nmr_hi (by decide) w1
    -- behind the sign
    have rest : ∀ (W : VH) (t0 x2 : Int32), MO V W p t n tc nm 0 i (.inr (nmj (tkT t n) true (j + 1))) → ((tkT t n (nmj (tkT t n) true (j + 1))).1 = 2 → t0 = if nmj (tkT t n) true (j + 1) = j + 1 then nI (tkT t n (nmj (tkT t n) true (j + 1))).2.2.1 else - nI (tkT t n (nmj (tkT t n) true (j + 1))).2.2.1) → vwp E d M_X12_aRange 44 [some (sl 6 0), some (wi x), some (wi x2), none, none, none] [wi t0] W (zi K) := by
      intro W t0 x2 mW ht
      generalize ej : nmj (tkT t n) true (j + 1) = k at mW ht
      have sW := mW.2.1
      obtain ⟨t1, t2, t3, t4⟩ := sW.tok
      rw [nmr_sg, ej] at e1
      have k2 := sW.is 2 (by decide)
      -- the number
      have num : ∀ (W1 : VH) (x3 : Int32), (nmr (tkT t n) false 0 99 k = .inr (k + 1, nI (tkT t n k).2.2.1) → W1 = W ∧ x3 = t0 ∧ ¬ t0 < x) → W1 = W ∨ (∃ e, rng (tkT t n) i = .inl e ∧ ML V W1 p t n tc nm i (.inl e)) → (W1 = W → ∀ e, nmr (tkT t n) false 0 99 k = .inl e → rng (tkT t n) i = .inl e) → vwp E d M_X12_aRange 76 [some (sl 6 0), some (wi x), some (wi x2), some (wi x3), none, none] [] W1 (zi K) := by
        intro W1 x3 good alt badn
        rcases alt with z | ⟨e, z1, z2⟩
        rotate_left
        · have dd : ¬ vI W1 6 0 45 = 0 := z2.2.dead
          exact w_X12_aRange_76 (by omega) (md_aNumber (by omega) dd (w_X12_aRange_88 ⟨fun _ => w_X12_aRange_120 (he e z1 W1 _ z2), fun q => absurd q dd⟩))
        subst z
        refine w_X12_aRange_76 (by omega) (ms_aNumber (lo := 0) (hi := 99) hF (by omega) sW rfl rfl (by decide) (by decide) (fun V7 m7 => ?_))
        cases w7 : nmr (tkT t n) false 0 99 k with
        | inl e =>
          rw [w7] at m7
          have m7 : MO W1 V7 p t n tc nm 0 k (.inl e) := m7
          exact w_X12_aRange_88 ⟨fun _ => w_X12_aRange_120 (he e (badn rfl e w7) V7 _ (mW.tr m7).ml), fun q => absurd q m7.dead⟩
        | inr q =>
          obtain ⟨k', y'⟩ := q
          rw [w7] at m7
          have m7 : MO W1 V7 p t n tc nm 0 k (.inr k') := m7
          obtain ⟨b7, _, _, c7, cs⟩ := nmr_hi (by decide) w7
          obtain ⟨ek', _⟩ := cs rfl
          subst ek'
          have c7 : (tkT t n k).1 = 2 := c7
          have ey : y' = nI (tkT t n k).2.2.1 := by
            unfold nmr at w7
            have e0 : nmj (tkT t n) false k = k := by unfold nmj; rw [if_neg (fun z => absurd z.1 (by decide))]
            rw [e0, if_pos c7] at w7
            split at w7
            · exact (ncI w7).elim
            · have := congrArg Prod.snd (Sum.inr.inj w7)
              rw [if_pos rfl] at this
              exact this.symm
          subst ey
          obtain ⟨_, e3, nlt⟩ := good w7
          subst e3
          rw [w7] at e1
          have e1 : rng (tkT t n) i = (if (if k = j + 1 then nI (tkT t n k).2.2.1 else - nI (tkT t n k).2.2.1) < x then .inl (5, (tkT t n (k + 1 - 1)).f) else .inr (k + 1, lsr x (if k = j + 1 then nI (tkT t n k).2.2.1 else - nI (tkT t n k).2.2.1))) := e1
          rw [← ht c7, if_neg nlt] at e1
          have bt0 : Bn 99 x3 := by
            rw [ht c7]
            split
            · exact b7
            · obtain ⟨b1, b2⟩ := b7
              have en : (- nI (tkT t n k).2.2.1).toInt = -((nI (tkT t n k).2.2.1).toInt) := by rw [Int32.toInt_neg]; exact Int.bmod_eq_of_le (by omega) (by omega)
              exact ⟨by rw [en]; omega, by rw [en]; omega⟩
          obtain ⟨by1, by2⟩ := bt0
          have qi : x.toInt ≤ x3.toInt := by have := mt Int32.lt_iff_toInt_lt.mpr nlt; omega
          have len := lsr_len x x3
          have ed : (x3 - x).toInt = x3.toInt - x.toInt := by rw [Int32.toInt_sub]; exact Int.bmod_eq_of_le (by omega) (by omega)
          have tk : ∀ k : Nat, k ≤ 199 → (nI k).toInt = (k : Int) := fun k hk => Int32.toInt_ofNat_of_lt (by omega)
          have er : x3 - x + 1 = nI (lsr x x3).length := by
            refine Int32.toInt_inj.mp ?_
            rw [tk _ (by omega), Int32.toInt_add, ed, show (1 : Int32).toInt = 1 by decide]
            rw [Int.bmod_eq_of_le (by omega) (by omega)]; omega
          have m17 := (mW.tr m7).ml
          have go : ∀ (m u : Nat) (W : VH), u + m = (lsr x x3).length → ML V W p t n tc nm i (.inr (k + 1)) → (∀ j, j < u → vI W 6 34 j = x + nI j) → vwp E d M_X12_aRange 88 [some (sl 6 0), some (wi x), some (wi x2), some (wi x3), some (wi (vI W1 6 0 42)), some (wi (nI u))] [] W (zi K) := by
            intro m
            induction m with
            | zero =>
              intro u W eu mm wl
              refine w_X12_aRange_88 ⟨fun q => absurd mm.2.1.2.1 q, fun _ => ⟨fun _ => w_X12_aRange_120 ?_, fun q => absurd (show x3 - x < nI u by rw [Int32.lt_iff_toInt_lt, ed, tk u (by omega)]; omega) q⟩⟩
              rw [er]
              exact hy _ _ e1 W mm (fun v hv => by rw [wl v (by omega), lsr_get hv]) (by omega)
            | succ m ih =>
              intro u W eu mm wl
              refine w_X12_aRange_88 ⟨fun q => absurd mm.2.1.2.1 q, fun _ => ⟨fun q => absurd (show (x3 - x).toInt < (nI u).toInt from Int32.lt_iff_toInt_lt.mp q) (by rw [ed, tk u (by omega)]; omega), fun _ => ?_⟩⟩
              rw [nI_clamp (show u < 2 ^ 31 by omega), nI_1]
              refine ⟨vp_in_nI (by omega) (by decide), fun V2 f2 => ih (u + 1) V2 (by omega) (mm.ls f2) (fun v hv => ?_)⟩
              by_cases z : v = u
              · subst z; rw [f2, wrI_at]
              · rw [f2, wrI_ne (fun y => by omega)]; exact wl v (by omega)
          exact go _ 0 V7 (Nat.zero_add _) m17 (fun u hu => absurd hu (Nat.not_lt_zero u))
      have bad : ∀ e, nmr (tkT t n) false 0 99 k = .inl e → rng (tkT t n) i = .inl e := fun e z => by rw [e1, z]; rfl
      have same : ∀ x3, (nmr (tkT t n) false 0 99 k = .inr (k + 1, nI (tkT t n k).2.2.1) → ¬ t0 < x) → x3 = t0 → vwp E d M_X12_aRange 76 [some (sl 6 0), some (wi x), some (wi x2), some (wi x3), none, none] [] W (zi K) := fun x3 g e => num W x3 (fun z => ⟨rfl, e, g z⟩) (Or.inl rfl) (fun _ e z => bad e z)
      refine w_X12_aRange_44 (by omega) ⟨fun q => same t0 (fun z => absurd (k2.mpr (nmr_hi (by decide) z).2.2.2.1) q) rfl, fun q => ?_⟩
      have c2 := k2.mp q
      have v9 := (tkT_ok t n k).2.2.2.2.2.2.2 c2
      rw [t4 c2]
      refine ⟨fun q2 => same t0 (fun z => ?_) rfl, fun q2 => ⟨fun q3 => same t0 (fun _ => Int32.not_lt.mpr q3) rfl, fun q3 => ?_⟩⟩
      · obtain ⟨_, _, _, _, cs⟩ := nmr_hi (by decide) z
        obtain ⟨_, nn, en, _, ln⟩ := cs rfl
        have := (nI_eq (by omega) (by omega)).mp en
        have := (nI_ltI (a := 99) (by decide) (by omega)).mp q2
        omega
      · have l99 : ¬ 99 < (tkT t n k).2.2.1 := fun z => q2 ((nI_ltI (a := 99) (by decide) (by omega)).mpr z)
        have w7 : nmr (tkT t n) false 0 99 k = .inr (k + 1, nI (tkT t n k).2.2.1) := by
          unfold nmr
          have e0 : nmj (tkT t n) false k = k := by unfold nmj; rw [if_neg (fun z => absurd z.1 (by decide))]
          rw [e0, if_pos c2, if_neg (by omega), if_pos rfl]
        have e2 : rng (tkT t n) i = .inl (5, (tkT t n k).f) := by
          rw [e1, w7]
          show (if (if k = j + 1 then nI (tkT t n k).2.2.1 else - nI (tkT t n k).2.2.1) < x then .inl (5, (tkT t n (k + 1 - 1)).f) else .inr (k + 1, lsr x (if k = j + 1 then nI (tkT t n k).2.2.1 else - nI (tkT t n k).2.2.1))) = (.inl (5, (tkT t n k).f) : NR (List Int32))
          rw [← ht c2, if_pos (Int32.not_le.mp q3), Nat.add_sub_cancel]
        refine ms_fail sW rfl t2 (by decide) (by decide) (fun V1' m8 => ?_)
        have m8' := (mW.tr m8).ml
        have dd : ¬ vI V1' 6 0 45 = 0 := m8'.2.dead
        exact w_X12_aRange_76 (by omega) (md_aNumber (by omega) dd (w_X12_aRange_88 ⟨fun _ => w_X12_aRange_120 (he _ e2 V1' _ m8'), fun q => absurd q dd⟩))
    refine ms_isMinus hF (by omega) m3.2.1 (fun c45 => ?_) (fun c45 V5 m5 => ?_)
    · have ej : nmj (tkT t n) true (j + 1) = j + 1 := by unfold nmj; rw [if_neg (fun z => c45 z.2)]
      refine ⟨fun _ => ⟨fun _ => rest V3 _ 0 (by rw [ej]; exact m13) (fun c => ?_), fun q => absurd rfl q⟩, fun q => absurd m3.2.1.2.1 q⟩
      rw [ej] at c ⊢
      rw [if_pos rfl]; exact m3.2.1.tok.2.2.2 c
    · have ej : nmj (tkT t n) true (j + 1) = j + 1 + 1 := by unfold nmj; rw [if_pos ⟨rfl, c45⟩]
      refine ⟨fun _ => ⟨fun q => absurd q (by decide), fun _ => rest V5 _ 1 (by rw [ej]; exact m13.tr m5) (fun c => ?_)⟩, fun q => absurd m5.2.1.2.1 q⟩
      rw [ej] at c ⊢
      rw [if_neg (by omega), m5.2.1.tok.2.2.2 c]
theorem ms_aSet {K : Int32 → VH → Prop} (hF : eFr E) (h0 : 12 < d) (h : MZ V p t n tc nm i 0) (hc : (tkT t n i).1 = 123) (hV : VmH V p t n tc nm i (vst (tkT t n) 200 [] (i + 1)) K) : vMI E d M_X12_aSet [sl 6 0] V K := by
  obtain ⟨he, hy⟩ := hV
  have dead9 : ∀ (W : VH) (x1 x2 : Int32) (e : Nat × Nat), vst (tkT t n) 200 [] (i + 1) = .inl e → ML V W p t n tc nm i (.inl e) → vwp E d M_X12_aSet 9 [some (sl 6 0), some (wi x1), some (wi x2), none, none, none] [] W (zi K) := by
    intro W x1 x2 e z m
    have dd : ¬ vI W 6 0 45 = 0 := m.2.dead
    have f157 : vwp E d M_X12_aSet 157 [some (sl 6 0), some (wi x1), some (wi x2), none, none, none] [] W (zi K) := w_X12_aSet_157 (by omega) (md_need (by omega) dd (he e z W x1 m))
    exact w_X12_aSet_9 (by omega) ⟨fun _ => f157, fun _ => ⟨fun _ => f157, fun q => absurd q dd⟩⟩
  have dead103 : ∀ (W : VH) (x1 x2 x3 x4 : Int32) (e : Nat × Nat), vst (tkT t n) 200 [] (i + 1) = .inl e → ML V W p t n tc nm i (.inl e) → vwp E d M_X12_aSet 103 [some (sl 6 0), some (wi x1), some (wi x2), some (wi x3), some (wi x4), none] [] W (zi K) := by
    intro W x1 x2 x3 x4 e z m
    have dd : ¬ vI W 6 0 45 = 0 := m.2.dead
    exact w_X12_aSet_103 (by omega) (md_aNumber (by omega) dd ⟨fun _ => w_X12_aSet_154 (dead9 W x1 x2 e z m), fun q => absurd q dd⟩)
  have rd : ∀ (m : Nat) (A : List Int32) (j : Nat) (W : VH), A.length + m = 200 → Dst A → (∀ x, x ∈ A → Bn 99 x) → ML V W p t n tc nm i (.inr j) → (∀ k, k < A.length → vI W 6 34 k = A.getD k 0) → vst (tkT t n) 200 [] (i + 1) = vst (tkT t n) m A j → vwp E d M_X12_aSet 9 [some (sl 6 0), some (wi (nI A.length)), some (wi 1), none, none, none] [] W (zi K) := by
    intro m
    induction m with
    | zero =>
      intro A j W eA hD hB
      exact absurd (hD.le hB) (by omega)
    | succ m ih =>
      intro A j W eA hD hB mW lW hX
      have sW := mW.2.1
      have rest : ∀ (k : Nat) (W1 : VH) (t0 x3 : Int32), nmj (tkT t n) true j = k → ML V W1 p t n tc nm i (.inr k) → (∀ k, k < A.length → vI W1 6 34 k = A.getD k 0) → ((tkT t n k).1 = 2 → t0 = if k = j then nI (tkT t n k).2.2.1 else - nI (tkT t n k).2.2.1) → vwp E d M_X12_aSet 41 [some (sl 6 0), some (wi (nI A.length)), some (wi 1), some (wi x3), none, none] [wi t0] W1 (zi K) := by
        intro k W1 t0 x3 ej m1 l1 ht
        have s1 := m1.2.1
        obtain ⟨t1, t2, t3, t4⟩ := s1.tok
        have k2 := s1.is 2 (by decide)
        have ev : vst (tkT t n) (m + 1) A j = nrB (nmr (tkT t n) true 0 99 j) (fun i1 x => if x ∈ A then .inl (5, (tkT t n (i1 - 1)).f) else if (tkT t n i1).1 = 44 then vst (tkT t n) m (A ++ [x]) (i1 + 1) else if (tkT t n i1).1 = 125 then .inr (i1 + 1, A ++ [x]) else .inl (rfe (tkT t n) i1)) := by rw [vst]
        rw [nmr_sg, ej] at ev
        have e1 := hX.trans ev
        -- no number
        have bad : ∀ e, nmr (tkT t n) false 0 99 k = .inl e → vwp E d M_X12_aSet 103 [some (sl 6 0), some (wi (nI A.length)), some (wi 1), some (wi x3), some (wi t0), none] [] W1 (zi K) := by
          intro e w7
          rw [w7] at e1
          have e1 : vst (tkT t n) 200 [] (i + 1) = .inl e := e1
          refine w_X12_aSet_103 (by omega) (ms_aNumber (lo := 0) (hi := 99) hF (by omega) s1 rfl rfl (by decide) (by decide) (fun V7 m7 => ?_))
          rw [w7] at m7
          have m7 : MO W1 V7 p t n tc nm 0 k (.inl e) := m7
          exact ⟨fun _ => w_X12_aSet_154 (dead9 V7 _ _ e e1 (m1.tr m7.ml)), fun q => absurd q m7.dead⟩
        have nn : (tkT t n k).1 ≠ 2 → nmr (tkT t n) false 0 99 k = .inl (rfe (tkT t n) k) := fun z => by
          unfold nmr
          have e0 : nmj (tkT t n) false k = k := by unfold nmj; rw [if_neg (fun z => absurd z.1 (by decide))]
          rw [e0, if_neg z]
        refine w_X12_aSet_41 ⟨fun q => absurd s1.2.1 q, fun _ => ⟨fun q => bad _ (nn (fun z => q (k2.mpr z))), fun q => ?_⟩⟩
        have c2 := k2.mp q
        have v9 := (tkT_ok t n k).2.2.2.2.2.2.2 c2
        have e0 : nmj (tkT t n) false k = k := by unfold nmj; rw [if_neg (fun z => absurd z.1 (by decide))]
        rw [t4 c2]
        refine ⟨fun q2 => bad (5, (tkT t n k).f) ?_, fun q2 => ?_⟩
        · have := (nI_ltI (a := 99) (by decide) (by omega)).mp q2
          unfold nmr
          rw [e0, if_pos c2, if_pos (by omega)]
        have l99 : ¬ 99 < (tkT t n k).2.2.1 := fun z => q2 ((nI_ltI (a := 99) (by decide) (by omega)).mpr z)
        have w7 : nmr (tkT t n) false 0 99 k = .inr (k + 1, nI (tkT t n k).2.2.1) := by
          unfold nmr
          rw [e0, if_pos c2, if_neg (by omega), if_pos rfl]
        rw [w7] at e1
        have e1 : vst (tkT t n) 200 [] (i + 1) = (if (if k = j then nI (tkT t n k).2.2.1 else - nI (tkT t n k).2.2.1) ∈ A then .inl (5, (tkT t n (k + 1 - 1)).f) else if (tkT t n (k + 1)).1 = 44 then vst (tkT t n) m (A ++ [if k = j then nI (tkT t n k).2.2.1 else - nI (tkT t n k).2.2.1]) (k + 1 + 1) else if (tkT t n (k + 1)).1 = 125 then .inr (k + 1 + 1, A ++ [if k = j then nI (tkT t n k).2.2.1 else - nI (tkT t n k).2.2.1]) else .inl (rfe (tkT t n) (k + 1))) := e1
        rw [← ht c2, Nat.add_sub_cancel] at e1
        have b0 : Bn 99 t0 := by
          have b7 := (nmr_hi (by decide) w7).1
          rw [ht c2]
          split
          · exact b7
          · obtain ⟨b1, b2⟩ := b7
            have en : (- nI (tkT t n k).2.2.1).toInt = -((nI (tkT t n k).2.2.1).toInt) := by rw [Int32.toInt_neg]; exact Int.bmod_eq_of_le (by omega) (by omega)
            exact ⟨by rw [en]; omega, by rw [en]; omega⟩
        have lA := hD.le hB
        -- a value that is there: to the end of the list
        have dead70 : ∀ (q u : Nat) (W2 : VH) (e : Nat × Nat), u + q = A.length → vst (tkT t n) 200 [] (i + 1) = .inl e → ML V W2 p t n tc nm i (.inl e) → vwp E d M_X12_aSet 70 [some (sl 6 0), some (wi (nI A.length)), some (wi 1), some (wi x3), some (wi t0), some (wi (nI u))] [] W2 (zi K) := by
          intro q
          induction q with
          | zero =>
            intro u W2 e eu z m2
            exact w_X12_aSet_70 (by omega) ⟨fun _ => dead103 W2 _ _ _ _ e z m2, fun y => absurd (nI_le (by omega) (by omega)) y⟩
          | succ q ihq =>
            intro u W2 e eu z m2
            have dd : ¬ vI W2 6 0 45 = 0 := m2.2.dead
            have nx := ihq (u + 1) W2 e (by omega) z m2
            refine w_X12_aSet_70 (by omega) ⟨fun y => absurd y (nI_ge (by omega) (by omega)), fun _ => ⟨vp_in_nI (by omega) (by decide), fun _ => w_X12_aSet_97 ?_, fun _ => md_fail dd (w_X12_aSet_97 ?_)⟩⟩
            · rw [nI_1]; exact nx
            · rw [nI_1]; exact nx
        have in_ : ∀ (q u : Nat), u + q = A.length → (∀ j, j < u → A.getD j 0 ≠ t0) → vwp E d M_X12_aSet 70 [some (sl 6 0), some (wi (nI A.length)), some (wi 1), some (wi x3), some (wi t0), some (wi (nI u))] [] W1 (zi K) := by
          intro q
          induction q with
          | zero =>
            intro u eu hne
            have nx : ¬ t0 ∈ A := fun y => by
              obtain ⟨w, hw, e⟩ := mem_getD.mp y
              exact hne w (by omega) e
            rw [if_neg nx] at e1
            have hB' : ∀ y, y ∈ A ++ [t0] → Bn 99 y := fun y hy => by
              rcases List.mem_append.mp hy with w | w
              · exact hB y w
              · rw [List.mem_singleton.mp w]; exact b0
            have hD' := hD.add nx
            have le' := hD'.le hB'
            have eL : (A ++ [t0]).length = A.length + 1 := by rw [List.length_append]; rfl
            rw [eL] at le'
            refine w_X12_aSet_70 (by omega) ⟨fun _ => w_X12_aSet_103 (by omega) (ms_aNumber (lo := 0) (hi := 99) hF (by omega) s1 rfl rfl (by decide) (by decide) (fun V7 m7 => ?_)), fun y => absurd (nI_le (by omega) (by omega)) y⟩
            rw [w7] at m7
            have m7 : MO W1 V7 p t n tc nm 0 k (.inr (k + 1)) := m7
            refine ⟨fun q => absurd m7.2.1.2.1 q, fun _ => ⟨vp_in_nI (by omega) (by decide), fun V8 e8 => ?_⟩⟩
            rw [nI_clamp (show A.length < 2 ^ 31 by omega)] at e8
            have m8 := (m1.tr m7.ml).ls e8
            have s8 := m8.2.1
            have k44 := s8.is 44 (by decide)
            have l8 : ∀ u, u < (A ++ [t0]).length → vI V8 6 34 u = (A ++ [t0]).getD u 0 := fun u hu => by
              rw [getD_appl]
              by_cases w : u < A.length
              · rw [if_pos w, e8, wrI_ne (fun y => by omega), m7.1.i (fun y => by have := y.2; omega)]; exact l1 u w
              · have : u = A.length := by omega
                subst this
                rw [if_neg w, Nat.sub_self, e8, wrI_at]; rfl
            rw [nI_1, ← eL]
            refine ⟨fun q => ?_, fun q => ?_⟩
            · have c44 : ¬ (tkT t n (k + 1)).1 = 44 := fun z => q (k44.mpr z)
              rw [if_neg c44] at e1
              refine w_X12_aSet_144 (by omega) ⟨fun _ => w_X12_aSet_154 (w_X12_aSet_9 (by omega) ⟨fun _ => w_X12_aSet_157 (by omega) (ms_need (c := 125) hF (by omega) s8 rfl (by decide) (by decide) (fun V9 m9 => ?_)), fun q => absurd rfl q⟩), fun q => absurd rfl q⟩
              unfold nee at m9
              by_cases c125 : (tkT t n (k + 1)).1 = 125
              · rw [if_pos c125] at m9 e1
                exact hy _ _ e1 V9 (m8.tr m9.ml) (fun u hu => by rw [m9.1.i (fun y => by have := y.2; omega)]; exact l8 u hu) (by omega)
              · rw [if_neg c125] at m9 e1
                exact he _ e1 V9 _ (m8.tr m9.ml)
            · have c44 := k44.mp q
              rw [if_pos c44] at e1
              refine w_X12_aSet_144 (by omega) ⟨fun q => absurd q (by decide), fun _ => ms_keep hF (by omega) s8 (by omega) (by omega) (nuq_0 (by omega) (by omega)) (fun V9 m9 => w_X12_aSet_154 ?_)⟩
              exact ih (A ++ [t0]) (k + 1 + 1) V9 (by omega) hD' hB' (m8.tr m9.ml) (fun u hu => by rw [m9.1.i (fun y => by have := y.2; omega)]; exact l8 u hu) e1
          | succ q ihq =>
            intro u eu hne
            refine w_X12_aSet_70 (by omega) ⟨fun y => absurd y (nI_ge (by omega) (by omega)), fun _ => ?_⟩
            rw [nI_clamp (show u < 2 ^ 31 by omega), l1 u (by omega)]
            refine ⟨vp_in_nI (by omega) (by decide), fun y => w_X12_aSet_97 ?_, fun y => ?_⟩
            · rw [nI_1]
              refine ihq (u + 1) (by omega) (fun w hw => ?_)
              by_cases z : w = u
              · subst z; exact y
              · exact hne w (by omega)
            · rw [if_pos (mem_getD.mpr ⟨u, by omega, y⟩)] at e1
              refine ms_fail s1 rfl t2 (by decide) (by decide) (fun W2 m2 => w_X12_aSet_97 ?_)
              rw [nI_1]
              exact dead70 q (u + 1) W2 _ (by omega) e1 (m1.tr m2.ml)
        exact in_ A.length 0 (Nat.zero_add _) (fun j hj => absurd hj (Nat.not_lt_zero j))
      refine w_X12_aSet_9 (by omega) ⟨fun q => absurd q (by decide), fun _ => ⟨fun q => absurd sW.2.1 q, fun _ => ms_isMinus hF (by omega) sW (fun c45 => ?_) (fun c45 V5 m5 => ?_)⟩⟩
      · have ej : nmj (tkT t n) true j = j := by unfold nmj; rw [if_neg (fun z => c45 z.2)]
        refine ⟨fun _ => rest j W _ 0 ej mW lW (fun c => ?_), fun q => absurd rfl q⟩
        rw [if_pos rfl]; exact sW.tok.2.2.2 c
      · have ej : nmj (tkT t n) true j = j + 1 := by unfold nmj; rw [if_pos ⟨rfl, c45⟩]
        refine ⟨fun q => absurd q (by decide), fun _ => rest (j + 1) V5 _ 1 ej (mW.tr m5.ml) (fun u hu => by rw [m5.1.i (fun y => by have := y.2; omega)]; exact lW u hu) (fun c => ?_)⟩
        rw [if_neg (by omega), m5.2.1.tok.2.2.2 c]
  refine w_X12_aSet_0 (by omega) (ms_keep hF (by omega) h (by omega) (by omega) (nuq_0 (by omega) (by omega)) (fun V1 m1 => ?_))
  exact rd 200 [] (i + 1) V1 rfl (fun a b _ hb => absurd hb (Nat.not_lt_zero b)) (fun x hx => absurd hx List.not_mem_nil) m1.ml (fun k hk => absurd hk (Nat.not_lt_zero k)) rfl
end
