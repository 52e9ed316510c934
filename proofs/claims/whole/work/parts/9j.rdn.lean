/-! the reference reads: names, numbers, lists -/
section
variable {E : EE} {d : Nat} {V : VH} {p : Nat} {t : Nat → Int32} {n : Nat} {tc : Nat → Nat} {nm : Nat → Nat → Int64} {i o : Nat}
/-- a token that is a name: its bytes -/
theorem nameB (t : Nat → Int32) (n i : Nat) (h : (tkT t n i).1 = 1) : 1 ≤ (tkT t n i).e - (tkT t n i).f ∧ (tkT t n i).e - (tkT t n i).f ≤ 8 ∧ (tkT t n i).f ≤ (tkT t n i).e ∧ (tkT t n i).e ≤ n ∧ (tkT t n i).2.1 = nL (pkb (bf t (tkT t n i).f) ((tkT t n i).e - (tkT t n i).f)) ∧ ∀ j, j < (tkT t n i).e - (tkT t n i).f → isA (bt t ((tkT t n i).f + j)) = true := by
  obtain ⟨_, _, a3, a4, a5, _, a7, _⟩ := tkT_ok t n i
  have b := a5 (by rw [h]; decide)
  obtain ⟨c1, c2, c3⟩ := a7 h
  exact ⟨by omega, by omega, a3, a4, c2, fun j hj => c3 _ (by omega) (by omega)⟩
theorem nm_iff {f f' : Nat → Nat} {k k' : Nat} (hk : k ≤ 8) (hk' : k' ≤ 8) (h : ∀ j, j < k → isA (f j) = true) (h' : ∀ j, j < k' → isA (f' j) = true) : nL (pkb f k) = nL (pkb f' k') ↔ k = k' ∧ ∀ j, j < k → f j = f' j := by
  have a : ∀ j, j < k → 0 < f j ∧ f j < 256 := fun j hj => isA_v _ (h j hj)
  have b : ∀ j, j < k' → 0 < f' j ∧ f' j < 256 := fun j hj => isA_v _ (h' j hj)
  have l1 : pkb f k < 2 ^ 64 := Nat.lt_of_lt_of_le (pkb_lt _ (fun j hj => (a j hj).2)) (Nat.le_trans (Nat.pow_le_pow_right (by decide) hk) (by decide))
  have l2 : pkb f' k' < 2 ^ 64 := Nat.lt_of_lt_of_le (pkb_lt _ (fun j hj => (b j hj).2)) (Nat.le_trans (Nat.pow_le_pow_right (by decide) hk') (by decide))
  constructor
  · intro e
    exact pkb_inj _ _ a b (nL_inj l1 l2 e)
  · rintro ⟨e, z⟩
    subst e
    rw [pkb_ext k z]
theorem c_isName {s k : Nat} {K : Int32 → VH → Prop} (h0 : 0 < d) (hp : p < 5) (hS : SrcM V t n) (hN : NmM V p tc nm) (h43 : vI V 6 0 43 = nI (tkT t n i).f) (h44 : vI V 6 0 44 = nI (tkT t n i).e) (h1 : (tkT t n i).1 = 1) (hs : s < 4) (hk0 : k < tc s) (hk : K (bI (decide (nm s k = (tkT t n i).2.1))) V) : vMI E d M_X12_isName [sl 6 0, wi (nI p), wi (nI s), wi (nI k)] V K := by
  have hn := hS.2.1
  obtain ⟨b1, b2, b3, b4, b5, b6⟩ := nameB t n i h1
  obtain ⟨a, l, q1, q2, q3, q4, q5, q6, q7⟩ := hN.2 s hs k hk0
  have k24 := (hN.1 s hs).2
  generalize (tkT t n i).f = f at *
  generalize (tkT t n i).e = e at *
  have iff := nm_iff (f := bf (vI V 6 3) (20000 * p + a)) (f' := bf t f) q4 b2 (fun j hj => q7 j hj) b6
  rw [← q6, ← b5] at iff
  have ei : ((96 : Int32) * nI p + 24 * nI s) + nI k = nI (96 * p + 24 * s + k) := by
    rw [show (96 : Int32) = nI 96 from rfl, show (24 : Int32) = nI 24 from rfl, nI_mul, nI_mul, nI_add, nI_add]
  have es : vI V 6 0 44 - vI V 6 0 43 = nI (e - f) := by rw [h43, h44]; exact nI_sub b3
  have stop : ∀ x6 : Int32, ¬ nm s k = (tkT t n i).2.1 → vwp E d M_X12_isName 42 [some (sl 6 0), some (wi (nI p)), some (wi (nI s)), some (wi (nI k)), some (wi (nI (96 * p + 24 * s + k))), some (wi 0), some (wi x6)] [] V (zi K) := fun x6 q => by
    rw [decide_eq_false q] at hk
    exact w_X12_isName_42 h0 ⟨fun _ => ⟨Or.inl rfl, hk⟩, fun z => absurd rfl z⟩
  have go : ∀ (m j : Nat), j + m = e - f → l = e - f → (∀ j', j' < j → bf (vI V 6 3) (20000 * p + a) j' = bf t f j') → vwp E d M_X12_isName 42 [some (sl 6 0), some (wi (nI p)), some (wi (nI s)), some (wi (nI k)), some (wi (nI (96 * p + 24 * s + k))), some (wi 1), some (wi (nI j))] [] V (zi K) := by
    intro m
    induction m with
    | zero =>
      intro j ej el hb
      rw [decide_eq_true (iff.mpr ⟨el, fun j' hj' => hb j' (by omega)⟩)] at hk
      refine w_X12_isName_42 h0 ⟨fun z => absurd z (by decide), fun _ => ⟨fun _ => ⟨Or.inr rfl, hk⟩, fun z => absurd (by rw [es]; exact nI_le (by omega) (by omega)) z⟩⟩
    | succ m ih =>
      intro j ej el hb
      refine w_X12_isName_42 h0 ⟨fun z => absurd z (by decide), fun _ => ⟨fun z => absurd z (by rw [es]; exact nI_ge (by omega) (by omega)), fun _ => ?_⟩⟩
      rw [h43, nI_add]
      refine c_lookM hS (by omega) ?_
      have e20 : ((20000 : Int32) * nI p + nI a) + nI j = nI (20000 * p + a + j) := by rw [i20k, nI_add]
      rw [nI_clamp (show 96 * p + 24 * s + k < 2 ^ 31 by omega), q1, e20, nI_clamp (show 20000 * p + a + j < 2 ^ 31 by omega), bt_nI]
      have x1 := bt_lt t (f + j)
      have x2 := bt_lt (vI V 6 3) (20000 * p + a + j)
      have de : nI (bt t (f + j)) = nI (bt (vI V 6 3) (20000 * p + a + j)) ↔ bt t (f + j) = bt (vI V 6 3) (20000 * p + a + j) := nI_eq (by omega) (by omega)
      refine ⟨vp_in_nI (by omega) (by decide), vp_in_nI (by omega) (by decide), fun z => w_X12_isName_105 ?_, fun z => w_X12_isName_105 ?_⟩
      · exact stop _ (fun y => z (de.mpr ((iff.mp y).2 j (by omega)).symm))
      · rw [nI_1]
        refine ih (j + 1) (by omega) el (fun j' hj' => ?_)
        by_cases cj : j' = j
        · rw [cj]; exact (de.mp z).symm
        · exact hb j' (by omega)
  refine w_X12_isName_0 ?_
  rw [ei, nI_clamp (show 96 * p + 24 * s + k < 2 ^ 31 by omega), q2, es]
  have dl : nI l = nI (e - f) ↔ l = e - f := nI_eq (by omega) (by omega)
  exact ⟨vp_in_nI (by omega) (by decide), fun z => w_X12_isName_37 (stop 0 (fun y => z (dl.mpr (iff.mp y).1))), fun z => w_X12_isName_37 (go (e - f) 0 (by omega) (dl.mp z) (fun j' hj' => absurd hj' (Nat.not_lt_zero j')))⟩
theorem c_meaning {K : Int32 → VH → Prop} (h0 : 1 < d) (hp : p < 5) (hS : SrcM V t n) (hN : NmM V p tc nm) (h43 : vI V 6 0 43 = nI (tkT t n i).f) (h44 : vI V 6 0 44 = nI (tkT t n i).e) (h1 : (tkT t n i).1 = 1) (hk : K (mnI (lku tc nm (tkT t n i).2.1)) V) : vMI E d M_X12_meaning [sl 6 0, wi (nI p)] V K := by
  generalize ek : (tkT t n i).2.1 = key at hk
  have go : ∀ (m s : Nat), s + m = 4 → K (mnI (lkf tc nm key m s)) V → vwp E d M_X12_meaning 2 [some (sl 6 0), some (wi (nI p)), some (wi (nI s)), none] [] V (zi K) := by
    intro m
    induction m with
    | zero =>
      intro s e hk
      exact w_X12_meaning_2 ⟨fun _ => hk, fun q => absurd (nI_le (a := 4) (by omega) (by omega)) q⟩
    | succ m ih =>
      intro s e hk
      obtain ⟨hc, hc2⟩ := hN.1 s (by omega)
      refine w_X12_meaning_2 ⟨fun q => absurd q (nI_ge (b := 4) (by omega) (by decide)), fun _ => ?_⟩
      have e4 : (4 : Int32) * nI p + nI s = nI (4 * p + s) := by rw [show (4 : Int32) = nI 4 from rfl, nI_mul, nI_add]
      have in_ : ∀ (q k : Nat), k + q = tc s → (∀ j, j < k → decide (nm s j = key) = false) → vwp E d M_X12_meaning 9 [some (sl 6 0), some (wi (nI p)), some (wi (nI s)), some (wi (nI k))] [] V (zi K) := by
        intro q
        induction q with
        | zero =>
          intro k ek2 hj
          refine w_X12_meaning_9 (by omega) ?_
          rw [e4, nI_clamp (show 4 * p + s < 2 ^ 31 by omega), hc, nI_1]
          refine ⟨vp_in_nI (by omega) (by decide), fun _ => ih (s + 1) (by omega) ?_, fun z => absurd (nI_le (by omega) (by omega)) z⟩
          rw [lkf, fsb_none (n := tc s) (fun j hj2 => hj j (by omega))] at hk
          exact hk
        | succ q ihq =>
          intro k ek2 hj
          refine w_X12_meaning_9 (by omega) ?_
          rw [e4, nI_clamp (show 4 * p + s < 2 ^ 31 by omega), hc]
          refine ⟨vp_in_nI (by omega) (by decide), fun z => absurd z (nI_ge (by omega) (by omega)), fun _ => c_isName (by omega) hp hS hN h43 h44 h1 (by omega) (by omega) ?_⟩
          rw [ek]
          by_cases c : nm s k = key
          · rw [decide_eq_true c]
            refine ⟨fun z => absurd z (by decide), fun _ => ?_⟩
            rw [lkf, fsb_ne (n := tc s) (k := k) (by omega) hj (decide_eq_true c)] at hk
            rw [show (100 : Int32) = nI 100 from rfl, nI_mul, nI_add]
            exact hk
          · rw [decide_eq_false c]
            refine ⟨fun _ => ?_, fun z => absurd rfl z⟩
            rw [nI_1]
            refine ihq (k + 1) (by omega) (fun j hj2 => ?_)
            by_cases cj : j = k
            · rw [cj]; exact decide_eq_false c
            · exact hj j (by omega)
      exact in_ (tc s) 0 (by omega) (fun j hj => absurd hj (Nat.not_lt_zero j))
  exact w_X12_meaning_0 (go 4 0 (by omega) hk)
theorem ms_meaning {K : Int32 → VH → Prop} (h0 : 1 < d) (h : MZ V p t n tc nm i o) (h1 : (tkT t n i).1 = 1) (hk : K (mnI (lku tc nm (tkT t n i).2.1)) V) : vMI E d M_X12_meaning [sl 6 0, wi (vI V 6 0 47)] V K := by
  rw [h.1.2.1]
  exact c_meaning h0 h.1.2.2.1 h.1.1 h.1.2.2.2 h.tok.2.1 h.tok.2.2.1 h1 hk
theorem nuv_1 {T : Nat → TK} {M : MN} {j : Nat} (h1 : (T j).1 = 1) : nuv T M j = mnI (M (T j).2.1) := by unfold nuv; rw [if_pos h1]
theorem nuv_2 {T : Nat → TK} {M : MN} {j : Nat} (h2 : (T j).1 = 2) : nuv T M j = nI (T j).2.2.1 := by unfold nuv; rw [if_neg (by omega), if_pos h2]
theorem nuq_2 {T : Nat → TK} {M : MN} {j : Nat} (h2 : (T j).1 = 2) : nI (T j).2.2.1 = nuv T M j ∧ nuk T M j := ⟨(nuv_2 h2).symm, fun z => absurd (h2.symm.trans z) (by decide)⟩
theorem nuq_1 {T : Nat → TK} {M : MN} {j : Nat} {q : Nat × Nat} (h1 : (T j).1 = 1) (w : M (T j).2.1 = some q) : mnI (some q) = nuv T M j ∧ nuk T M j := ⟨by rw [nuv_1 h1, w], fun _ z => by rw [w] at z; cases z⟩
/-- 100 times the kind, and the number: which kind -/
theorem mn_lt {q : Nat × Nat} (h : lku tc nm (tkT t n i).2.1 = some q) (hN : NmM V p tc nm) : q.1 < 4 ∧ q.2 < 24 ∧ 100 * q.1 + q.2 < 400 := by
  obtain ⟨l1, l2, _⟩ := lku_lt h
  have := (hN.1 q.1 l1).2
  omega
theorem md_aVar {K : VH → Prop} (h0 : 0 < d) (h : ¬ vI V 6 0 45 = 0) (hk : K V) : vMV E d M_X12_aVar [sl 6 0] V K := w_X12_aVar_0 h0 ⟨fun q => absurd q h, fun _ => hk⟩
theorem ms_aVar {K : VH → Prop} (hF : eFr E) (h0 : 8 < d) (h : MZ V p t n tc nm i o) (hk : ∀ V', MO V V' p t n tc nm o i (nrI (vrb (tkT t n) (lku tc nm) i)) → K V') : vMV E d M_X12_aVar [sl 6 0] V K := by
  have e1 := h.is 1 (by decide)
  refine w_X12_aVar_0 (by omega) ⟨fun _ => ⟨fun q => ?_, fun q => ?_⟩, fun q => absurd h.2.1 q⟩
  · have c1 : ¬ (tkT t n i).1 = 1 := fun z => q (e1.mpr z)
    refine w_X12_aVar_28 (by omega) ⟨fun z => absurd z q, fun _ => ms_failHere (by omega) h (fun V' z => hk V' ?_)⟩
    unfold vrb; rw [if_neg c1]; exact z
  · have c1 := e1.mp q
    have bad : nrI (vrb (tkT t n) (lku tc nm) i) = .inl (4, (tkT t n i).f) → ∀ x : Int32, vwp E d M_X12_aVar 57 [some (sl 6 0), some (wi x)] [] V (zv K) := fun z x => w_X12_aVar_57 (by omega) (ms_fail h rfl h.tok.2.1 (by decide) (by decide) (fun V' y => hk V' (by rw [z]; exact y)))
    have ev : vrb (tkT t n) (lku tc nm) i = (match lku tc nm (tkT t n i).2.1 with
      | some q => if q.1 = 1 then .inr (i + 1, q.2) else .inl (4, (tkT t n i).f)
      | none => .inl (4, (tkT t n i).f)) := by unfold vrb; rw [if_pos c1]; cases lku tc nm (tkT t n i).2.1 <;> rfl
    refine ms_meaning (by omega) h c1 (w_X12_aVar_28 (by omega) ⟨fun _ => ?_, fun z => absurd q z⟩)
    cases w : lku tc nm (tkT t n i).2.1 with
    | none =>
      rw [w] at ev
      exact ⟨fun _ => bad (by rw [ev]; rfl) _, fun z => absurd (show (-1 : Int32) < 100 by decide) z⟩
    | some q2 =>
      rw [w] at ev
      have ev : vrb (tkT t n) (lku tc nm) i = if q2.1 = 1 then .inr (i + 1, q2.2) else .inl (4, (tkT t n i).f) := ev
      obtain ⟨l1, l2, l3⟩ := mn_lt w h.1.2.2.2
      have d100 : nI (100 * q2.1 + q2.2) < 100 ↔ 100 * q2.1 + q2.2 < 100 := nI_ltI (b := 100) (by omega) (by decide)
      have d200 : nI (100 * q2.1 + q2.2) < 200 ↔ 100 * q2.1 + q2.2 < 200 := nI_ltI (b := 200) (by omega) (by decide)
      show (nI (100 * q2.1 + q2.2) < 100 → _) ∧ (¬ nI (100 * q2.1 + q2.2) < 100 → (nI (100 * q2.1 + q2.2) < 200 → _) ∧ _)
      refine ⟨fun z => bad ?_ _, fun z => ⟨fun z2 => ?_, fun z2 => bad ?_ _⟩⟩
      · have := d100.mp z
        rw [ev, if_neg (by omega)]; rfl
      · have a := mt d100.mpr z
        have b := d200.mp z2
        refine ms_keep hF (by omega) h (by omega) (by omega) ?_ (fun V' y => hk V' (by rw [ev, if_pos (by omega)]; exact y))
        exact nuq_1 c1 w
      · have b := mt d200.mpr z2
        rw [ev, if_neg (by omega)]; rfl
theorem md_aNumber {x y : Int32} {K : Int32 → VH → Prop} (h0 : 0 < d) (h : ¬ vI V 6 0 45 = 0) (hk : K 0 V) : vMI E d M_X12_aNumber [sl 6 0, wi x, wi y] V K := w_X12_aNumber_0 h0 ⟨fun q => absurd q h, fun _ => hk⟩
/-- a number without a sign -/
theorem ms_aNumber {lo hi : Nat} {x y : Int32} {K : Int32 → VH → Prop} (hF : eFr E) (h0 : 8 < d) (h : MZ V p t n tc nm i o) (hx : x = nI lo) (hy : y = nI hi) (hlo : lo ≤ 9999) (hhi : hi ≤ 9999) (hk : ∀ V', MO V V' p t n tc nm o i (nrI (nmr (tkT t n) false lo hi i)) → K (vI V 6 0 42) V') : vMI E d M_X12_aNumber [sl 6 0, wi x, wi y] V K := by
  have e2 := h.is 2 (by decide)
  have ej : nmj (tkT t n) false i = i := by unfold nmj; rw [if_neg (fun z => by cases z.1)]
  unfold nmr at hk
  rw [ej] at hk
  refine w_X12_aNumber_0 (by omega) ⟨fun _ => ⟨fun q => ?_, fun q => ?_⟩, fun q => absurd h.2.1 q⟩
  · have c2 := e2.mp q
    rw [if_pos c2] at hk
    have v9 := (tkT_ok t n i).2.2.2.2.2.2.2 c2
    have ev := h.tok.2.2.2 c2
    rw [ev] at hk ⊢
    rw [hx, hy]
    have dl : nI (tkT t n i).2.2.1 < nI lo ↔ (tkT t n i).2.2.1 < lo := nI_ltI (by omega) (by omega)
    have dh : nI (tkT t n i).2.2.1 ≤ nI hi ↔ (tkT t n i).2.2.1 ≤ hi := nI_leI (by omega) (by omega)
    have out : ((tkT t n i).2.2.1 < lo ∨ hi < (tkT t n i).2.2.1) → vwp E d M_X12_aNumber 39 [some (sl 6 0), some (wi (nI lo)), some (wi (nI hi)), some (wi (nI (tkT t n i).2.2.1))] [] V (zi K) := fun z => w_X12_aNumber_39 (by omega) (ms_fail h rfl h.tok.2.1 (by decide) (by decide) (fun V' y => hk V' (by rw [if_pos z]; exact y)))
    refine ⟨fun z => out (Or.inl (dl.mp z)), fun z => ⟨fun z2 => ?_, fun z2 => out (Or.inr (by have := mt dh.mpr z2; omega))⟩⟩
    have a := mt dl.mpr z
    have b := dh.mp z2
    exact ms_keep hF (by omega) h (by omega) (by omega) (nuq_2 c2) (fun V' y => hk V' (by rw [if_neg (by omega)]; exact y))
  · have c2 : ¬ (tkT t n i).1 = 2 := fun z => q (e2.mpr z)
    rw [if_neg c2] at hk
    exact ms_failHere (by omega) h (fun V' y => hk V' y)
theorem md_isMinus {K : Int32 → VH → Prop} (h0 : 0 < d) (h : ¬ vI V 6 0 45 = 0) (hk : K 0 V) : vMI E d M_X12_isMinus [sl 6 0] V K := w_X12_isMinus_0 h0 ⟨fun _ => hk, fun q => absurd q h⟩
theorem ms_isMinus {K : Int32 → VH → Prop} (hF : eFr E) (h0 : 8 < d) (h : MZ V p t n tc nm i o) (hn : (tkT t n i).1 ≠ 45 → K 0 V) (hy : (tkT t n i).1 = 45 → ∀ V', MO V V' p t n tc nm o i (.inr (i + 1)) → K 1 V') : vMI E d M_X12_isMinus [sl 6 0] V K := by
  have e := h.is 45 (by decide)
  refine w_X12_isMinus_0 (by omega) ⟨fun q => absurd h.2.1 q, fun _ => ⟨fun q => ?_, fun q => hn (fun z => q (e.mpr z))⟩⟩
  have c := e.mp q
  exact ms_keep hF (by omega) h (by omega) (by omega) (nuq_0 (by omega) (by omega)) (hy c)
theorem md_anInt {x : Int32} {K : Int32 → VH → Prop} (h0 : 1 < d) (h : ¬ vI V 6 0 45 = 0) (hk : K 0 V) : vMI E d M_X12_anInt [sl 6 0, wi x] V K := w_X12_anInt_0 (by omega) (md_isMinus (by omega) h (md_aNumber (by omega) h ⟨fun _ => hk, fun q => absurd rfl q⟩))
/-- a number with its sign; of its value, where it is one -/
theorem ms_anInt {hi : Nat} {y : Int32} {K : Int32 → VH → Prop} (hF : eFr E) (h0 : 9 < d) (h : MZ V p t n tc nm i o) (hy : y = nI hi) (hhi : hi ≤ 9999) (hk : ∀ V' x, MO V V' p t n tc nm o i (nrI (nmr (tkT t n) true 0 hi i)) → (∀ i1 v, nmr (tkT t n) true 0 hi i = .inr (i1, v) → x = v) → K x V') : vMI E d M_X12_anInt [sl 6 0, wi y] V K := by
  -- a sign doesn't matter to what comes behind it
  have nf : ∀ j, nmr (tkT t n) false 0 hi j = if (tkT t n j).1 = 2 then (if (tkT t n j).2.2.1 < 0 ∨ hi < (tkT t n j).2.2.1 then .inl (5, (tkT t n j).f) else .inr (j + 1, nI (tkT t n j).2.2.1)) else .inl (rfe (tkT t n) j) := fun j => by
    have ej : nmj (tkT t n) false j = j := by unfold nmj; rw [if_neg (fun z => by cases z.1)]
    unfold nmr
    rw [ej, if_pos (rfl : j = j)]
  have vv : ∀ {W : VH} {j : Nat}, MZ W p t n tc nm j o → ∀ i1 v, nmr (tkT t n) false 0 hi j = .inr (i1, v) → vI W 6 0 42 = v := fun {W j} s i1 v z => by
    rw [nf] at z
    by_cases c : (tkT t n j).1 = 2
    · rw [if_pos c] at z
      by_cases c2 : (tkT t n j).2.2.1 < 0 ∨ hi < (tkT t n j).2.2.1
      · rw [if_pos c2] at z; cases z
      · rw [if_neg c2] at z
        cases z
        exact s.tok.2.2.2 c
    · rw [if_neg c] at z; cases z
  refine w_X12_anInt_0 (by omega) (ms_isMinus hF (by omega) h (fun q => ?_) (fun q V1 m1 => ?_))
  · have e : nmr (tkT t n) true 0 hi i = nmr (tkT t n) false 0 hi i := by
      rw [nf]
      have ej : nmj (tkT t n) true i = i := by unfold nmj; rw [if_neg (fun z => q z.2)]
      unfold nmr
      rw [ej, if_pos (rfl : i = i)]
    rw [e] at hk
    exact ms_aNumber (lo := 0) hF (by omega) h rfl hy (by decide) hhi (fun V' m => ⟨fun _ => hk V' _ m (fun i1 v z => vv h i1 v z), fun q => absurd rfl q⟩)
  · have s1 := m1.2.1
    have ej : nmj (tkT t n) true i = i + 1 := by unfold nmj; rw [if_pos ⟨rfl, q⟩]
    have en : nmr (tkT t n) true 0 hi i = (match nmr (tkT t n) false 0 hi (i + 1) with
      | .inl e => .inl e
      | .inr z => .inr (z.1, - z.2)) := by
      rw [nf]
      unfold nmr
      rw [ej]
      by_cases c : (tkT t n (i + 1)).1 = 2
      · rw [if_pos c, if_pos c]
        by_cases c2 : (tkT t n (i + 1)).2.2.1 < 0 ∨ hi < (tkT t n (i + 1)).2.2.1
        · rw [if_pos c2, if_pos c2]
        · rw [if_neg c2, if_neg c2, if_neg (by omega : ¬ i + 1 = i)]
      · rw [if_neg c, if_neg c]
    refine ms_aNumber (lo := 0) hF (by omega) s1 rfl hy (by decide) hhi (fun V' m => ⟨fun q => absurd q (by decide), fun _ => ?_⟩)
    have m2 := m1.tr m
    refine hk V' _ ?_ (fun i1 v z => ?_)
    · rw [en]
      cases w : nmr (tkT t n) false 0 hi (i + 1) with
      | inl e => rw [w] at m2; exact m2
      | inr z => rw [w] at m2; exact m2
    · rw [en] at z
      cases w : nmr (tkT t n) false 0 hi (i + 1) with
      | inl e => rw [w] at z; cases z
      | inr z2 =>
        rw [w] at z
        cases z
        rw [vv s1 z2.1 z2.2 (by rw [w])]
end
