/-! the reference's sets of hard rules -/
def fmk (a f j : Nat) : Prop := a = 6 ∧ (f = 0 ∧ j = 73 ∨ f = 48 ∨ f = 49)
def MsM (V : VH) (R : List SR) (nt fa : Nat → Int32) (L : List Nat) : Prop := vI V 6 0 73 = nI (HL R).length ∧ (∀ k, k < (HL R).length → vI V 6 49 k = nI ((HL R).getD k 0)) ∧ ∀ m, m < 4096 → vI V 6 48 m = bI (exB R nt fa L m)
section
variable {E : EE} {d : Nat} {V V' V1 V2 : VH} {q B : Nat} {t : Nat → Int32} {n : Nat} {R : List SR} {nt fa : Nat → Int32} {h h' : Nat} {x b : Int32} {cs : Nat → Int32}
theorem mkb_D (hs : PrS t n R nt) {p k : Nat} (hk : k < (HL R).length) : mkb R nt fa p k = decide (¬ DR R nt ((HL R).getD k 0) fa (sn (szR R) (tcR R 1) (vlR R) p) ≤ 0) := by
  have r24 : tcR R 2 ≤ 24 := hs.2.2.2.1.1 2 (by decide)
  obtain ⟨a, b, _⟩ := HL_mem hk
  show tst (wst (DR R nt) fa (sn (szR R) (tcR R 1) (vlR R) p) (tcR R 2)) ((HL R).getD k 0) = _
  rw [tst_wst _ _ (by omega) (by omega)]
  exact decide_eq_decide.mpr ⟨fun z => z.2, fun z => ⟨a, z⟩⟩
theorem masks_go {K : VH → Prop} (h0 : 2 < d) (hs : PrS t n R nt) (hm : KnM V q t n R nt fa h x cs) (h12 : (HL R).length ≤ 12) (hk : ∀ V', Fc V V' fmk → MsM V' R nt fa (apL R h x) → K V') (e0 : vI V 6 0 73 = 0) : vwp E d M_X12_findMasks 12 [some (sl 6 0), some (wi (nI q)), some (wi 0), none, none] [] V (zv K) := by
  have p20 := hm.p20
  have q5 := hm.q5
  have p2 := two12 h12
  have r24 : tcR R 2 ≤ 24 := hs.2.2.2.1.1 2 (by decide)
  have n14 : vI V 6 14 (4 * q + 2) = nI (tcR R 2) := (hm.1.1.2.2.1.1 2 (by decide)).1
  have kn : ∀ {V1}, Fc V V1 fmk → KnM V1 q t n R nt fa h x cs := fun f1 => hm.fc hs f1 (fun f j y => by have := y.2; omega)
  have hx : HL R = hL R (tcR R 2) := hL_tc R r24
  have plans : ∀ m p V1, p + m = plR R → Fc V V1 fmk → MsM V1 R nt fa ((List.range p).filter (agR R h x)) → vwp E d M_X12_findMasks 85 [some (sl 6 0), some (wi (nI q)), some (wi (nI p)), none, none] [] V1 (zv K) := by
    intro m
    induction m with
    | zero =>
      intro p V1 e f1 ms
      have : p = plR R := by omega
      subst this
      refine w_X12_findMasks_85 (by omega) ?_
      rw [nI_clamp (show q < 2 ^ 31 by omega), (kn f1).pl]
      exact ⟨vp_in_nI q5 (by decide), fun _ => hk V1 f1 ms, fun z => absurd (nI_le (Nat.le_refl _) (by omega)) z⟩
    | succ m ih =>
      intro p V1 e f1 ms
      have hp : p < plR R := by omega
      have k1 := kn f1
      have rs := rng_flt_s (agR R h x) p
      refine w_X12_findMasks_85 (by omega) ?_
      rw [nI_clamp (show q < 2 ^ 31 by omega), k1.pl]
      refine ⟨vp_in_nI q5 (by decide), fun z => absurd z (nI_ge hp (by omega)), fun _ => c_isAllowed (by omega) k1.sq k1.hq k1.pq (by omega) ⟨fun z => w_X12_findMasks_163 ?_, fun z => ?_⟩⟩
      · rw [nI_1]
        rw [if_neg (by rw [show agR R h x p = false from bI_0.mp z]; decide)] at rs
        exact ih (p + 1) V1 (by omega) f1 (by rw [rs]; exact ms)
      · have al : agR R h x p = true := bI_1.mp z
        rw [if_pos al] at rs
        have inner : ∀ s k, k + s = (HL R).length → vwp E d M_X12_findMasks 109 [some (sl 6 0), some (wi (nI q)), some (wi (nI p)), some (wi (mkI (mkb R nt fa p) k)), some (wi (nI k))] [] V1 (zv K) := by
          intro s
          induction s with
          | zero =>
            intro k e
            have ek : k = (HL R).length := by omega
            subst ek
            obtain ⟨m0, hm0, e0⟩ := mkQ_nI (nt := nt) (fa := fa) h12 p
            refine w_X12_findMasks_109 ⟨fun _ => ?_, fun z => absurd (by rw [ms.1]; exact nI_le (Nat.le_refl _) (by omega)) z⟩
            have e0' : mkI (mkb R nt fa p) (HL R).length = nI m0 := e0
            rw [e0', nI_clamp (show m0 < 2 ^ 31 by omega)]
            refine ⟨vp_in_nI (by omega) (by decide), fun V2 e2 => w_X12_findMasks_163 ?_⟩
            rw [nI_1]
            refine ih (p + 1) V2 (by omega) (f1.trans (by rw [e2]; exact Fc_wrI ⟨rfl, Or.inr (Or.inl rfl)⟩)) ⟨by rw [e2, wrI_ne (fun z => by omega)]; exact ms.1, fun k hk => by rw [e2, wrI_ne (fun z => by omega)]; exact ms.2.1 k hk, fun m hm => ?_⟩
            rw [rs, exB_add, e0, e2]
            by_cases c : m = m0
            · rw [c, wrI_at, decide_eq_true rfl, Bool.or_true]; exact nz_b true
            · rw [wrI_ne (fun z => c z.2.2), ms.2.2 m hm, decide_eq_false (fun z => c ((nI_eq (by omega) (by omega)).mp z).symm), Bool.or_false]
          | succ s ih2 =>
            intro k e
            have hk' : k < (HL R).length := by omega
            obtain ⟨a1, a2, _⟩ := HL_mem hk'
            have i := ih2 (k + 1) (by omega)
            rw [mkI_s, mkb_D hs hk'] at i
            refine w_X12_findMasks_109 ⟨fun z => absurd z (by rw [ms.1]; exact nI_ge hk' (by omega)), fun _ => ?_⟩
            rw [nI_clamp (show k < 2 ^ 31 by omega), ms.2.1 k hk', i20k, nI_clamp (show 20000 * (HL R).getD k 0 + p < 2 ^ 31 by omega), (k1.2 p hp).1 _ a1]
            refine ⟨vp_in_nI (by omega) (by decide), vp_in_nI (by omega) (by decide), fun z => w_X12_findMasks_148 ?_, fun z => w_X12_findMasks_148 ?_⟩
            · rw [decide_eq_false (fun y => y z), if_neg (by decide)] at i
              rw [nI_1]; exact i
            · rw [decide_eq_true z, if_pos rfl] at i
              rw [nI_1]; exact i
        exact inner (HL R).length 0 (Nat.zero_add _)
  have clear : ∀ m k V1, k + m = 4096 → Fc V V1 fmk → (vI V1 6 0 73 = nI (HL R).length ∧ ∀ k, k < (HL R).length → vI V1 6 49 k = nI ((HL R).getD k 0)) → (∀ m, m < k → vI V1 6 48 m = 0) → vwp E d M_X12_findMasks 63 [some (sl 6 0), some (wi (nI q)), some (wi (nI k)), none, none] [] V1 (zv K) := by
    intro m
    induction m with
    | zero =>
      intro k V1 e f1 l1 z1
      have ek : k = 4096 := by omega
      subst ek
      exact w_X12_findMasks_63 ⟨fun _ => plans (plR R) 0 V1 (Nat.zero_add _) f1 ⟨l1.1, l1.2, fun m hm => by rw [z1 m hm]; rfl⟩, fun z => absurd (by decide) z⟩
    | succ m ih =>
      intro k V1 e f1 l1 z1
      refine w_X12_findMasks_63 ⟨fun z => absurd z (nI_ge (b := 4096) (by omega) (by decide)), fun _ => ⟨vp_in_nI (by omega) (by decide), fun V2 e2 => ?_⟩⟩
      rw [nI_clamp (show k < 2 ^ 31 by omega)] at e2
      rw [nI_1]
      refine ih (k + 1) V2 (by omega) (f1.trans (by rw [e2]; exact Fc_wrI ⟨rfl, Or.inr (Or.inl rfl)⟩)) ⟨by rw [e2, wrI_ne (fun z => by omega)]; exact l1.1, fun k hk => by rw [e2, wrI_ne (fun z => by omega)]; exact l1.2 k hk⟩ (fun m hm => ?_)
      by_cases c : m = k
      · rw [c, e2, wrI_at]; exact nz_b false
      · rw [e2, wrI_ne (fun z => c z.2.2)]; exact z1 m (by omega)
  have rules : ∀ m r V1, r + m = tcR R 2 → Fc V V1 fmk → vI V1 6 0 73 = nI (hL R r).length → (∀ k, k < (hL R r).length → vI V1 6 49 k = nI ((hL R r).getD k 0)) → vwp E d M_X12_findMasks 12 [some (sl 6 0), some (wi (nI q)), some (wi (nI r)), none, none] [] V1 (zv K) := by
    intro m
    induction m with
    | zero =>
      intro r V1 e f1 e73 e49
      have : r = tcR R 2 := by omega
      subst this
      rw [← hx] at e73 e49
      refine w_X12_findMasks_12 (by omega) (c_rulesOf q5 (by rw [f1.i (fun y => by have := y.2; omega)]; exact n14) ⟨fun _ => clear 4096 0 V1 rfl f1 ⟨e73, e49⟩ (fun m hm => absurd hm (Nat.not_lt_zero m)), fun z => absurd (nI_le (Nat.le_refl _) (by omega)) z⟩)
    | succ m ih =>
      intro r V1 e f1 e73 e49
      have hr : r < tcR R 2 := by omega
      obtain ⟨l3, el, _⟩ := hs.rule hr
      have e24 : vI V1 6 24 (24 * q + r) = nI (lvn R r) := by rw [((kn f1).1.1.2.2.2.2.2.2.1.1 r hr).1]; exact el
      have hls := hL_s R r
      refine w_X12_findMasks_12 (by omega) (c_rulesOf q5 (by rw [f1.i (fun y => by have := y.2; omega)]; exact n14) ⟨fun z => absurd z (nI_ge hr (by omega)), fun _ => ?_⟩)
      rw [i24, nI_clamp (show 24 * q + r < 2 ^ 31 by omega), e24]
      refine ⟨vp_in_nI (by omega) (by decide), fun z => w_X12_findMasks_55 ?_, fun z => ?_⟩
      · rw [if_neg (by unfold hdB; rw [decide_eq_false (fun y => z (by rw [y.2]; rfl))]; decide)] at hls
        rw [nI_1]
        exact ih (r + 1) V1 (by omega) f1 (by rw [hls]; exact e73) (by rw [hls]; exact e49)
      · rw [if_pos (show hdB R r = true from decide_eq_true ⟨hr, nI_0' l3 z⟩)] at hls
        have l1 : (hL R r).length + 1 ≤ 12 := by
          have := hL_le R (show r + 1 ≤ 24 by omega)
          rw [hls, List.length_append] at this
          have : (hL R r).length + 1 ≤ (HL R).length := this
          omega
        rw [e73, nI_clamp (show (hL R r).length < 2 ^ 31 by omega)]
        refine ⟨vp_in_nI (by omega) (by decide), fun V5 e5 V6 e6 => w_X12_findMasks_55 ?_⟩
        rw [nI_1]
        have k5 : Fc V1 V5 fmk := by rw [e5]; exact Fc_wrI ⟨rfl, Or.inr (Or.inr rfl)⟩
        have k6 : Fc V5 V6 fmk := by rw [e6]; exact Fc_wrI ⟨rfl, Or.inl ⟨rfl, rfl⟩⟩
        have e73' : vI V5 6 0 73 = nI (hL R r).length := by rw [e5, wrI_ne (fun z => by omega)]; exact e73
        refine ih (r + 1) V6 (by omega) (f1.trans (k5.trans k6)) ?_ (fun k hk => ?_)
        · rw [hls, List.length_append, e6, wrI_at, e73', nI_1]; rfl
        · rw [hls] at hk ⊢
          rw [getD_app hk]
          rw [List.length_append] at hk
          have hk : k < (hL R r).length + 1 := hk
          by_cases y : k < (hL R r).length
          · rw [if_pos y, e6, wrI_ne (fun z => by omega), e5, wrI_ne (fun z => by omega)]; exact e49 k y
          · have : k = (hL R r).length := by omega
            rw [if_neg y, this, e6, wrI_ne (fun z => by omega), e5, wrI_at]
  exact rules (tcR R 2) 0 V (Nat.zero_add _) Fc.refl (by rw [e0]; rfl) (fun k hk => absurd hk (Nat.not_lt_zero k))
theorem c_numberOf {y : Int32} {L : List Nat} {K : Int32 → VH → Prop} (h12 : (HL R).length ≤ 12) (ms : MsM V R nt fa L) (hk : K (bnI (HL R) y (HL R).length) V) : vMI E d M_X12_numberOf [sl 6 0, wi y] V K := by
  have go : ∀ m k, k + m = (HL R).length → vwp E d M_X12_numberOf 4 [some (sl 6 0), some (wi y), some (wi (bnI (HL R) y k)), some (wi (nI k))] [] V (zi K) := by
    intro m
    induction m with
    | zero =>
      intro k e
      have : k = (HL R).length := by omega
      subst this
      refine w_X12_numberOf_4 ⟨fun _ => hk, fun z => absurd ?_ z⟩
      rw [ms.1]; exact nI_le (Nat.le_refl _) (by omega)
    | succ m ih =>
      intro k e
      have hk' : k < (HL R).length := by omega
      have i := ih (k + 1) (by omega)
      rw [bnI_s] at i
      refine w_X12_numberOf_4 ⟨fun z => absurd z (by rw [ms.1]; exact nI_ge hk' (by omega)), fun _ => ?_⟩
      rw [nI_clamp (show k < 2 ^ 31 by omega), ms.2.1 k hk', bit_is _ (by omega)]
      by_cases c : tst y k = true
      · rw [if_pos c] at i ⊢
        exact ⟨fun z => absurd rfl z, fun _ => ⟨vp_in_nI (by omega) (by decide), w_X12_numberOf_34 (by rw [nI_1]; exact i)⟩⟩
      · rw [if_neg c] at i ⊢
        exact ⟨fun _ => w_X12_numberOf_34 (by rw [nI_1]; exact i), fun z => absurd z (by decide)⟩
  exact w_X12_numberOf_0 (go (HL R).length 0 (Nat.zero_add _))
theorem c_clashes {y : Int32} {L : List Nat} {K : Int32 → VH → Prop} (h12 : (HL R).length ≤ 12) (ms : MsM V R nt fa L) (hk : K (bI (clB R nt fa L y)) V) : vMI E d M_X12_clashes [sl 6 0, wi y] V K := by
  have p2 := two12 h12
  -- a plan that breaks just m, none of y
  have bad : ∀ m, m < 2 ^ (HL R).length → exB R nt fa L m = true → nI m &&& y = 0 → clB R nt fa L y = false := fun m hm ex z => by
    obtain ⟨p, hp, e⟩ := exB_iff.mp ex
    cases c : clB R nt fa L y with
    | false => rfl
    | true =>
      obtain ⟨v, hv, hb, ht⟩ := clB_iff.mp c p hp
      have a := (and_eq0 (nI m) y).mp z v (by omega) (by rw [← e, mkI_t (by omega) _ (by omega), decide_eq_true hv, hb]; rfl)
      rw [ht] at a; exact Bool.noConfusion a
  have good : (∀ m, m < 2 ^ (HL R).length → exB R nt fa L m = true → ¬ nI m &&& y = 0) → clB R nt fa L y = true := fun hA => clB_iff.mpr (fun p hp => by
    obtain ⟨m, hm, e⟩ := mkQ_nI (nt := nt) (fa := fa) h12 p
    have nz := hA m hm (exB_iff.mpr ⟨p, hp, e⟩)
    by_cases c : ∃ v, v < (HL R).length ∧ mkb R nt fa p v = true ∧ tst y v = true
    · exact c
    · refine absurd ((and_eq0 (nI m) y).mpr (fun v hv ht => ?_)) nz
      rw [← e, mkI_t hv _ (by omega), Bool.and_eq_true] at ht
      cases w : tst y v with
      | false => rfl
      | true => exact absurd ⟨v, of_decide_eq_true ht.1, ht.2, w⟩ c)
  have nil : ∀ i : Int32, clB R nt fa L y = false → vwp E d M_X12_clashes 4 [some (sl 6 0), some (wi y), some (wi 0), some (wi i)] [] V (zi K) := fun i c => w_X12_clashes_4 ⟨fun _ => ⟨Or.inl rfl, by rw [c] at hk; exact hk⟩, fun z => absurd rfl z⟩
  have go : ∀ r m, m + r = 2 ^ (HL R).length → (∀ j, j < m → exB R nt fa L j = true → ¬ nI j &&& y = 0) → vwp E d M_X12_clashes 4 [some (sl 6 0), some (wi y), some (wi 1), some (wi (nI m))] [] V (zi K) := by
    intro r
    induction r with
    | zero =>
      intro m e hA
      have em : m = 2 ^ (HL R).length := by omega
      refine w_X12_clashes_4 ⟨fun z => absurd z (by decide), fun _ => ?_⟩
      rw [ms.1, pw2 _ (by omega)]
      refine ⟨fun _ => ⟨Or.inr rfl, ?_⟩, fun z => absurd (nI_le (by omega) (by omega)) z⟩
      rw [good (fun j hj => hA j (by omega))] at hk; exact hk
    | succ r ih =>
      intro m e hA
      have hm : m < 2 ^ (HL R).length := by omega
      refine w_X12_clashes_4 ⟨fun z => absurd z (by decide), fun _ => ?_⟩
      rw [ms.1, pw2 _ (by omega), nI_clamp (show m < 2 ^ 31 by omega), ms.2.2 m (by omega)]
      refine ⟨fun z => absurd z (nI_ge hm (by omega)), fun _ => ⟨vp_in_nI (by omega) (by decide), fun z => ?_, fun z => ⟨fun w => ?_, fun w => ?_⟩⟩⟩
      · refine w_X12_clashes_33 (w_X12_clashes_38 ?_)
        rw [nI_1]
        refine ih (m + 1) (by omega) (fun j hj ex => ?_)
        by_cases c : j = m
        · rw [c, bI_0.mp z] at ex; exact Bool.noConfusion ex
        · exact hA j (by omega) ex
      · refine w_X12_clashes_38 (nil _ (bad m hm (bI_1.mp z) w))
      · refine w_X12_clashes_33 (w_X12_clashes_38 ?_)
        rw [nI_1]
        refine ih (m + 1) (by omega) (fun j hj ex => ?_)
        by_cases c : j = m
        · rw [c]; exact w
        · exact hA j (by omega) ex
  exact w_X12_clashes_0 (go (2 ^ (HL R).length) 0 (Nat.zero_add _) (fun j hj => absurd hj (Nat.not_lt_zero j)))
end
