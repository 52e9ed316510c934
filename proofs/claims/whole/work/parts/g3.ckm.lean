/-! check: the reference's leaves -/
/-- cells that the reference's check changes -/
def cmS (a f j : Nat) : Prop := a = 6 ∧ (f = 0 ∧ 40 ≤ j ∧ j ≤ 46 ∨ f = 55 ∨ f = 56 ∨ f = 57)
/-- the values that are given: those of plan p for the vars of y -/
def GvM (V : VH) (R : List SR) (y : Int32) (p : Nat) : Prop := ∀ v, v < tcR R 1 → vI V 6 55 v = if tst y v = true then nI (Dg (szR R) (tcR R 1) v p) else -1
def bmS (a f j : Nat) : Prop := a = 6 ∧ (f = 56 ∨ f = 57)
theorem bmS_cm {a f j : Nat} (y : bmS a f j) : cmS a f j := ⟨y.1, by have := y.2; omega⟩
theorem bz_bI (b : Bool) : bz (bI b) := by
  cases b
  · exact Or.inl rfl
  · exact Or.inr rfl
theorem imin_top (v : Int32) : imin 2147483647 v = v := by
  unfold imin
  by_cases c : v < 2147483647
  · rw [if_pos c]
  · rw [if_neg c]
    have a := Int32.not_lt.mp c
    have b : v ≤ 2147483647 := by
      rw [Int32.le_iff_toInt_le]
      have := Int32.toInt_lt v
      show v.toInt ≤ 2147483647
      omega
    exact Int32.le_antisymm a b
theorem low_all {sz : Nat → Nat} {nv p : Nat} {y : Int32} (hs : ∀ v, v < nv → 0 < sz v) (hp : p < Tp sz nv 0) (ha : ∀ v, v < nv → tst y v = true) : low sz nv (tst y) nv p = p := by
  obtain ⟨l1, l2⟩ := low_spec hs (tst y) p hp nv (Nat.le_refl _)
  refine Dg_inj l1 hp (fun u hu => ?_)
  have nc : ¬ (u < nv ∧ ¬ tst y u = true) := fun z => z.2 (ha u hu)
  rw [l2 u hu, if_neg nc]
section
variable {E : EE} {d : Nat} {V V' : VH} {q : Nat} {t : Nat → Int32} {n : Nat} {R : List SR} {nt fa : Nat → Int32} {h : Nat} {x y : Int32} {cs : Nat → Int32} {p : Nat}
theorem c_firstGiven {K : Int32 → VH → Prop} (h0 : 0 < d) (hm : KnM V q t n R nt fa h x cs) (hp : p < plR R) (hG : GvM V R y p) (hk : K (nI (low (szR R) (tcR R 1) (tst y) (tcR R 1) p)) V) : vMI E d M_X12_firstGiven [sl 6 0, wi (nI q)] V K := by
  have sq := hm.sq
  have q5 := hm.q5
  have h12 := sq.2.2.1
  obtain ⟨l1, l2⟩ := low_spec sq.pos (tst y) p hp (tcR R 1) (Nat.le_refl _)
  generalize low (szR R) (tcR R 1) (tst y) (tcR R 1) p = l at *
  have go : ∀ (m v : Nat), v + m = tcR R 1 → vwp E d M_X12_firstGiven 4 [some (sl 6 0), some (wi (nI q)), some (wi (nI (Tp (szR R) (tcR R 1) v * (l / Tp (szR R) (tcR R 1) v)))), some (wi (nI v))] [] V (zi K) := by
    intro m
    induction m with
    | zero =>
      intro v ev
      refine w_X12_firstGiven_4 h0 (c_vars sq ⟨fun _ => ?_, fun z => absurd (nI_le (by omega) (by omega)) z⟩)
      rw [Tp_nv (show tcR R 1 ≤ v by omega), Nat.div_one, Nat.one_mul]
      exact hk
    | succ m ih =>
      intro v ev
      have hv : v < tcR R 1 := by omega
      have hst := hand_step (h := l) sq.pos hv
      have dl := Dg_lt sq.pos (p := p) hv
      have s20 := (sq.2.2.2.2.2 v hv).2.2.1
      have l2v := l2 v hv
      have ih := ih (v + 1) (by omega)
      rw [← hst] at ih
      refine w_X12_firstGiven_4 h0 (c_vars sq ⟨fun z => absurd z (nI_ge hv (by omega)), fun _ => ?_⟩)
      rw [nI_clamp (show v < 2 ^ 31 by omega), hG v hv]
      have vp : vp_in (nI v) 12 := vp_in_nI (by omega) (by decide)
      have zero : Dg (szR R) (tcR R 1) v l = 0 → vwp E d M_X12_firstGiven 45 [some (sl 6 0), some (wi (nI q)), some (wi (nI (Tp (szR R) (tcR R 1) v * (l / Tp (szR R) (tcR R 1) v)))), some (wi (nI v))] [wi 0, wi (nI (Tp (szR R) (tcR R 1) v * (l / Tp (szR R) (tcR R 1) v)))] V (zi K) := fun z => by
        rw [z, Nat.zero_mul, Nat.add_zero] at ih
        refine w_X12_firstGiven_45 ?_
        rw [Int32.add_zero, nI_1]
        exact ih
      by_cases c : tst y v = true
      · have nc : ¬ (v < tcR R 1 ∧ ¬ tst y v = true) := fun z => z.2 c
        rw [if_neg nc] at l2v
        rw [if_pos c]
        refine ⟨vp, fun z => zero ?_, fun z => ⟨vp, ?_⟩⟩
        · rw [l2v]
          have := (nI_leI (b := 0) (by omega) (by decide)).mp z
          omega
        · rw [i12, nI_clamp (show 12 * q + v < 2 ^ 31 by omega), (sq.2.2.2.2.2 v hv).2.2.2.1, nI_mul]
          refine ⟨vp_in_nI (by omega) (by decide), w_X12_firstGiven_45 ?_⟩
          rw [nI_add, nI_1]
          rw [l2v] at ih
          exact ih
      · rw [if_pos ⟨hv, c⟩] at l2v
        rw [if_neg c]
        exact ⟨vp, fun _ => zero l2v, fun z => absurd (show (-1 : Int32) ≤ 0 by decide) z⟩
  have := go (tcR R 1) 0 (by omega)
  rw [Nat.div_eq_of_lt l1, Nat.mul_zero] at this
  exact w_X12_firstGiven_0 this
theorem c_nextGiven {a : Nat} {K : Int32 → VH → Prop} (h0 : 0 < d) (hm : KnM V q t n R nt fa h x cs) (hG : GvM V R y p) (ha : a < plR R) (hn : fol (szR R) (tcR R 1) (tst y) (tcR R 1) a = none → K (-1) V) (hy : ∀ b, fol (szR R) (tcR R 1) (tst y) (tcR R 1) a = some b → K (nI b) V) : vMI E d M_X12_nextGiven [sl 6 0, wi (nI q), wi (nI a)] V K := by
  have sq := hm.sq
  have q5 := hm.q5
  have h12 := sq.2.2.1
  have t20 := sq.2.2.2.2.1
  have go : ∀ (v b : Nat), v ≤ tcR R 1 → b < Tp (szR R) (tcR R 1) 0 → (fol (szR R) (tcR R 1) (tst y) v b = none → K (-1) V) → (∀ c, fol (szR R) (tcR R 1) (tst y) v b = some c → K (nI c) V) → vwp E d M_X12_nextGiven 11 [some (sl 6 0), some (wi (nI q)), some (wi (nI a)), some (wi (nI b)), some (wi (nI v - 1)), none] [] V (zi K) := by
    intro v
    induction v with
    | zero =>
      intro b _ _ k1 _
      exact w_X12_nextGiven_11 h0 ⟨fun _ => k1 (by rw [fol]), fun z => absurd (by decide) z⟩
    | succ v ih =>
      intro b hv hb k1 k2
      have hvn : v < tcR R 1 := by omega
      rw [show nI (v + 1) - 1 = nI v from nI_pred v]
      obtain ⟨e6, s1, s2, e8, e7⟩ := sq.2.2.2.2.2 v hvn
      have vp : vp_in (nI v) 12 := vp_in_nI (by omega) (by decide)
      have vq : vp_in (nI (12 * q + v)) 60 := vp_in_nI (by omega) (by decide)
      have em : nI v + (-1) = nI v - 1 := (Int32.sub_eq_add_neg _ _).symm
      have dl := Dg_lt sq.pos (p := b) hvn
      refine w_X12_nextGiven_11 h0 ⟨fun z => absurd z (nI_pos (by omega)), fun _ => ?_⟩
      rw [nI_clamp (show v < 2 ^ 31 by omega), hG v hvn]
      by_cases c : tst y v = true
      · rw [if_pos c]
        rw [fol, if_pos c] at k1 k2
        have dp := Dg_lt sq.pos (p := p) hvn
        exact ⟨vp, fun z => absurd z (nI_pos (by omega)), fun _ => w_X12_nextGiven_91 (by rw [em]; exact ih b (by omega) hb k1 k2)⟩
      · rw [if_neg c]
        refine ⟨vp, fun _ => c_place sq hvn (by omega) ?_, fun z => absurd (show (-1 : Int32) < 0 by decide) z⟩
        rw [i12, nI_clamp (show 12 * q + v < 2 ^ 31 by omega), e6, e8, nI_1]
        have d1 := Dg_le (sz := szR R) (p := b) hvn
        have d2 := Nat.mod_le b (Tp (szR R) (tcR R 1) v)
        refine ⟨vq, fun z => ⟨vq, w_X12_nextGiven_91 ?_⟩, fun z => ⟨vq, ?_⟩⟩
        · have l : szR R v ≤ Dg (szR R) (tcR R 1) v b + 1 := (nI_leI (by omega) (by omega)).mp z
          have c2 : ¬ Dg (szR R) (tcR R 1) v b + 1 < szR R v := by omega
          rw [fol, if_neg c, if_neg c2] at k1 k2
          rw [nI_mul, nI_sub (by omega), em]
          exact ih _ (by omega) (by omega) k1 k2
        · have c2 : Dg (szR R) (tcR R 1) v b + 1 < szR R v := by
            have := mt (nI_leI (a := szR R v) (b := Dg (szR R) (tcR R 1) v b + 1) (by omega) (by omega)).mpr z
            omega
          rw [nI_add]
          exact k2 _ (by rw [fol, if_neg c, if_pos c2])
  refine w_X12_nextGiven_0 h0 (c_vars sq ?_)
  exact go (tcR R 1) a (Nat.le_refl _) ha hn hy
theorem m_breaks {r : Nat} {K : Int32 → VH → Prop} (h0 : 1 < d) (hm : KnM V q t n R nt fa h x cs) (hs : PrS t n R nt) (hp : p < plR R) (hG : GvM V R y p) (hr : r < tcR R 2) (hk : K (bI (bkR R nt fa y p r)) V) : vMI E d M_X12_breaksAlways [sl 6 0, wi (nI q), wi (nI r)] V K := by
  have r24 : tcR R 2 ≤ 24 := hs.2.2.2.1.1 2 (by decide)
  have t20 := hm.sq.2.2.2.2.1
  refine w_X12_breaksAlways_0 (by omega) (c_firstGiven (by omega) hm hp hG ?_)
  refine en_loop (fx := tst y) (h := p) (f := fun s a => s && decide (¬ DR R nt r fa (sn (szR R) (tcR R 1) (vlR R) a) ≤ 0)) (a := true) hm.sq.pos hp (fun c n s' => (s' = false → bkR R nt fa y p r = false) → vwp E d M_X12_breaksAlways 9 [some (sl 6 0), some (wi (nI q)), some (wi (nI r)), some (wi (bI s')), some (wi (cuI c))] [] V (zi K)) (fun n _ => ?_) (fun p1 n s' hp1 hnp ha ih hs' => ?_) (fun z => absurd z (by decide))
  · exact w_X12_breaksAlways_9 ⟨fun _ => ⟨bz_bI _, hk⟩, fun _ => ⟨fun _ => ⟨bz_bI _, hk⟩, fun z => absurd (show cuI none < 0 by decide) z⟩⟩
  · cases s' with
    | false =>
      rw [hs' rfl] at hk
      exact w_X12_breaksAlways_9 ⟨fun _ => ⟨Or.inl rfl, hk⟩, fun z => absurd rfl z⟩
    | true =>
      have e43 : vI V 6 43 (20000 * r + p1) = DR R nt r fa (sn (szR R) (tcR R 1) (vlR R) p1) := (hm.2 p1 hp1).1 r hr
      refine w_X12_breaksAlways_9 ⟨fun z => absurd z (by decide), fun _ => ⟨fun z => absurd z (nI_pos (by omega)), fun _ => ?_⟩⟩
      rw [show cuI (some p1) = nI p1 from rfl, i20k, nI_clamp (show 20000 * r + p1 < 2 ^ 31 by omega), e43]
      have step : ∀ b : Bool, b = decide (¬ DR R nt r fa (sn (szR R) (tcR R 1) (vlR R) p1) ≤ 0) → vwp E d M_X12_breaksAlways 39 [some (sl 6 0), some (wi (nI q)), some (wi (nI r)), some (wi (bI true)), some (wi (nI p1))] [wi (bI b)] V (zi K) := fun b eb => by
        have ih2 := ih (fun z => by
          have z : (true && decide (¬ DR R nt r fa (sn (szR R) (tcR R 1) (vlR R) p1) ≤ 0)) = false := z
          rw [Bool.true_and] at z
          cases c : bkR R nt fa y p r with
          | false => rfl
          | true =>
            have c : fA (agr (szR R) (tcR R 1) (tst y) p) (fun s a => s && decide (¬ DR R nt r fa (sn (szR R) (tcR R 1) (vlR R) a) ≤ 0)) true (plR R) = true := c
            have c2 := (fA_all (G := fun a => decide (¬ DR R nt r fa (sn (szR R) (tcR R 1) (vlR R) a) ≤ 0)) (plR R)).mp c p1 hp1 ha
            have c2 : decide (¬ DR R nt r fa (sn (szR R) (tcR R 1) (vlR R) p1) ≤ 0) = true := c2
            rw [z] at c2
            exact absurd c2 (by decide))
        have ih3 : vwp E d M_X12_breaksAlways 9 [some (sl 6 0), some (wi (nI q)), some (wi (nI r)), some (wi (bI (true && decide (¬ DR R nt r fa (sn (szR R) (tcR R 1) (vlR R) p1) ≤ 0)))), some (wi (cuI (fol (szR R) (tcR R 1) (tst y) (tcR R 1) p1)))] [] V (zi K) := ih2
        rw [Bool.true_and, ← eb] at ih3
        refine w_X12_breaksAlways_39 (by omega) (c_nextGiven (by omega) hm hG hp1 (fun e => ?_) (fun b e => ?_))
        · rw [e] at ih3; exact ih3
        · rw [e] at ih3; exact ih3
      refine ⟨vp_in_nI (by omega) (by decide), fun z => step false (by
        have nn : ¬ ¬ DR R nt r fa (sn (szR R) (tcR R 1) (vlR R) p1) ≤ 0 := fun u => u z
        exact (decide_eq_false nn).symm), fun z => step true (decide_eq_true z).symm⟩
theorem m_isPoint {K : Int32 → VH → Prop} (h0 : 2 < d) (hm : KnM V q t n R nt fa h x cs) (hp : p < plR R) (hG : GvM V R y p) (hk : K (bI (ptR R nt fa h y p)) V) : vMI E d M_X12_isPoint [sl 6 0, wi (nI q)] V K := by
  have sq := hm.sq
  have h12 := sq.2.2.1
  have go : ∀ m v, v + m = tcR R 1 → (∀ u, u < v → tst y u = true) → vwp E d M_X12_isPoint 2 [some (sl 6 0), some (wi (nI q)), some (wi (nI v))] [] V (zi K) := by
    intro m
    induction m with
    | zero =>
      intro v ev hu
      have : v = tcR R 1 := by omega
      subst this
      have al : (List.range (tcR R 1)).all (fun v => tst y v) = true := List.all_eq_true.mpr (fun u hu' => hu u (List.mem_range.mp hu'))
      refine w_X12_isPoint_2 (by omega) (c_vars sq ⟨fun _ => c_firstGiven (by omega) hm hp hG ?_, fun z => absurd (nI_le (Nat.le_refl _) (by omega)) z⟩)
      rw [low_all sq.pos hp hu]
      refine c_isFeasible hm.tq hp ⟨fun z => w_X12_isPoint_55 ?_, fun z => c_handOf (by omega) sq hm.hq (c_isBetterM hm.tq hp hm.hq.1 ⟨fun z2 => ?_, fun z2 => w_X12_isPoint_55 ?_⟩)⟩
      · have nz : ¬ scQ R nt fa p 0 = 0 := of_decide_eq_false (bI_0.mp z)
        have e : ptR R nt fa h y p = true := by
          unfold ptR
          rw [Bool.and_eq_true, Bool.or_eq_true]
          exact ⟨al, Or.inl (decide_eq_true nz)⟩
        rw [e] at hk; exact hk
      · have zz : ¬ ¬ scQ R nt fa p 0 = 0 := fun u => u (of_decide_eq_true (bI_1.mp z))
        have e : ptR R nt fa h y p = !btr (scQ R nt fa) p h := by
          unfold ptR
          rw [al, decide_eq_false zz, Bool.true_and, Bool.false_or]
        rw [e, bI_1.mp z2] at hk; exact hk
      · have zz : ¬ ¬ scQ R nt fa p 0 = 0 := fun u => u (of_decide_eq_true (bI_1.mp z))
        have e : ptR R nt fa h y p = !btr (scQ R nt fa) p h := by
          unfold ptR
          rw [al, decide_eq_false zz, Bool.true_and, Bool.false_or]
        rw [e, bI_0.mp z2] at hk; exact hk
    | succ m ih =>
      intro v ev hu
      have hv : v < tcR R 1 := by omega
      have dl := Dg_lt sq.pos (p := p) hv
      have s20 := (sq.2.2.2.2.2 v hv).2.2.1
      refine w_X12_isPoint_2 (by omega) (c_vars sq ⟨fun z => absurd z (nI_ge hv (by omega)), fun _ => ?_⟩)
      rw [nI_clamp (show v < 2 ^ 31 by omega), hG v hv, nI_1]
      have vp : vp_in (nI v) 12 := vp_in_nI (by omega) (by decide)
      by_cases c : tst y v = true
      · rw [if_pos c]
        refine ⟨vp, fun _ => ih (v + 1) (by omega) (fun u hu' => ?_), fun z => absurd (nI_le (a := 0) (Nat.zero_le _) (by omega)) z⟩
        by_cases w : u = v
        · rw [w]; exact c
        · exact hu u (by omega)
      · rw [if_neg c]
        refine ⟨vp, fun z => absurd z (by decide), fun _ => ?_⟩
        have e : ptR R nt fa h y p = false := by
          unfold ptR
          cases w : (List.range (tcR R 1)).all (fun v => tst y v) with
          | true => exact absurd (List.all_eq_true.mp w v (List.mem_range.mpr hv)) c
          | false => rfl
        rw [e] at hk; exact hk
  exact w_X12_isPoint_0 (go (tcR R 1) 0 (by omega) (fun u hu => absurd hu (Nat.not_lt_zero u)))
end
