/-- the order of the front: by level 1, of the same by level 2, of the same by number -/
def bhd (sc : Nat → Nat → Int64) (p q : Nat) : Bool := decide ((sc q 1).toInt < (sc p 1).toInt ∨ (sc q 1).toInt = (sc p 1).toInt ∧ ((sc q 2).toInt < (sc p 2).toInt ∨ (sc q 2).toInt = (sc p 2).toInt ∧ q < p))
theorem bhd_iff {sc : Nat → Nat → Int64} {p q : Nat} : bhd sc p q = true ↔ ((sc q 1).toInt < (sc p 1).toInt ∨ (sc q 1).toInt = (sc p 1).toInt ∧ ((sc q 2).toInt < (sc p 2).toInt ∨ (sc q 2).toInt = (sc p 2).toInt ∧ q < p)) := decide_eq_true_iff
theorem bhd_to (sc : Nat → Nat → Int64) : Bto (bhd sc) := by
  refine ⟨fun a => decide_eq_false (by omega), fun a b c h k => ?_, fun a b h => ?_⟩
  · rw [bhd_iff] at h k ⊢
    omega
  · rw [bhd_iff, bhd_iff]
    omega
/-- plans of the same pair -/
def smp (sc : Nat → Nat → Int64) (p q : Nat) : Bool := decide (sc q 1 = sc p 1 ∧ sc q 2 = sc p 2)
def cnd (sc : Nat → Nat → Int64) (l : Option Int) (q : Nat) : Prop := ∀ u, l = some u → (sc q 2).toInt < u
/-- the next plan of the front below a bound -/
def IsN (sc : Nat → Nat → Int64) (G : List Nat) (l : Option Int) (p : Nat) : Prop := p ∈ G ∧ cnd sc l p ∧ ∀ q ∈ G, cnd sc l q → q = p ∨ bhd sc q p = true
def lmF (sc : Nat → Nat → Int64) (F : Nat → Nat) (a : Nat) : Option Int := if a = 0 then none else some (sc (F (a - 1)) 2).toInt
/-- the front has n pairs, whose first plans are F -/
def FrC (sc : Nat → Nat → Int64) (G : List Nat) (n : Nat) (F : Nat → Nat) : Prop := (∀ a, a < n → IsN sc G (lmF sc F a) (F a)) ∧ ∀ q ∈ G, ¬ cnd sc (lmF sc F n) q
def cnP (sc : Nat → Nat → Int64) (G : List Nat) (p : Nat) : Nat := (G.filter (smp sc p)).length
def ltS (g : Nat) : Nat → Nat → Nat → Prop := fun a f _ => a = g ∧ f = 20
def LF (V : VH) (g m : Nat) (L : Nat → Nat) : Prop := ∀ j, j < m → vI V g 20 j = nI (L j)
section
variable {E : EE} {d : Nat} {V : VH} {g np : Nat} {st : Nat → Int32} {sc : Nat → Nat → Int64}
theorem LF.swq {m i j : Nat} {L : Nat → Nat} {V1 V2 : VH} (h : LF V g m L) (hi : i < m) (hj : j < m) (hij : i ≠ j) (e1 : V1 = wrI V g 20 i (vI V g 20 j)) (e2 : V2 = wrI V1 g 20 j (vI V g 20 i)) : LF V2 g m (swq L i j) := by
  intro a ha
  by_cases p : a = j
  · rw [p, swq_j, e2, wrI_at]; exact h i hi
  · rw [e2, wrI_ne (fun z => p z.2.2), e1]
    by_cases q : a = i
    · rw [q, swq_i, wrI_at]; exact h j hj
    · rw [swq_o L q p, wrI_ne (fun z => q z.2.2)]; exact h a ha
theorem c_isBehind {p q : Nat} {K : Int32 → VH → Prop} (h0 : 0 < d) (hg : PG (vL V) g) (h : Tb V g np st sc) (hp : p < np) (hq : q < np) (h2 : np ≤ 20000) (hk : K (bI (bhd sc p q)) V) : vMI E d M_X9_isBehind [sl g 19, wi (nI p), wi (nI q)] V K := by
  have step : ∀ l, l < 3 → (sc p l = sc q l → vwp E d M_X9_isBehind 2 [some (sl g 19), some (wi (nI p)), some (wi (nI q)), some (wi (nI (l + 1))), none, none, none, none] [] V (zi K)) → (sc p l ≠ sc q l → K (bI (decide (sc q l < sc p l))) V) → vwp E d M_X9_isBehind 2 [some (sl g 19), some (wi (nI p)), some (wi (nI q)), some (wi (nI l)), none, none, none, none] [] V (zi K) := fun l hl k1 k2 => by
    refine w_X9_isBehind_2 hg h0 ⟨fun z => absurd z (nI_ge (b := 3) hl (by decide)), fun _ => c_scoreOf hg h hp hl (c_scoreOf hg h hq hl ⟨fun e => ?_, fun e => ⟨fun z => ?_, fun z => ?_⟩⟩)⟩
    · rw [nI_1]; exact k1 e
    · have := k2 e
      rw [decide_eq_false (Int64.not_lt.mpr z)] at this
      exact this
    · have := k2 e
      rw [decide_eq_true (Int64.not_le.mp z)] at this
      exact this
  refine w_X9_isBehind_0 hg (step 1 (by omega) (fun e1 => step 2 (by omega) (fun e2 => ?_) (fun n2 => ?_)) (fun n1 => ?_))
  · refine w_X9_isBehind_2 hg h0 ⟨fun _ => ⟨fun z => ?_, fun z => ?_⟩, fun z => absurd (nI_le (a := 3) (b := 3) (Nat.le_refl _) (by decide)) z⟩
    · have : bhd sc p q = false := decide_eq_false (by
        have : ¬ q < p := fun w => absurd z (nI_ge w (by omega))
        rw [e1, e2]; omega)
      rw [this] at hk; exact hk
    · have : bhd sc p q = true := bhd_iff.mpr (by
        have : q < p := Nat.lt_of_not_le (fun w => z (nI_le w (by omega)))
        rw [e1, e2]; omega)
      rw [this] at hk; exact hk
  · have : bhd sc p q = decide (sc q 2 < sc p 2) := by
      have : (sc p 2).toInt ≠ (sc q 2).toInt := fun z => n2 (Int64.toInt_inj.mp z)
      unfold bhd
      rw [e1]
      exact decide_eq_decide.mpr (by rw [Int64.lt_iff_toInt_lt]; omega)
    rw [this] at hk; exact hk
  · have : bhd sc p q = decide (sc q 1 < sc p 1) := by
      have : (sc p 1).toInt ≠ (sc q 1).toInt := fun z => n1 (Int64.toInt_inj.mp z)
      unfold bhd
      exact decide_eq_decide.mpr (by rw [Int64.lt_iff_toInt_lt]; omega)
    rw [this] at hk; exact hk
theorem c_isSamePair {p q : Nat} {K : Int32 → VH → Prop} (h0 : 0 < d) (hg : PG (vL V) g) (h : Tb V g np st sc) (hp : p < np) (hq : q < np) (hk : K (bI (smp sc q p)) V) : vMI E d M_X9_isSamePair [sl g 19, wi (nI p), wi (nI q)] V K := by
  refine w_X9_isSamePair_0 hg h0 (c_scoreOf (l := 1) hg h hp (by decide) (c_scoreOf (l := 1) hg h hq (by decide) ⟨fun z => ?_, fun z => c_scoreOf (l := 2) hg h hp (by decide) (c_scoreOf (l := 2) hg h hq (by decide) ⟨fun w => ?_, fun w => ?_⟩)⟩))
  · have : smp sc q p = false := decide_eq_false (fun y => z y.1)
    rw [this] at hk; exact hk
  · have : smp sc q p = false := decide_eq_false (fun y => w y.2)
    rw [this] at hk; exact hk
  · have : smp sc q p = true := decide_eq_true ⟨z, w⟩
    rw [this] at hk; exact hk
theorem c_sink_go {m n : Nat} {y : Int32} {K : VH → Prop} (h0 : 1 < d) (hg : PG (vL V) g) (hT : Tb V g np st sc) (hm : m ≤ vN V g 20) (hn : n ≤ m) (h2 : np ≤ 20000) : ∀ (f a s : Nat) (V1 : VH) (L : Nat → Nat), s + f = n → a < n → Fc V V1 (ltS g) → LF V1 g m L → (∀ j, j < m → L j < np) → (∀ V2, Fc V V2 (ltS g) → LF V2 g m (snk (bhd sc) n f a L) → K V2) → vwp E d M_X9_sink 5 [some (sl g 19), some (wi y), some (wi (nI n)), some (wi (nI a)), some (wi (nI s)), none, none] [] V1 (zv K) := by
  have m2 : vN V g 20 ≤ 20000 := by have := hT.2.1; have := hT.2.2.1; omega
  intro f
  induction f with
  | zero =>
    intro a s V1 L es ha f1 l1 hl hk
    have hg1 : PG (vL V1) g := by rw [f1.l]; exact hg
    exact w_X9_sink_5 hg1 (by omega) ⟨fun _ => hk V1 f1 l1, fun z => absurd (nI_le (by omega) (by omega)) z⟩
  | succ f ih =>
    intro a s V1 L es ha f1 l1 hl hk
    have hg1 : PG (vL V1) g := by rw [f1.l]; exact hg
    have T1 : Tb V1 g np st sc := hT.fc f1 (fun i => ⟨fun z => by have := z.2; omega, fun z => by have := z.2; omega⟩)
    have n1 : vN V1 = vN V := f1.n
    have e1 : (2 : Int32) * nI a + 1 = nI (2 * a + 1) := by rw [show (2 : Int32) = nI 2 from rfl, nI_mul, nI_1]
    rw [snk_s] at hk
    refine w_X9_sink_5 hg1 (by omega) ⟨fun z => absurd z (nI_ge (by omega) (by omega)), fun _ => ?_⟩
    rw [e1, nI_1]
    by_cases c0 : 2 * a + 1 < n
    · rw [if_pos c0] at hk
      have tail : ∀ c, chd (bhd sc) L a n = c → vwp E d M_X9_sink 61 [some (sl g 19), some (wi y), some (wi (nI n)), some (wi (nI a)), some (wi (nI s)), some (wi (nI c)), none] [] V1 (zv K) := fun c ec => by
        have hc := (chd_lt (bh := bhd sc) (L := L) c0)
        rw [ec] at hc hk
        refine w_X9_sink_61 hg1 (by omega) ?_
        rw [n1, nI_clamp (show c < 2 ^ 31 by omega), nI_clamp (show a < 2 ^ 31 by omega), l1 c (by omega), l1 a (by omega)]
        have v1 : vp_in (nI c) (vN V g 20) := vp_in_nI (by omega) (by omega)
        have v2 : vp_in (nI a) (vN V g 20) := vp_in_nI (by omega) (by omega)
        refine ⟨v1, v2, c_isBehind (by omega) hg1 T1 (hl c (by omega)) (hl a (by omega)) h2 ?_⟩
        rw [n1]
        by_cases c1 : bhd sc (L c) (L a) = true
        · rw [if_pos c1] at hk
          rw [c1]
          refine ⟨fun _ => ⟨v1, v2, v1, fun V9 e9 => ⟨by rw [e9]; exact (by rw [← n1] at v2; exact v2), fun V11 e11 => ?_⟩⟩, fun z => absurd z (by decide)⟩
          rw [nI_1]
          have k9 : Fc V1 V9 (ltS g) := by rw [e9]; exact Fc_wrI ⟨rfl, rfl⟩
          have k11 : Fc V9 V11 (ltS g) := by rw [e11]; exact Fc_wrI ⟨rfl, rfl⟩
          exact ih c (s + 1) V11 _ (by omega) (by omega) (f1.trans (k9.trans k11)) (l1.swq (by omega) (by omega) (by omega) e9 e11) (fun j hj => by
            by_cases p : j = c
            · rw [p, swq_i]; exact hl a (by omega)
            · by_cases p' : j = a
              · rw [p', swq_j]; exact hl c (by omega)
              · rw [swq_o L p p']; exact hl j hj) hk
        · rw [if_neg c1] at hk
          have : bhd sc (L c) (L a) = false := by cases w : bhd sc (L c) (L a) with
            | false => rfl
            | true => exact absurd w c1
          rw [this]
          exact ⟨fun z => absurd rfl z, fun _ => hk V1 f1 l1⟩
      refine ⟨fun z => absurd z (nI_ge (by omega) (by omega)), fun _ => ⟨fun z => ?_, fun z => ?_⟩⟩
      · refine tail _ ?_
        unfold chd
        rw [if_neg (fun w => absurd z (nI_ge w.1 (by omega)))]
      · have c2 : 2 * a + 2 < n := Nat.lt_of_not_le (fun w => z (nI_le w (by omega)))
        rw [n1, nI_clamp (show 2 * a + 1 + 1 < 2 ^ 31 by omega), nI_clamp (show 2 * a + 1 < 2 ^ 31 by omega), l1 (2 * a + 1 + 1) (by omega), l1 (2 * a + 1) (by omega)]
        refine ⟨vp_in_nI (by omega) (by omega), vp_in_nI (by omega) (by omega), c_isBehind (by omega) hg1 T1 (hl _ (by omega)) (hl _ (by omega)) h2 ⟨fun w => tail _ ?_, fun w => tail _ ?_⟩⟩
        · unfold chd
          rw [if_neg (fun u => by rw [u.2] at w; exact absurd w (by decide))]
        · unfold chd
          rw [if_pos ⟨c2, by
            cases u : bhd sc (L (2 * a + 2)) (L (2 * a + 1)) with
            | true => rfl
            | false => exact absurd (by rw [show 2 * a + 1 + 1 = 2 * a + 2 from rfl, u]; rfl) w⟩]
    · rw [if_neg c0] at hk
      exact ⟨fun _ => hk V1 f1 l1, fun z => absurd (nI_le (by omega) (by omega)) z⟩
theorem c_sink {m n a : Nat} {L : Nat → Nat} {K : VH → Prop} (h0 : 1 < d) (hg : PG (vL V) g) (hT : Tb V g np st sc) (hm : m ≤ vN V g 20) (hn : n ≤ m) (h2 : np ≤ 20000) (ha : a < n) (l1 : LF V g m L) (hl : ∀ j, j < m → L j < np) (hk : ∀ V2, Fc V V2 (ltS g) → LF V2 g m (snk (bhd sc) n n a L) → K V2) : vMV E d M_X9_sink [sl g 19, wi (nI a), wi (nI n)] V K :=
  w_X9_sink_0 hg (c_sink_go (V := V) h0 hg hT hm hn h2 n a 0 V L (Nat.zero_add n) ha Fc.refl l1 hl hk)
theorem nI_m1 {a : Nat} : nI a + (-1) = nI a - 1 := (Int32.sub_eq_add_neg _ _).symm
theorem c_sort {m : Nat} {L : Nat → Nat} {K : VH → Prop} (h0 : 2 < d) (hg : PG (vL V) g) (hT : Tb V g np st sc) (hm : m ≤ vN V g 20) (h2 : np ≤ 20000) (e3 : vI V g 19 3 = nI m) (l0 : LF V g m L) (hl : ∀ j, j < m → L j < np) (hi : Inj m L)
    (hk : ∀ V2 L2, Fc V V2 (ltS g) → LF V2 g m L2 → Pmt m L L2 → Inj m L2 → (∀ a b, a < b → b < m → bhd sc (L2 b) (L2 a) = true) → K V2) : vMV E d M_X9_sortByPair [sl g 19] V K := by
  have m2 : vN V g 20 ≤ 20000 := by have := hT.2.1; have := hT.2.2.1; omega
  have hb := bhd_to sc
  have lt_of : ∀ {M : Nat → Nat}, Pmt m L M → ∀ j, j < m → M j < np := fun p j hj => by
    obtain ⟨b, hb, e⟩ := p.2 j hj
    rw [← e]; exact hl b hb
  have tb : ∀ {V1}, Fc V V1 (ltS g) → Tb V1 g np st sc := fun f1 => hT.fc f1 (fun i => ⟨fun z => by have := z.2; omega, fun z => by have := z.2; omega⟩)
  have p3 : ∀ {V1}, Fc V V1 (ltS g) → vI V1 g 19 3 = nI m := fun f1 => by rw [f1.i (fun z => by have := z.2; omega)]; exact e3
  have two : ∀ (k : Nat) (V1 : VH) (L1 : Nat → Nat), k ≤ m → Fc V V1 (ltS g) → LF V1 g m L1 → Pmt m L L1 → Inj m L1 → Hsr (bhd sc) L1 k m → vwp E d M_X9_sortByPair 35 [some (sl g 19), some (wi (nI k - 1)), none] [] V1 (zv K) := by
    intro k
    induction k with
    | zero =>
      intro V1 L1 hkm f1 l1 p1 i1 s1
      exact w_X9_sortByPair_35 (by rw [f1.l]; exact hg) (by omega) ⟨fun _ => hk V1 L1 f1 l1 p1 i1 (fun a b hab hbm => s1.2 a b hab (Nat.zero_le b) hbm), fun z => absurd (by decide) z⟩
    | succ k ih =>
      intro V1 L1 hkm f1 l1 p1 i1 s1
      have hg1 : PG (vL V1) g := by rw [f1.l]; exact hg
      have ek : nI (k + 1) - 1 = nI k := by rw [show (1 : Int32) = nI 1 from rfl, nI_sub (by omega)]; rfl
      rw [ek]
      by_cases c : k = 0
      · subst c
        exact w_X9_sortByPair_35 hg1 (by omega) ⟨fun _ => hk V1 L1 f1 l1 p1 i1 (fun a b hab hbm => s1.2 a b hab (by omega) hbm), fun z => absurd (by decide) z⟩
      · have n1 : vN V1 = vN V := f1.n
        refine w_X9_sortByPair_35 hg1 (by omega) ⟨fun z => absurd z (nI_ge (b := k) (a := 0) (by omega) (by omega)), fun _ => ?_⟩
        rw [n1, nI_clamp (show k < 2 ^ 31 by omega)]
        have v0 : vp_in 0 (vN V g 20) := vp_in_nI (n := 0) (by omega) (by omega)
        have vk : vp_in (nI k) (vN V g 20) := vp_in_nI (by omega) (by omega)
        refine ⟨v0, vk, v0, fun V4 e4 => ⟨by rw [e4]; exact (by rw [← n1] at vk; exact vk), fun V6 e6 => ?_⟩⟩
        have k4 : Fc V1 V4 (ltS g) := by rw [e4]; exact Fc_wrI ⟨rfl, rfl⟩
        have k6 : Fc V4 V6 (ltS g) := by rw [e6]; exact Fc_wrI ⟨rfl, rfl⟩
        have f6 : Fc V V6 (ltS g) := f1.trans (k4.trans k6)
        have l6 : LF V6 g m (swq L1 0 k) := l1.swq (by omega) (by omega) (by omega) e4 e6
        have pp : Pmt m L (swq L1 0 k) := p1.tr (swq_pm L1 (by omega) (by omega))
        refine c_sink (m := m) (n := k) (a := 0) (by omega) (by rw [f6.l]; exact hg) (tb f6) (by rw [f6.n]; exact hm) (by omega) h2 (by omega) l6 (lt_of pp) (fun V7 f7 l7 => ?_)
        rw [nI_m1]
        obtain ⟨q1, q2, q3⟩ := snk_pm (bh := bhd sc) (n := k) (m := m) (by omega) k 0 (swq L1 0 k) (by omega)
        have q1' : Pmt m (swq L1 0 k) (snk (bhd sc) k k 0 (swq L1 0 k)) := by
          refine ⟨fun a ha => ?_, fun a ha => ?_⟩
          · by_cases w : a < k
            · obtain ⟨b, hb, e⟩ := q1.1 a w
              exact ⟨b, by omega, e⟩
            · exact ⟨a, ha, q3 a (by omega)⟩
          · by_cases w : a < k
            · obtain ⟨b, hb, e⟩ := q1.2 a w
              exact ⟨b, by omega, e⟩
            · exact ⟨a, ha, (q3 a (by omega)).symm⟩
        exact ih V7 _ (by omega) (f6.trans f7) l7 (pp.tr q1') (q2 (swq_inj (by omega) (by omega) i1)) (hsr_step hb (by omega) (by omega) i1 s1)
  have one : ∀ (r : Nat) (V1 : VH) (L1 : Nat → Nat), r ≤ m / 2 → Fc V V1 (ltS g) → LF V1 g m L1 → Pmt m L L1 → Inj m L1 → Hep (bhd sc) L1 r m → vwp E d M_X9_sortByPair 9 [some (sl g 19), some (wi (nI r - 1)), none] [] V1 (zv K) := by
    intro r
    induction r with
    | zero =>
      intro V1 L1 hr f1 l1 p1 i1 s1
      refine w_X9_sortByPair_9 (by rw [f1.l]; exact hg) (by omega) ⟨fun _ => ?_, fun z => absurd (by decide) z⟩
      rw [p3 f1]
      exact two m V1 L1 (Nat.le_refl m) f1 l1 p1 i1 ⟨s1, fun a b _ h1 h2 => by exfalso; omega⟩
    | succ r ih =>
      intro V1 L1 hr f1 l1 p1 i1 s1
      have ek : nI (r + 1) - 1 = nI r := by rw [show (1 : Int32) = nI 1 from rfl, nI_sub (by omega)]; rfl
      rw [ek]
      refine w_X9_sortByPair_9 (by rw [f1.l]; exact hg) (by omega) ⟨fun z => absurd z (nI_pos (by omega)), fun _ => ?_⟩
      rw [p3 f1, nI_m1]
      refine c_sink (m := m) (n := m) (a := r) (by omega) (by rw [f1.l]; exact hg) (tb f1) (by rw [f1.n]; exact hm) (Nat.le_refl m) h2 (by omega) l1 (lt_of p1) (fun V7 f7 l7 => ?_)
      obtain ⟨q1, q2, q3⟩ := snk_pm (bh := bhd sc) (n := m) (m := m) (Nat.le_refl m) m r L1 (by omega)
      exact ih V7 _ (by omega) (f1.trans f7) l7 (p1.tr q1) (q2 i1) (snk_hep hb m r L1 (Nat.le_refl r) (by omega) (hep_hpx s1))
  refine w_X9_sortByPair_0 hg ?_
  rw [e3, show (2 : Int32) = nI 2 from rfl, nI_div (by omega) (by decide)]
  exact one (m / 2) V L (Nat.le_refl _) Fc.refl l0 (Pmt.rfl' m L) hi (hep_out (by omega))
end
