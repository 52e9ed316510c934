/-! the reference's front -/
def prS (a f i : Nat) : Prop := a = 6 ∧ f = 0 ∧ (i = 69 ∨ i = 70)
/-- a plan whose pair is the least of those below a bound -/
def LsP (sc : Nat → Nat → Int64) (G : List Nat) (l : Option Int) (p : Nat) : Prop := p ∈ G ∧ cnd sc l p ∧ ∀ q ∈ G, cnd sc l q → (sc p 1).toInt < (sc q 1).toInt ∨ (sc p 1).toInt = (sc q 1).toInt ∧ (sc p 2).toInt ≤ (sc q 2).toInt
theorem LsP.eq {sc : Nat → Nat → Int64} {G : List Nat} {l : Option Int} {p r : Nat} (h : LsP sc G l p) (k : IsN sc G l r) : sc p 1 = sc r 1 ∧ sc p 2 = sc r 2 := by
  have a := h.2.2 r k.1 k.2.1
  rcases k.2.2 p h.1 h.2.1 with e | e
  · rw [e]; exact ⟨rfl, rfl⟩
  · have b := bhd_iff.mp e
    rw [← Int64.toInt_inj, ← Int64.toInt_inj]
    omega
section
variable {E : EE} {d : Nat} {V V' : VH} {q B : Nat} {t : Nat → Int32} {n : Nat} {R : List SR} {nt fa : Nat → Int32} {h h' : Nat} {x b : Int32} {cs : Nat → Int32}
theorem KnM.fc {S : Nat → Nat → Nat → Prop} (hm : KnM V q t n R nt fa h x cs) (hs : PrS t n R nt) (k : Fc V V' S) (c : ∀ f j, S 6 f j → f = 0 ∨ f = 1 ∨ 28 < f ∧ f ≠ 43 ∧ f ≠ 44 ∧ f ≠ 45) : KnM V' q t n R nt fa h x cs := ⟨hm.1.fc hs k (fun f j y => by have := c f j y; omega), hm.2.fc k (fun f j z y => by have := c f j y; omega)⟩
theorem gd_iff {p : Nat} : p ∈ gdR R nt fa h x ↔ p < plR R ∧ goR R nt fa h x p = true := by
  show p ∈ List.filter (goR R nt fa h x) (List.range (plR R)) ↔ _
  rw [List.mem_filter, List.mem_range]
theorem KnM.at (hm : KnM V q t n R nt fa h x cs) {p l : Nat} (hp : p < plR R) (hl : l < 3) : vJ V 6 45 (20000 * l + p) = scQ R nt fa p l := hm.tq.2 p hp l hl
theorem c_nextPair {l : Option Int} {any : Int32} {x3 : Int64} {K : Int32 → VH → Prop} (h0 : 3 < d) (hs : PrS t n R nt) (hm : KnM V q t n R nt fa h x cs) (hany : any = 0 ∧ l = none ∨ any = 1 ∧ l = some x3.toInt)
    (hk1 : ∀ V' p, Fc V V' prS → LsP (scQ R nt fa) (gdR R nt fa h x) l p → vJ V' 6 0 69 = scQ R nt fa p 1 → vJ V' 6 0 70 = scQ R nt fa p 2 → K 1 V') (hk0 : ∀ V', Fc V V' prS → (∀ p ∈ gdR R nt fa h x, ¬ cnd (scQ R nt fa) l p) → K 0 V') : vMI E d M_X12_nextPair [sl 6 0, wi (nI q), wi any, wj x3] V K := by
  have p20 := hm.p20
  have q5 := hm.q5
  have cnd_iff : ∀ p, cnd (scQ R nt fa) l p ↔ (any = 0 ∨ any ≠ 0 ∧ ¬ x3 ≤ scQ R nt fa p 2) := fun p => by
    unfold cnd
    rcases hany with ⟨a, e⟩ | ⟨a, e⟩
    · rw [e]; exact ⟨fun _ => Or.inl a, fun _ u z => absurd z (by simp)⟩
    · rw [e]
      refine ⟨fun z => Or.inr ⟨by rw [a]; decide, fun w => ?_⟩, fun z u w => ?_⟩
      · have := z _ rfl
        have := Int64.le_iff_toInt_le.mp w
        omega
      · rcases z with z | z
        · rw [a] at z; exact absurd z (by decide)
        · have := Int.not_le.mp (fun y => z.2 (Int64.le_iff_toInt_le.mpr y))
          rw [← Option.some.inj w]
          omega
  have go : ∀ (m j : Nat) (V1 : VH) (bo : Bool), j + m = plR R → Fc V V1 prS → (bo = false → ∀ r, r < j → goR R nt fa h x r = true → ¬ cnd (scQ R nt fa) l r) → (bo = true → ∃ p, p < plR R ∧ goR R nt fa h x p = true ∧ cnd (scQ R nt fa) l p ∧ vJ V1 6 0 69 = scQ R nt fa p 1 ∧ vJ V1 6 0 70 = scQ R nt fa p 2 ∧ ∀ r, r < j → goR R nt fa h x r = true → cnd (scQ R nt fa) l r → (scQ R nt fa p 1).toInt < (scQ R nt fa r 1).toInt ∨ (scQ R nt fa p 1).toInt = (scQ R nt fa r 1).toInt ∧ (scQ R nt fa p 2).toInt ≤ (scQ R nt fa r 2).toInt) → vwp E d M_X12_nextPair 6 [some (sl 6 0), some (wi (nI q)), some (wi any), some (wj x3), none, some (wi (bI bo)), some (wi (nI j)), none, none, none, none] [] V1 (zi K) := by
    intro m
    induction m with
    | zero =>
      intro j V1 bo e f1 i0 i1
      have hm1 : KnM V1 q t n R nt fa h x cs := hm.fc hs f1 (fun f j y => Or.inl y.2.1)
      have : j = plR R := by omega
      subst this
      refine w_X12_nextPair_6 (by omega) ?_
      rw [nI_clamp (show q < 2 ^ 31 by omega), hm1.pl]
      refine ⟨vp_in_nI q5 (by decide), fun _ => ?_, fun z => absurd (nI_le (Nat.le_refl _) (by omega)) z⟩
      cases bo with
      | false => exact ⟨Or.inl rfl, hk0 V1 f1 (fun p hp => i0 rfl p (gd_lt hp) (gd_iff.mp hp).2)⟩
      | true =>
        obtain ⟨p, hp, gp, cp, e1, e2, mn⟩ := i1 rfl
        exact ⟨Or.inr rfl, hk1 V1 p f1 ⟨gd_iff.mpr ⟨hp, gp⟩, cp, fun r hr cr => mn r (gd_lt hr) (gd_iff.mp hr).2 cr⟩ e1 e2⟩
    | succ m ih =>
      intro j V1 bo e f1 i0 i1
      have hm1 : KnM V1 q t n R nt fa h x cs := hm.fc hs f1 (fun f j y => Or.inl y.2.1)
      have hj : j < plR R := by omega
      refine w_X12_nextPair_6 (by omega) ?_
      have ea : (20000 : Int32) + nI j = nI (20000 + j) := by rw [show (20000 : Int32) = nI 20000 from rfl, nI_add]
      have eb : (40000 : Int32) + nI j = nI (40000 + j) := by rw [show (40000 : Int32) = nI 40000 from rfl, nI_add]
      rw [nI_clamp (show q < 2 ^ 31 by omega), hm1.pl, ea, eb, nI_clamp (show 20000 + j < 2 ^ 31 by omega), nI_clamp (show 40000 + j < 2 ^ 31 by omega), show 20000 + j = 20000 * 1 + j by omega, show 40000 + j = 20000 * 2 + j by omega, hm1.at (l := 1) hj (by decide), hm1.at (l := 2) hj (by decide)]
      -- this plan is not the next
      have no : ∀ V2, Fc V V2 prS → (bo = true → vJ V2 6 0 69 = vJ V1 6 0 69 ∧ vJ V2 6 0 70 = vJ V1 6 0 70) → (goR R nt fa h x j = true → cnd (scQ R nt fa) l j → bo = true ∧ ¬ (scQ R nt fa j 1 < vJ V1 6 0 69) ∧ (scQ R nt fa j 1 = vJ V1 6 0 69 → vJ V1 6 0 70 ≤ scQ R nt fa j 2)) → vwp E d M_X12_nextPair 113 [some (sl 6 0), some (wi (nI q)), some (wi any), some (wj x3), none, some (wi (bI bo)), some (wi (nI j)), some (wj (scQ R nt fa j 1)), none, some (wj (scQ R nt fa j 2)), none] [] V2 (zi K) := fun V2 f2 e2 c2 => by
        refine w_X12_nextPair_113 ?_
        rw [nI_1]
        refine ih (j + 1) V2 bo (by omega) f2 (fun z r hr gr cr => ?_) (fun z => ?_)
        · by_cases rj : r = j
          · rw [rj] at gr cr
            rw [(c2 gr cr).1] at z; exact Bool.noConfusion z
          · exact i0 z r (by omega) gr cr
        · obtain ⟨p, hp, gp, cp, e3, e4, mn⟩ := i1 z
          refine ⟨p, hp, gp, cp, (e2 z).1.trans e3, (e2 z).2.trans e4, fun r hr gr cr => ?_⟩
          by_cases rj : r = j
          · subst rj
            obtain ⟨_, c3, c4⟩ := c2 gr cr
            rw [e3] at c3 c4
            rw [e4] at c4
            rw [Int64.lt_iff_toInt_lt] at c3
            by_cases eq : scQ R nt fa r 1 = scQ R nt fa p 1
            · have := Int64.le_iff_toInt_le.mp (c4 eq)
              rw [eq]; omega
            · have : (scQ R nt fa r 1).toInt ≠ (scQ R nt fa p 1).toInt := fun w => eq (Int64.toInt_inj.mp w)
              omega
          · exact mn r (by omega) gr cr
      have yes : goR R nt fa h x j = true → cnd (scQ R nt fa) l j → (bo = true → scQ R nt fa j 1 < vJ V1 6 0 69 ∨ scQ R nt fa j 1 = vJ V1 6 0 69 ∧ ¬ vJ V1 6 0 70 ≤ scQ R nt fa j 2) → vwp E d M_X12_nextPair 98 [some (sl 6 0), some (wi (nI q)), some (wi any), some (wj x3), none, some (wi (bI bo)), some (wi (nI j)), some (wj (scQ R nt fa j 1)), none, some (wj (scQ R nt fa j 2)), none] [] V1 (zi K) := fun gj cj lt => by
        refine w_X12_nextPair_98 (fun V2 e2 V3 e3 => w_X12_nextPair_113 ?_)
        rw [nI_1]
        have k2 : Fc V1 V2 prS := by rw [e2]; exact Fc_wrJ ⟨rfl, rfl, Or.inl rfl⟩
        have k3 : Fc V2 V3 prS := by rw [e3]; exact Fc_wrJ ⟨rfl, rfl, Or.inr rfl⟩
        refine ih (j + 1) V3 true (by omega) (f1.trans (k2.trans k3)) (fun z => Bool.noConfusion z) (fun _ => ⟨j, hj, gj, cj, by rw [e3, wrJ_ne (fun z => by omega), e2, wrJ_at], by rw [e3, wrJ_at], fun r hr gr cr => ?_⟩)
        by_cases rj : r = j
        · rw [rj]; omega
        · cases hb : bo with
          | false => exact absurd cr (i0 hb r (by omega) gr)
          | true =>
            obtain ⟨p, hp, gp, cp, e4, e5, mn⟩ := i1 hb
            have a := mn r (by omega) gr cr
            have b := lt hb
            rw [e4, e5, Int64.lt_iff_toInt_lt, Int64.le_iff_toInt_le, ← Int64.toInt_inj] at b
            omega
      refine ⟨vp_in_nI q5 (by decide), fun z => absurd z (nI_ge hj (by omega)), fun _ => ⟨vp_in_nI (by omega) (by decide), vp_in_nI (by omega) (by decide), c_isGood (by omega) hm1.sq hm1.hq hm1.pq hm1.tq hj ⟨fun z => ?_, fun z => ?_⟩⟩⟩
      · rw [bI_0] at z
        have z : goR R nt fa h x j = false := z
        exact no V1 f1 (fun _ => ⟨rfl, rfl⟩) (fun w => by rw [z] at w; exact Bool.noConfusion w)
      · rw [bI_1] at z
        have z : goR R nt fa h x j = true := z
        have mid : cnd (scQ R nt fa) l j → vwp E d M_X12_nextPair 63 [some (sl 6 0), some (wi (nI q)), some (wi any), some (wj x3), none, some (wi (bI bo)), some (wi (nI j)), some (wj (scQ R nt fa j 1)), none, some (wj (scQ R nt fa j 2)), none] [] V1 (zi K) := fun cj => by
          refine w_X12_nextPair_63 ⟨fun w => ?_, fun w => ⟨fun u => yes z cj (fun _ => Or.inl u), fun u => ⟨fun v => no V1 f1 (fun _ => ⟨rfl, rfl⟩) (fun _ _ => ⟨bI_1.mp w, u, fun y => absurd y v⟩), fun v => ⟨fun y => no V1 f1 (fun _ => ⟨rfl, rfl⟩) (fun _ _ => ⟨bI_1.mp w, u, fun _ => y⟩), fun y => yes z cj (fun _ => Or.inr ⟨v, y⟩)⟩⟩⟩⟩
          exact yes z cj (fun y => by rw [bI_0.mp w] at y; exact Bool.noConfusion y)
        refine ⟨fun w => mid ((cnd_iff j).mpr (Or.inl w)), fun w => ⟨fun u => ?_, fun u => mid ((cnd_iff j).mpr (Or.inr ⟨w, u⟩))⟩⟩
        exact no V1 f1 (fun _ => ⟨rfl, rfl⟩) (fun _ cj => by
          rcases (cnd_iff j).mp cj with y | y
          · exact absurd y w
          · exact absurd u y.2)
  exact w_X12_nextPair_0 (go (plR R) 0 V false (Nat.zero_add _) Fc.refl (fun _ r hr => absurd hr (Nat.not_lt_zero r)) (fun z => Bool.noConfusion z))
/-- the next pair of a front that is known -/
theorem c_nxP {m : Nat} {F : Nat → Nat} {a : Nat} {any : Int32} {x3 : Int64} {K : Int32 → VH → Prop} (h0 : 3 < d) (hs : PrS t n R nt) (hm : KnM V q t n R nt fa h x cs) (fr : FrC (scQ R nt fa) (gdR R nt fa h x) m F) (ha : a ≤ m) (hany : any = 0 ∧ a = 0 ∨ any = 1 ∧ 0 < a ∧ x3 = scQ R nt fa (F (a - 1)) 2)
    (hk1 : a < m → ∀ V', Fc V V' prS → vJ V' 6 0 69 = scQ R nt fa (F a) 1 → vJ V' 6 0 70 = scQ R nt fa (F a) 2 → K 1 V') (hk0 : a = m → ∀ V', Fc V V' prS → K 0 V') : vMI E d M_X12_nextPair [sl 6 0, wi (nI q), wi any, wj x3] V K := by
  refine c_nextPair (l := lmF (scQ R nt fa) F a) h0 hs hm ?_ (fun V' p f l e1 e2 => ?_) (fun V' f l => ?_)
  · unfold lmF
    rcases hany with ⟨y, z⟩ | ⟨y, z, w⟩
    · exact Or.inl ⟨y, by rw [if_pos z]⟩
    · exact Or.inr ⟨y, by rw [if_neg (by omega), w]⟩
  · by_cases c : a < m
    · obtain ⟨u, v⟩ := l.eq (fr.1 a c)
      exact hk1 c V' f (e1.trans u) (e2.trans v)
    · have : a = m := by omega
      rw [this] at l
      exact absurd l.2.1 (fr.2 p l.1)
  · by_cases c : a < m
    · have := fr.1 a c
      exact absurd this.2.1 (l _ this.1)
    · exact hk0 (by omega) V' f
theorem front_go {m : Nat} {F : Nat → Nat} {K : Int32 → VH → Prop} (h0 : 4 < d) (hs : PrS t n R nt) (hm : KnM V q t n R nt fa h x cs) (fr : FrC (scQ R nt fa) (gdR R nt fa h x) m F) (hk : ∀ V', Fc V V' prS → K (nI m) V') : ∀ (r a : Nat) (V1 : VH), a + r = m → 0 < r → Fc V V1 prS → vJ V1 6 0 70 = scQ R nt fa (F a) 2 → vwp E d M_X12_front 25 [some (sl 6 0), some (wi (nI q)), some (wi (nI a)), some (wi 1)] [] V1 (zi K) := by
  intro r
  induction r with
  | zero => intro a V1 _ z; exact absurd z (Nat.lt_irrefl 0)
  | succ r ih =>
    intro a V1 e _ f1 e1
    refine w_X12_front_25 (by omega) ⟨fun z => absurd z (by decide), fun _ => ?_⟩
    rw [e1, nI_1]
    refine c_nxP (a := a + 1) (by omega) hs (hm.fc hs f1 (fun f j y => Or.inl y.2.1)) fr (by omega) (Or.inr ⟨rfl, by omega, rfl⟩) (fun am V2 f2 e3 e4 => ih (a + 1) V2 (by omega) (by omega) (f1.trans f2) e4) (fun am V2 f2 => ?_)
    rw [am]
    exact w_X12_front_25 (by omega) ⟨fun _ => hk V2 (f1.trans f2), fun z => absurd rfl z⟩
theorem c_findPair {m k : Nat} {F : Nat → Nat} {K : Int32 → VH → Prop} (h0 : 4 < d) (hk32 : k < 2 ^ 31) (hs : PrS t n R nt) (hm : KnM V q t n R nt fa h x cs) (fr : FrC (scQ R nt fa) (gdR R nt fa h x) m F)
    (hk1 : k < m → ∀ V', Fc V V' prS → vJ V' 6 0 69 = scQ R nt fa (F k) 1 → vJ V' 6 0 70 = scQ R nt fa (F k) 2 → K 1 V') (hk0 : m ≤ k → ∀ V', Fc V V' prS → K 0 V') : vMI E d M_X12_findPair [sl 6 0, wi (nI q), wi (nI k)] V K := by
  have kn : ∀ {V1}, Fc V V1 prS → KnM V1 q t n R nt fa h x cs := fun f => hm.fc hs f (fun f j y => Or.inl y.2.1)
  have nil : ∀ (V1 : VH) (i : Int32), Fc V V1 prS → m ≤ k → vwp E d M_X12_findPair 23 [some (sl 6 0), some (wi (nI q)), some (wi (nI k)), some (wi 0), some (wi i)] [] V1 (zi K) := fun V1 i f1 hmk => w_X12_findPair_23 (by omega) ⟨fun _ => ⟨Or.inl rfl, hk0 hmk V1 f1⟩, fun z => absurd rfl z⟩
  have go : ∀ (r a : Nat) (V1 : VH), a + r = k → a < m → Fc V V1 prS → vJ V1 6 0 69 = scQ R nt fa (F a) 1 → vJ V1 6 0 70 = scQ R nt fa (F a) 2 → vwp E d M_X12_findPair 23 [some (sl 6 0), some (wi (nI q)), some (wi (nI k)), some (wi 1), some (wi (nI a))] [] V1 (zi K) := by
    intro r
    induction r with
    | zero =>
      intro a V1 e am f1 e1 e2
      have : a = k := by omega
      subst this
      exact w_X12_findPair_23 (by omega) ⟨fun z => absurd z (by decide), fun _ => ⟨fun _ => ⟨Or.inr rfl, hk1 am V1 f1 e1 e2⟩, fun z => absurd (nI_le (Nat.le_refl _) hk32) z⟩⟩
    | succ r ih =>
      intro a V1 e am f1 e1 e2
      refine w_X12_findPair_23 (by omega) ⟨fun z => absurd z (by decide), fun _ => ⟨fun z => absurd z (nI_ge (by omega) hk32), fun _ => ?_⟩⟩
      rw [e2, nI_1]
      refine c_nxP (a := a + 1) (by omega) hs (kn f1) fr (by omega) (Or.inr ⟨rfl, by omega, rfl⟩) (fun am V2 f2 e3 e4 => ?_) (fun am V2 f2 => ?_)
      · exact ih (a + 1) V2 (by omega) am (f1.trans f2) e3 e4
      · exact nil V2 _ (f1.trans f2) (by omega)
  refine w_X12_findPair_0 (by omega) ⟨fun z => absurd z (nI_pos hk32), fun _ => c_nxP (a := 0) (by omega) hs hm fr (Nat.zero_le m) (Or.inl ⟨rfl, rfl⟩) (fun am V1 f1 e1 e2 => ⟨fun z => absurd z (by decide), fun _ => w_X12_findPair_19 (go k 0 V1 (Nat.zero_add k) am f1 e1 e2)⟩) (fun am V1 f1 => ⟨fun _ => w_X12_findPair_18 (w_X12_findPair_19 (nil V1 0 f1 (by omega))), fun z => absurd rfl z⟩)⟩
theorem c_isPair {p r : Nat} {K : Int32 → VH → Prop} (h0 : 2 < d) (hm : KnM V q t n R nt fa h x cs) (e1 : vJ V 6 0 69 = scQ R nt fa p 1) (e2 : vJ V 6 0 70 = scQ R nt fa p 2) (hr : r < plR R) (hk : K (bI (goR R nt fa h x r && smp (scQ R nt fa) p r)) V) : vMI E d M_X12_isPair [sl 6 0, wi (nI q), wi (nI r)] V K := by
  have p20 := hm.p20
  refine w_X12_isPair_0 (by omega) (c_isGood (by omega) hm.sq hm.hq hm.pq hm.tq hr ⟨fun z => ?_, fun z => ?_⟩)
  · rw [show goR R nt fa h x r = false from bI_0.mp z, Bool.false_and] at hk
    exact hk
  · have ea : (20000 : Int32) + nI r = nI (20000 + r) := by rw [show (20000 : Int32) = nI 20000 from rfl, nI_add]
    have eb : (40000 : Int32) + nI r = nI (40000 + r) := by rw [show (40000 : Int32) = nI 40000 from rfl, nI_add]
    rw [show goR R nt fa h x r = true from bI_1.mp z, Bool.true_and] at hk
    rw [ea, eb, nI_clamp (show 20000 + r < 2 ^ 31 by omega), nI_clamp (show 40000 + r < 2 ^ 31 by omega), show 20000 + r = 20000 * 1 + r by omega, show 40000 + r = 20000 * 2 + r by omega, hm.at (l := 1) hr (by decide), hm.at (l := 2) hr (by decide), e1, e2]
    refine ⟨vp_in_nI (by omega) (by decide), fun w => ?_, fun w => ⟨vp_in_nI (by omega) (by decide), fun u => ?_, fun u => ?_⟩⟩
    · rw [show smp (scQ R nt fa) p r = false from decide_eq_false (fun y => w y.1)] at hk; exact hk
    · rw [show smp (scQ R nt fa) p r = false from decide_eq_false (fun y => u y.2)] at hk; exact hk
    · rw [show smp (scQ R nt fa) p r = true from decide_eq_true ⟨w, u⟩] at hk; exact hk
end
