/-! relax -/
/-- the weight of a set of hard rules -/
def wsu (w : Nat → Nat) (y : Int32) : Nat → Nat
  | 0 => 0
  | h + 1 => wsu w y h + (if tst y h = true then w h else 0)
theorem wsu_s {w : Nat → Nat} {y : Int32} {h : Nat} : wsu w y (h + 1) = wsu w y h + (if tst y h = true then w h else 0) := by rw [wsu]
theorem wsu_le {w : Nat → Nat} {y : Int32} (hw : ∀ h, w h ≤ 1000) : ∀ h, wsu w y h ≤ 1000 * h := by
  intro h
  induction h with
  | zero => rw [wsu]; exact Nat.le_refl _
  | succ h ih =>
    rw [wsu_s]
    have := hw h
    by_cases c : tst y h = true
    · rw [if_pos c]; omega
    · rw [if_neg c]; omega
/-- a lesser set weighs less -/
theorem wsu_sub {w : Nat → Nat} {y z : Int32} (hw : ∀ h, 1 ≤ w h) : ∀ H, (∀ v, v < H → tst y v = true → tst z v = true) → wsu w y H ≤ wsu w z H ∧ ((∃ v, v < H ∧ tst z v = true ∧ tst y v = false) → wsu w y H < wsu w z H) := by
  intro H
  induction H with
  | zero => intro _; rw [wsu, wsu]; exact ⟨Nat.le_refl _, fun ⟨v, hv, _⟩ => absurd hv (Nat.not_lt_zero v)⟩
  | succ H ih =>
    intro hs
    obtain ⟨i1, i2⟩ := ih (fun v hv => hs v (by omega))
    rw [wsu_s, wsu_s]
    have w1 := hw H
    by_cases c : tst y H = true
    · have cz := hs H (Nat.lt_succ_self H) c
      rw [if_pos c, if_pos cz]
      refine ⟨by omega, fun ⟨v, hv, h1, h2⟩ => ?_⟩
      by_cases e : v = H
      · rw [e, c] at h2; exact Bool.noConfusion h2
      · have := i2 ⟨v, by omega, h1, h2⟩; omega
    · rw [if_neg c]
      by_cases cz : tst z H = true
      · rw [if_pos cz]; exact ⟨by omega, fun _ => by omega⟩
      · rw [if_neg cz]
        refine ⟨by omega, fun ⟨v, hv, h1, h2⟩ => ?_⟩
        by_cases e : v = H
        · rw [e] at h1; exact absurd h1 cz
        · have := i2 ⟨v, by omega, h1, h2⟩; omega
section
variable {E : EE} {d : Nat} {V V' V1 V2 W : VH} {q B : Nat} {t : Nat → Int32} {n : Nat} {R : List SR} {nt fa : Nat → Int32} {h h' : Nat} {x b : Int32} {cs : Nat → Int32}
/-- the weight of hard rule h; 1 for what is none -/
def wnH (R : List SR) (h : Nat) : Nat := if h < (HL R).length then (wtR R ((HL R).getD h 0)).toNatClampNeg else 1
theorem wnH_is (hs : PrS t n R nt) {k : Nat} (hk : k < (HL R).length) : wtR R ((HL R).getD k 0) = nI (wnH R k) ∧ 1 ≤ wnH R k ∧ wnH R k ≤ 1000 := by
  obtain ⟨a, _, _⟩ := HL_mem hk
  obtain ⟨_, _, ⟨w, ew, w1, w2⟩, _⟩ := hs.rule a
  have : wnH R k = w := by unfold wnH; rw [if_pos hk, ew, nI_clamp (by omega)]
  rw [this]; exact ⟨ew, w1, w2⟩
theorem wnH_1 (hs : PrS t n R nt) (k : Nat) : 1 ≤ wnH R k ∧ wnH R k ≤ 1000 := by
  by_cases c : k < (HL R).length
  · exact (wnH_is hs c).2
  · unfold wnH; rw [if_neg c]; exact ⟨Nat.le_refl _, by decide⟩
abbrev rxW (R : List SR) (m : Nat) : Nat := wsu (wnH R) (nI m) (HL R).length
theorem rxW_le (hs : PrS t n R nt) (h12 : (HL R).length ≤ 12) (m : Nat) : rxW R m ≤ 12000 := by
  have := wsu_le (y := nI m) (fun h => (wnH_1 hs h).2) (HL R).length
  show wsu (wnH R) (nI m) (HL R).length ≤ 12000
  omega
abbrev rxP (R : List SR) (nt fa : Nat → Int32) (L : List Nat) (m : Nat) : Bool := suB R nt fa L (nI m)
/-- the least set that suffices is the least that some plan breaks -/
theorem relax_eq (hs : PrS t n R nt) (h12 : (HL R).length ≤ 12) {L : List Nat} : gfS (rxP R nt fa L) (rxW R) (2 ^ (HL R).length) = gfS (exB R nt fa L) (rxW R) (2 ^ (HL R).length) := by
  obtain ⟨a1, a2⟩ := gfS_is (P := rxP R nt fa L) (w := rxW R) (2 ^ (HL R).length)
  obtain ⟨b1, b2⟩ := gfS_is (P := exB R nt fa L) (w := rxW R) (2 ^ (HL R).length)
  have exs : ∀ j, j < 2 ^ (HL R).length → exB R nt fa L j = true → rxP R nt fa L j = true := fun j hj e => (suB_step h12 hj).mpr (Or.inl e)
  cases o : gfS (rxP R nt fa L) (rxW R) (2 ^ (HL R).length) with
  | none =>
    cases o2 : gfS (exB R nt fa L) (rxW R) (2 ^ (HL R).length) with
    | none => rfl
    | some c =>
      obtain ⟨c1, c2, _⟩ := b2 c o2
      have := a1 o c c1
      rw [exs c c1 c2] at this; exact Bool.noConfusion this
  | some c =>
    obtain ⟨c1, c2, c3⟩ := a2 c o
    have c2x : exB R nt fa L c = true := by
      obtain ⟨p, hp, hv⟩ := suB_iff.mp c2
      obtain ⟨m, hm, e⟩ := mkQ_nI (nt := nt) (fa := fa) h12 p
      have em : exB R nt fa L m = true := exB_iff.mpr ⟨p, hp, e⟩
      have tm : ∀ v, v < (HL R).length → tst (nI m) v = mkb R nt fa p v := fun v hv => by rw [← e, mkI_t (by omega) _ (by omega), decide_eq_true hv, Bool.true_and]
      obtain ⟨s1, s2⟩ := wsu_sub (w := wnH R) (y := nI m) (z := nI c) (fun h => (wnH_1 hs h).1) (HL R).length (fun v hv' ht => hv v hv' (by rw [← tm v hv']; exact ht))
      have w := c3 m hm (exs m hm em)
      have s1 : rxW R m ≤ rxW R c := s1
      by_cases z : ∃ v, v < (HL R).length ∧ tst (nI c) v = true ∧ tst (nI m) v = false
      · have s2 : rxW R m < rxW R c := s2 z
        omega
      · have : nI m = nI c := tst_ext (fun v h32 => by
          by_cases y : v < (HL R).length
          · cases u : tst (nI c) v with
            | true =>
              cases u2 : tst (nI m) v with
              | true => rfl
              | false => exact absurd ⟨v, y, u, u2⟩ z
            | false =>
              cases u2 : tst (nI m) v with
              | false => rfl
              | true => rw [hv v y (by rw [← tm v y]; exact u2)] at u; exact Bool.noConfusion u
          · rw [nI_out hm (by omega) h32, nI_out c1 (by omega) h32])
        exact exB_iff.mpr ⟨p, hp, by rw [e, this]⟩
    cases o2 : gfS (exB R nt fa L) (rxW R) (2 ^ (HL R).length) with
    | none => have := b1 o2 c c1; rw [c2x] at this; exact Bool.noConfusion this
    | some c' =>
      obtain ⟨d1, d2, d3⟩ := b2 c' o2
      have u := d3 c c1 c2x
      have v := c3 c' d1 (exs c' d1 d2)
      rw [show c = c' by omega]
theorem c_weightOf {m : Nat} {K : Int32 → VH → Prop} (hI : PbI V q t n R nt fa h x cs) (h12 : (HL R).length ≤ 12) (hl : LsH V R) (hk : K (nI (rxW R m)) V) : vMI E d M_X1_weightOf [sl 0 10, sl (q + 1) 0, wi (nI m)] V K := by
  have go : ∀ s k, k + s = (HL R).length → vwp E d M_X1_weightOf 5 [some (sl 0 10), some (sl (q + 1) 0), some (wi (nI m)), some (wi (nI (wsu (wnH R) (nI m) k))), some (wi (nI k))] [] V (zi K) := by
    intro s
    induction s with
    | zero =>
      intro k e
      have : k = (HL R).length := by omega
      subst this
      exact w_X1_weightOf_5 hI.2.1.1 ⟨fun _ => hk, fun z => absurd (by rw [hl.1]; exact nI_le (Nat.le_refl _) (by omega)) z⟩
    | succ s ih =>
      intro k e
      have hk' : k < (HL R).length := by omega
      obtain ⟨a1, a2, _⟩ := HL_mem hk'
      obtain ⟨w0, w1, w2⟩ := wnH_is hI.1 hk'
      have e11 : vI V (q + 1) 11 ((HL R).getD k 0) = nI (wnH R k) := by
        rw [← w0]
        exact (hI.2.1.2.2.2.2.2.1.1 _ a1).2.1
      have i := ih (k + 1) (by omega)
      rw [wsu_s] at i
      refine w_X1_weightOf_5 hI.2.1.1 ⟨fun z => absurd z (by rw [hl.1]; exact nI_ge hk' (by omega)), fun _ => ?_⟩
      rw [nI_clamp (show k < 2 ^ 31 by omega), hl.2 k hk', nI_clamp (show (HL R).getD k 0 < 2 ^ 31 by omega), e11, bit_is _ (by omega), nI_1]
      refine ⟨vp_in_nI (by omega) (by decide), vp_in_nI a2 (by decide), ?_⟩
      by_cases c : tst (nI m) k = true
      · rw [if_pos c] at i ⊢
        rw [show (1 : Int32) = nI 1 from rfl, nI_mul, nI_add, Nat.one_mul]; exact i
      · rw [if_neg c] at i ⊢
        rw [show (0 : Int32) = nI 0 from rfl, nI_mul, nI_add, Nat.zero_mul]; exact i
  exact w_X1_weightOf_0 hI.2.1.1 (go (HL R).length 0 (Nat.zero_add _))
theorem c_cheapest {K : Int32 → VH → Prop} (h0 : 5 < d) (hW : WF V) (hJ : JS B V) (hI : PbI V q t n R nt fa h x cs) (s : Scd V q R nt fa) (hk : ∀ W V', JS B W → PbI W q t n R nt fa h x cs → Fc W V' seR → K (bnI (HL R) (ofI (gfS (rxP R nt fa (apL R h x)) (rxW R) (2 ^ (HL R).length))) (HL R).length) V') : vMI E d M_X1_cheapest [sl 0 10, sl (q + 1) 0] V K := by
  have hs := hI.1
  have h12 := HL_12 hI.1 hI.2.1.2.2.2.2.1.1
  have p2 := two12 h12
  have p0 : 0 < 2 ^ (HL R).length := Nat.two_pow_pos _
  refine w_X1_cheapest_0 hI.2.1.1 (by omega) (c_lookAtSets (by omega) hW hJ hI s (fun W V1 hJW hIW f1 sf => ?_))
  have hk := hk W V1 hJW hIW f1
  have hI1 : PbI V1 q t n R nt fa h x cs := hIW.lr f1 (fun a f j y => ⟨y.1, by have := y.2; omega⟩)
  have hg1 : PG (vL V1) (q + 1) := hI1.2.1.1
  have go : ∀ r k (x4 : Int32), k + r = 2 ^ (HL R).length → (gfS (rxP R nt fa (apL R h x)) (rxW R) k = none → x4 = 2147483647) → (∀ c, gfS (rxP R nt fa (apL R h x)) (rxW R) k = some c → x4 = nI (rxW R c)) → vwp E d M_X1_cheapest 15 [some (sl 0 10), some (sl (q + 1) 0), some (wi (nI (2 ^ (HL R).length - 1))), some (wi (ofI (gfS (rxP R nt fa (apL R h x)) (rxW R) k))), some (wi x4), some (wi (nI k)), none] [] V1 (zi K) := by
    intro r
    induction r with
    | zero =>
      intro k x4 e _ _
      have ek : k = 2 ^ (HL R).length := by omega
      refine w_X1_cheapest_15 hg1 (by omega) ⟨fun _ => c_byNumber h12 sf.1 (by rw [ek]; exact hk), fun z => absurd ?_ z⟩
      exact Int32.not_le.mp (nI_ge (by omega) (by omega))
    | succ r ih =>
      intro k x4 e c0 c1
      have hk2 : k < 2 ^ (HL R).length := by omega
      have b12 := rxW_le hs h12 k
      have iN := fun y1 y2 => ih (k + 1) x4 (by omega) y1 y2
      have iY := fun y1 y2 => ih (k + 1) (nI (rxW R k)) (by omega) y1 y2
      rw [gfS_s] at iN iY
      have no : gfT (rxP R nt fa (apL R h x)) (rxW R) (gfS (rxP R nt fa (apL R h x)) (rxW R) k) k = gfS (rxP R nt fa (apL R h x)) (rxW R) k → ∀ x6 : Int32, vwp E d M_X1_cheapest 61 [some (sl 0 10), some (sl (q + 1) 0), some (wi (nI (2 ^ (HL R).length - 1))), some (wi (ofI (gfS (rxP R nt fa (apL R h x)) (rxW R) k))), some (wi x4), some (wi (nI k)), some (wi x6)] [] V1 (zi K) := fun eq x6 => by
        refine w_X1_cheapest_61 hg1 ?_
        rw [nI_1]
        rw [eq] at iN
        exact iN c0 c1
      have yes : gfT (rxP R nt fa (apL R h x)) (rxW R) (gfS (rxP R nt fa (apL R h x)) (rxW R) k) k = some k → vwp E d M_X1_cheapest 61 [some (sl 0 10), some (sl (q + 1) 0), some (wi (nI (2 ^ (HL R).length - 1))), some (wi (nI k)), some (wi (nI (rxW R k))), some (wi (nI k)), some (wi (nI (rxW R k)))] [] V1 (zi K) := fun eq => by
        refine w_X1_cheapest_61 hg1 ?_
        rw [nI_1]
        rw [eq] at iY
        exact iY (fun z => absurd z (by simp)) (fun c z => by rw [← Option.some.inj z])
      have key : clB R nt fa (apL R h x) (nI (2 ^ (HL R).length - 1) &&& (nI k ^^^ (-1))) = !rxP R nt fa (apL R h x) k := cl_neg (fun v hv => by
        rw [tst_and, tst_nI (m := 2 ^ (HL R).length - 1) (by omega), Nat.testBit_two_pow_sub_one, decide_eq_true hv, Bool.true_and, tst_xor, tst_n1 (by omega), Bool.xor_true, Bool.not_not])
      refine w_X1_cheapest_15 hg1 (by omega) ⟨fun z => absurd z (Int32.not_lt.mpr (nI_le (by omega) (by omega))), fun _ => c_weightOf hI1 h12 sf.1 ⟨fun z => ?_, fun z => c_isClash h12 sf ⟨fun y => ?_, fun y => ?_⟩⟩⟩
      · cases o : gfS (rxP R nt fa (apL R h x)) (rxW R) k with
        | none => rw [c0 o] at z; exact absurd z (nI_ge (b := 2147483647) (by omega) (by decide))
        | some c =>
          have ob := rxW_le hs h12 c
          rw [o] at no
          refine no ?_ _
          show (if (rxP R nt fa (apL R h x) k && decide (rxW R k < rxW R c)) = true then some k else some c) = some c
          rw [decide_eq_false (fun w => by rw [c1 c o] at z; exact absurd z (nI_ge w (by omega))), Bool.and_false]; rfl
      · have y : rxP R nt fa (apL R h x) k = true := by
          have y := bI_0.mp y
          rw [key] at y
          cases u : rxP R nt fa (apL R h x) k with
          | true => rfl
          | false => rw [u] at y; exact Bool.noConfusion y
        refine yes ?_
        cases o : gfS (rxP R nt fa (apL R h x)) (rxW R) k with
        | none => show (if rxP R nt fa (apL R h x) k = true then some k else none) = some k; rw [if_pos y]
        | some c =>
          have ob := rxW_le hs h12 c
          show (if (rxP R nt fa (apL R h x) k && decide (rxW R k < rxW R c)) = true then some k else some c) = some k
          rw [y, decide_eq_true (Nat.lt_of_not_le (fun w => z (by rw [c1 c o]; exact nI_le w (by omega))))]; rfl
      · have y : rxP R nt fa (apL R h x) k = false := by
          have y := bI_1.mp y
          rw [key] at y
          cases u : rxP R nt fa (apL R h x) k with
          | false => rfl
          | true => rw [u] at y; exact Bool.noConfusion y
        refine no ?_ _
        cases o : gfS (rxP R nt fa (apL R h x)) (rxW R) k with
        | none => show (if rxP R nt fa (apL R h x) k = true then some k else none) = none; rw [y]; rfl
        | some c =>
          show (if (rxP R nt fa (apL R h x) k && decide (rxW R k < rxW R c)) = true then some k else some c) = some c
          rw [y]; rfl
  exact go (2 ^ (HL R).length) 0 2147483647 (Nat.zero_add _) (fun _ => rfl) (fun c z => absurd z (by simp [gfS]))
def nI1 (o : Option Nat) : Int32 := match o with
  | none => -1
  | some c => nI c
theorem relax_go {K : Int32 → VH → Prop} {L : List Nat} {p : Nat} (h0 : 1 < d) (hs : PrS t n R nt) (hm : KnM V q t n R nt fa h x cs) (h12 : (HL R).length ≤ 12) (ms : MsM V R nt fa L) (hp : p ∈ L) (hk : K (bnI (HL R) (ofI (gfS (exB R nt fa L) (rxW R) (2 ^ (HL R).length))) (HL R).length) V) : ∀ r k (x3 : Int32), k + r = 2 ^ (HL R).length → (∀ c, gfS (exB R nt fa L) (rxW R) k = some c → x3 = nI (rxW R c)) → vwp E d M_X12_relax 22 [some (sl 6 0), some (wi (nI q)), some (wi (nI1 (gfS (exB R nt fa L) (rxW R) k))), some (wi x3), some (wi (nI k)), none, none] [] V (zi K) := by
  have p2 := two12 h12
  have q5 := hm.q5
  intro r
  induction r with
  | zero =>
    intro k x3 e _
    have ek : k = 2 ^ (HL R).length := by omega
    refine w_X12_relax_22 (by omega) ?_
    rw [ms.1, pw2 _ (by omega)]
    refine ⟨fun _ => ?_, fun z => absurd (nI_le (by omega) (by omega)) z⟩
    rw [ek]
    cases o : gfS (exB R nt fa L) (rxW R) (2 ^ (HL R).length) with
    | none =>
      obtain ⟨m, hm', e'⟩ := mkQ_nI (nt := nt) (fa := fa) h12 p
      have := (gfS_is (2 ^ (HL R).length)).1 o m hm'
      rw [exB_iff.mpr ⟨p, hp, e'⟩] at this
      exact Bool.noConfusion this
    | some c =>
      rw [o] at hk
      exact c_numberOf h12 ms hk
  | succ r ih =>
    intro k x3 e c1
    have hk2 : k < 2 ^ (HL R).length := by omega
    have b12 := rxW_le hs h12 k
    have b12' : wsu (wnH R) (nI k) (HL R).length ≤ 12000 := b12
    have iN := fun y2 => ih (k + 1) x3 (by omega) y2
    have iY := fun y2 => ih (k + 1) (nI (rxW R k)) (by omega) y2
    rw [gfS_s] at iN iY
    refine w_X12_relax_22 (by omega) ?_
    rw [ms.1, pw2 _ (by omega)]
    refine ⟨fun z => absurd z (nI_ge hk2 (by omega)), fun _ => ?_⟩
    have inner : ∀ s j, j + s = (HL R).length → vwp E d M_X12_relax 39 [some (sl 6 0), some (wi (nI q)), some (wi (nI1 (gfS (exB R nt fa L) (rxW R) k))), some (wi x3), some (wi (nI k)), some (wi (nI (wsu (wnH R) (nI k) j))), some (wi (nI j))] [] V (zi K) := by
      intro s
      induction s with
      | zero =>
        intro j e
        have : j = (HL R).length := by omega
        subst this
        refine w_X12_relax_39 ⟨fun _ => ?_, fun z => absurd (by rw [ms.1]; exact nI_le (Nat.le_refl _) (by omega)) z⟩
        rw [nI_clamp (show k < 2 ^ 31 by omega), ms.2.2 k (by omega)]
        have no : gfT (exB R nt fa L) (rxW R) (gfS (exB R nt fa L) (rxW R) k) k = gfS (exB R nt fa L) (rxW R) k → vwp E d M_X12_relax 117 [some (sl 6 0), some (wi (nI q)), some (wi (nI1 (gfS (exB R nt fa L) (rxW R) k))), some (wi x3), some (wi (nI k)), some (wi (nI (rxW R k))), some (wi (nI (HL R).length))] [] V (zi K) := fun eq => by
          refine w_X12_relax_117 ?_
          rw [nI_1]
          rw [eq] at iN
          exact iN c1
        have yes : gfT (exB R nt fa L) (rxW R) (gfS (exB R nt fa L) (rxW R) k) k = some k → vwp E d M_X12_relax 111 [some (sl 6 0), some (wi (nI q)), some (wi (nI1 (gfS (exB R nt fa L) (rxW R) k))), some (wi x3), some (wi (nI k)), some (wi (nI (rxW R k))), some (wi (nI (HL R).length))] [] V (zi K) := fun eq => by
          refine w_X12_relax_111 (w_X12_relax_117 ?_)
          rw [nI_1]
          rw [eq] at iY
          exact iY (fun c z => by rw [← Option.some.inj z])
        refine ⟨vp_in_nI (by omega) (by decide), fun z => no ?_, fun z => ⟨fun w => yes ?_, fun w => ⟨fun u => no ?_, fun u => yes ?_⟩⟩⟩
        · have z := bI_0.mp z
          cases o : gfS (exB R nt fa L) (rxW R) k with
          | none => show (if exB R nt fa L k = true then some k else none) = none; rw [z]; rfl
          | some c => show (if (exB R nt fa L k && decide (rxW R k < rxW R c)) = true then some k else some c) = some c; rw [z]; rfl
        · have z := bI_1.mp z
          cases o : gfS (exB R nt fa L) (rxW R) k with
          | none => show (if exB R nt fa L k = true then some k else none) = some k; rw [z]; rfl
          | some c =>
            have := ((gfS_is k).2 c o).1
            rw [o] at w
            have w : nI c < 0 := w
            exact absurd w (nI_pos (by omega))
        · cases o : gfS (exB R nt fa L) (rxW R) k with
          | none => rw [o] at w; exact absurd (by decide) w
          | some c =>
            have ob := rxW_le hs h12 c
            show (if (exB R nt fa L k && decide (rxW R k < rxW R c)) = true then some k else some c) = some c
            rw [decide_eq_false (fun y => by rw [c1 c o] at u; exact absurd u (nI_ge y (by omega))), Bool.and_false]; rfl
        · have z := bI_1.mp z
          cases o : gfS (exB R nt fa L) (rxW R) k with
          | none => rw [o] at w; exact absurd (by decide) w
          | some c =>
            have ob := rxW_le hs h12 c
            show (if (exB R nt fa L k && decide (rxW R k < rxW R c)) = true then some k else some c) = some k
            rw [z, decide_eq_true (Nat.lt_of_not_le (fun y => u (by rw [c1 c o]; exact nI_le y (by omega))))]; rfl
      | succ s ih2 =>
        intro j e
        have hj : j < (HL R).length := by omega
        obtain ⟨a1, a2, _⟩ := HL_mem hj
        obtain ⟨w0, w1, w2⟩ := wnH_is hs hj
        have e25 : vI V 6 25 (24 * q + (HL R).getD j 0) = nI (wnH R j) := by rw [← w0]; exact (hm.1.1.2.2.2.2.2.2.1.1 _ a1).2.1
        have i := ih2 (j + 1) (by omega)
        rw [wsu_s] at i
        refine w_X12_relax_39 ⟨fun z => absurd z (by rw [ms.1]; exact nI_ge hj (by omega)), fun _ => ?_⟩
        rw [nI_clamp (show j < 2 ^ 31 by omega), ms.2.1 j hj, i24, nI_clamp (show 24 * q + (HL R).getD j 0 < 2 ^ 31 by omega), e25, bit_is _ (by omega)]
        by_cases c : tst (nI k) j = true
        · rw [if_pos c] at i ⊢
          refine ⟨fun z => absurd rfl z, fun _ => ⟨vp_in_nI (by omega) (by decide), vp_in_nI (by omega) (by decide), w_X12_relax_82 ?_⟩⟩
          rw [nI_1, nI_add]; exact i
        · rw [if_neg c] at i ⊢
          refine ⟨fun _ => w_X12_relax_82 ?_, fun z => absurd z (by decide)⟩
          rw [nI_1, Int32.add_zero]; exact i
    exact inner (HL R).length 0 (Nat.zero_add _)
end
section
variable {E : EE} {d x B B' : Nat}
theorem o_relax (h0 : 190 < d) (hB : B ≤ B') : VO_relax E d (JA x B) (JA x B') := fun V a0 hJ => liftI hJ (fun hW hS => by
  rcases hS.inQ a0 with ⟨hP, hM⟩ | ⟨q, t, n, R, nt, fa, h, px, cs, hq, rfl, hI⟩
  · exact nul_relax (J := fun V2 => WF V2 → JS B' V2) (by omega) hW hP hM (fun _ => hS.mono hB)
  · have h12 := HL_12 hI.1 hI.2.1.2.2.2.2.1.1
    refine w_X11_relax_0 (by omega) (c_scoredW (by omega) hW hq hS hI (fun V1 hW1 hS1 hI1 s1 => ⟨fun _ => ⟨hI1.2.1.1.2, c_cheapest (by omega) hW1 hS1 hI1 s1 (fun W V4 hSW hIW f4 => ?_)⟩, fun z => absurd hI1.2.1.1.1 z⟩))
    have mi := hIW.mi.fc hIW.1 f4 (fun f j y => absurd y.1 (by decide))
    refine w_X12_relax_0 (by omega) (c_isProblem_y mi hq ⟨fun _ => c_masks (by omega) hq hSW hIW f4 (fun V2 kn ms hS2 => ?_), fun w => absurd w (by decide)⟩)
    rw [relax_eq hI.1 h12]
    exact relax_go (by omega) hI.1 kn h12 ms (ap_h hI.1 hI.hnd.2) ⟨rfl, fun _ => hS2.mono hB⟩ (2 ^ (HL R).length) 0 0 (Nat.zero_add _) (fun c z => absurd z (by simp [gfS])))
end
