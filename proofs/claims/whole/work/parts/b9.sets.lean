/-! sets of hard rules: clash, fewest, relax -/
theorem pw2 : ∀ H, H < 13 → (1 : Int32) <<< (nI H &&& 31) = nI (2 ^ H) := by decide
theorem tst_nI {m v : Nat} (hv : v < 32) : tst (nI m) v = m.testBit v := by
  show (BitVec.ofNat 32 m).getLsbD v = m.testBit v
  rw [BitVec.getLsbD_ofNat, decide_eq_true hv, Bool.true_and]
theorem nI_toN (x : Int32) : nI x.toBitVec.toNat = x := by
  refine Int32.toBitVec_inj.mp ?_
  show BitVec.ofNat 32 x.toBitVec.toNat = x.toBitVec
  simp
theorem set_nI {x : Int32} {H : Nat} (h : ∀ v, H ≤ v → v < 32 → tst x v = false) : ∃ m, m < 2 ^ H ∧ x = nI m := by
  refine ⟨x.toBitVec.toNat, ?_, (nI_toN x).symm⟩
  refine Nat.lt_pow_two_of_testBit _ (fun i hi => ?_)
  by_cases c : i < 32
  · exact h i hi c
  · exact tst_big x (by omega)
theorem nI_out {m H v : Nat} (h : m < 2 ^ H) (hv : H ≤ v) (h32 : v < 32) : tst (nI m) v = false := by
  rw [tst_nI h32]
  exact Nat.testBit_lt_two_pow (Nat.lt_of_lt_of_le h (Nat.pow_le_pow_right (by decide) hv))
/-- a set less h -/
def lss (x : Int32) (h : Nat) : Int32 := x &&& (((1 : Int32) <<< (nI h &&& 31)) ^^^ (-1))
theorem lss_t (x : Int32) {h v : Nat} (hh : h < 32) (hv : v < 32) : tst (lss x h) v = (tst x v && decide (v ≠ h)) := by
  unfold lss
  rw [tst_and, tst_xor, tst_one hh hv, tst_n1 hv]
  by_cases c : v = h
  · rw [decide_eq_true c, decide_eq_false (fun z => z c)]; rfl
  · rw [decide_eq_false c, decide_eq_true c]; rfl
theorem lss_lt {k h : Nat} (hk : k < 2 ^ 12) (hh : h < 32) (ht : tst (nI k) h = true) : ∃ j, j < k ∧ lss (nI k) h = nI j := by
  obtain ⟨j, hj, e⟩ := set_nI (x := lss (nI k) h) (H := 12) (fun v hv h32 => by rw [lss_t _ hh h32, nI_out hk hv h32, Bool.false_and])
  refine ⟨j, ?_, e⟩
  have le : j ≤ k := by
    have e1 : j = (lss (nI k) h).toBitVec.toNat := by
      rw [e]
      show j = (BitVec.ofNat 32 j).toNat
      rw [BitVec.toNat_ofNat, Nat.mod_eq_of_lt (by omega)]
    rw [e1]
    unfold lss
    rw [Int32.toBitVec_and, BitVec.toNat_and]
    have e2 : (nI k).toBitVec.toNat = k := by
      show (BitVec.ofNat 32 k).toNat = k
      rw [BitVec.toNat_ofNat, Nat.mod_eq_of_lt (by omega)]
    rw [e2]
    exact Nat.and_le_left
  rcases Nat.lt_or_eq_of_le le with z | z
  · exact z
  · rw [z] at e
    have := lss_t (nI k) hh hh
    rw [e, ht, decide_eq_false (fun z => z rfl)] at this
    exact absurd this (by decide)
/-- hard rules below m -/
def hdB (R : List SR) (r : Nat) : Bool := decide (r < tcR R 2 ∧ lvn R r = 0)
def hL (R : List SR) (m : Nat) : List Nat := (List.range m).filter (hdB R)
abbrev HL (R : List SR) : List Nat := hL R 24
theorem hL_s (R : List SR) (m : Nat) : hL R (m + 1) = if hdB R m = true then hL R m ++ [m] else hL R m := rng_flt_s (hdB R) m
theorem hL_le (R : List SR) {m k : Nat} (h : m ≤ k) : (hL R m).length ≤ (hL R k).length := by
  induction k with
  | zero => rw [show m = 0 by omega]; exact Nat.le_refl _
  | succ k ih =>
    by_cases c : m = k + 1
    · rw [c]; exact Nat.le_refl _
    · have := ih (by omega)
      rw [hL_s]
      by_cases y : hdB R k = true
      · rw [if_pos y, List.length_append]; exact Nat.le_trans this (Nat.le_add_right _ _)
      · rw [if_neg y]; exact this
theorem hL_tc (R : List SR) {m : Nat} (h : tcR R 2 ≤ m) : hL R m = hL R (tcR R 2) := by
  induction m with
  | zero => rw [show tcR R 2 = 0 by omega]
  | succ k ih =>
    by_cases c : tcR R 2 = k + 1
    · rw [c]
    · rw [hL_s, if_neg (by unfold hdB; rw [decide_eq_false (fun z => by omega)]; decide), ih (by omega)]
theorem hL_cnt (R : List SR) : ∀ m, (hL R m).length = cnt (hdB R) m := by
  intro m
  induction m with
  | zero => rfl
  | succ m ih =>
    rw [hL_s]
    show _ = cnt (hdB R) m + (if hdB R m = true then 1 else 0)
    by_cases c : hdB R m = true
    · rw [if_pos c, if_pos c, List.length_append, ih]; rfl
    · rw [if_neg c, if_neg c, ih]; rfl
section
variable {E : EE} {d : Nat} {V V' V1 V2 : VH} {q B : Nat} {t : Nat → Int32} {n : Nat} {R : List SR} {nt fa : Nat → Int32} {h h' : Nat} {x b : Int32} {cs : Nat → Int32}
theorem hd_t {hd : Int32} (hs : PrS t n R nt) (hh : HsC hd R) {r : Nat} (hr : r < 32) : tst hd r = hdB R r := by
  unfold hdB
  cases c : tst hd r with
  | true =>
    obtain ⟨c1, c2⟩ := (hh.1 r hr).mp c
    obtain ⟨l3, el, _⟩ := hs.rule c1
    exact (decide_eq_true ⟨c1, nI_0' l3 (by rw [← el]; exact c2)⟩).symm
  | false =>
    refine (decide_eq_false (fun z => ?_)).symm
    obtain ⟨l3, el, _⟩ := hs.rule z.1
    have := (hh.1 r hr).mpr ⟨z.1, by rw [el, z.2]; rfl⟩
    rw [this] at c; exact Bool.noConfusion c
theorem HL_12 {hd : Int32} (hs : PrS t n R nt) (hh : HsC hd R) : (HL R).length ≤ 12 := by
  have r24 : tcR R 2 ≤ 24 := hs.2.2.2.1.1 2 (by decide)
  have h12 : hdR R ≤ 12 := hs.2.2.2.1.2.2.2.2.1
  have e : pop hd = cnt (hdB R) 32 := cnt_ext (fun i hi => hd_t hs hh hi)
  have e2 : cnt (hdB R) 32 = cnt (hdB R) 24 := cnt_more (by decide) (fun i h1 h2 => decide_eq_false (fun z => by omega))
  rw [show (HL R).length = cnt (hdB R) 24 from hL_cnt R 24, ← e2, ← e, hh.2]
  exact h12
theorem HL_mem {k : Nat} (hk : k < (HL R).length) : (HL R).getD k 0 < tcR R 2 ∧ (HL R).getD k 0 < 24 ∧ lvn R ((HL R).getD k 0) = 0 := by
  have m := List.mem_filter.mp (getD_mem hk)
  have z := of_decide_eq_true m.2
  exact ⟨z.1, List.mem_range.mp m.1, z.2⟩
/-- which hard rules a plan breaks -/
def mkb (R : List SR) (nt fa : Nat → Int32) (p h : Nat) : Bool := tst (stQ R nt fa p) ((HL R).getD h 0)
def mkI (P : Nat → Bool) : Nat → Int32
  | 0 => 0
  | h + 1 => mkI P h ||| (if P h = true then (1 : Int32) <<< (nI h &&& 31) else 0)
theorem mkI_s {P : Nat → Bool} {h : Nat} : mkI P (h + 1) = mkI P h ||| (if P h = true then (1 : Int32) <<< (nI h &&& 31) else 0) := by rw [mkI]
theorem mkI_t {P : Nat → Bool} {v : Nat} (hv : v < 32) : ∀ H, H ≤ 32 → tst (mkI P H) v = (decide (v < H) && P v) := by
  intro H
  induction H with
  | zero => intro _; rw [mkI, tst_z, decide_eq_false (Nat.not_lt_zero v), Bool.false_and]
  | succ H ih =>
    intro hH
    rw [mkI_s, tst_or, ih (by omega)]
    by_cases c : v = H
    · subst c
      rw [decide_eq_false (Nat.lt_irrefl v), decide_eq_true (Nat.lt_succ_self v), Bool.false_and, Bool.true_and, Bool.false_or]
      by_cases y : P v = true
      · rw [if_pos y, tst_one (by omega) hv, y, decide_eq_true rfl]
      · rw [if_neg y, tst_z]
        cases z : P v with
        | false => rfl
        | true => exact absurd z y
    · have e : tst (if P H = true then (1 : Int32) <<< (nI H &&& 31) else 0) v = false := by
        by_cases y : P H = true
        · rw [if_pos y, tst_one (by omega) hv, decide_eq_false c]
        · rw [if_neg y, tst_z]
      rw [e, Bool.or_false]
      congr 1
      exact decide_eq_decide.mpr ⟨fun z => by omega, fun z => by omega⟩
abbrev mkQ (R : List SR) (nt fa : Nat → Int32) (p : Nat) : Int32 := mkI (mkb R nt fa p) (HL R).length
theorem mkQ_nI (h12 : (HL R).length ≤ 12) (p : Nat) : ∃ m, m < 2 ^ (HL R).length ∧ mkQ R nt fa p = nI m :=
  set_nI (fun v hv h32 => by rw [mkI_t h32 _ (by omega), decide_eq_false (by omega), Bool.false_and])
/-- allowed plans -/
abbrev apL (R : List SR) (h : Nat) (x : Int32) : List Nat := (List.range (plR R)).filter (agR R h x)
theorem ap_h (hs : PrS t n R nt) (hh : h < plR R) : h ∈ apL R h x := List.mem_filter.mpr ⟨List.mem_range.mpr hh, agr_iff.mpr (fun _ _ _ => rfl)⟩
/-- some plan of L breaks just the set m -/
def exB (R : List SR) (nt fa : Nat → Int32) (L : List Nat) (m : Nat) : Bool := L.any (fun p => decide (mkQ R nt fa p = nI m))
/-- some plan of L breaks rules of x alone -/
def suB (R : List SR) (nt fa : Nat → Int32) (L : List Nat) (y : Int32) : Bool := L.any (fun p => (List.range (HL R).length).all (fun v => !mkb R nt fa p v || tst y v))
/-- every plan of L breaks a rule of y -/
def clB (R : List SR) (nt fa : Nat → Int32) (L : List Nat) (y : Int32) : Bool := L.all (fun p => (List.range (HL R).length).any (fun v => mkb R nt fa p v && tst y v))
theorem exB_iff {L : List Nat} {m : Nat} : exB R nt fa L m = true ↔ ∃ p, p ∈ L ∧ mkQ R nt fa p = nI m := by
  unfold exB
  rw [List.any_eq_true]
  exact ⟨fun ⟨p, h1, h2⟩ => ⟨p, h1, of_decide_eq_true h2⟩, fun ⟨p, h1, h2⟩ => ⟨p, h1, decide_eq_true h2⟩⟩
theorem suB_iff {L : List Nat} {y : Int32} : suB R nt fa L y = true ↔ ∃ p, p ∈ L ∧ ∀ v, v < (HL R).length → mkb R nt fa p v = true → tst y v = true := by
  unfold suB
  rw [List.any_eq_true]
  refine ⟨fun ⟨p, h1, h2⟩ => ⟨p, h1, fun v hv hb => ?_⟩, fun ⟨p, h1, h2⟩ => ⟨p, h1, List.all_eq_true.mpr (fun v hv => ?_)⟩⟩
  · have := List.all_eq_true.mp h2 v (List.mem_range.mpr hv)
    rw [hb] at this; exact this
  · have hv := List.mem_range.mp hv
    cases c : mkb R nt fa p v with
    | false => rfl
    | true => rw [h2 v hv c]; rfl
theorem clB_iff {L : List Nat} {y : Int32} : clB R nt fa L y = true ↔ ∀ p, p ∈ L → ∃ v, v < (HL R).length ∧ mkb R nt fa p v = true ∧ tst y v = true := by
  unfold clB
  rw [List.all_eq_true]
  refine ⟨fun h p hp => ?_, fun h p hp => List.any_eq_true.mpr ?_⟩
  · obtain ⟨v, h1, h2⟩ := List.any_eq_true.mp (h p hp)
    rw [Bool.and_eq_true] at h2
    exact ⟨v, List.mem_range.mp h1, h2⟩
  · obtain ⟨v, h1, h2⟩ := h p hp
    exact ⟨v, List.mem_range.mpr h1, by rw [h2.1, h2.2]; rfl⟩
/-- of all hard rules those that are not in y: do they suffice? -/
theorem cl_neg {L : List Nat} {y z : Int32} (h : ∀ v, v < (HL R).length → tst z v = !tst y v) : clB R nt fa L y = !suB R nt fa L z := by
  cases c : suB R nt fa L z with
  | true =>
    obtain ⟨p, h1, h2⟩ := suB_iff.mp c
    cases k : clB R nt fa L y with
    | false => rfl
    | true =>
      obtain ⟨v, hv, hb, ht⟩ := clB_iff.mp k p h1
      have := h2 v hv hb
      rw [h v hv, ht] at this
      exact Bool.noConfusion this
  | false =>
    show _ = true
    refine clB_iff.mpr (fun p hp => ?_)
    by_cases k : ∃ v, v < (HL R).length ∧ mkb R nt fa p v = true ∧ tst y v = true
    · exact k
    · have : suB R nt fa L z = true := suB_iff.mpr ⟨p, hp, fun v hv hb => by
        rw [h v hv]
        cases w : tst y v with
        | false => rfl
        | true => exact absurd ⟨v, hv, hb, w⟩ k⟩
      rw [this] at c; exact Bool.noConfusion c
/-- what suffices, by one rule less -/
theorem suB_step (h12 : (HL R).length ≤ 12) {L : List Nat} {k : Nat} (hk : k < 2 ^ (HL R).length) : suB R nt fa L (nI k) = true ↔ exB R nt fa L k = true ∨ ∃ j, j < (HL R).length ∧ tst (nI k) j = true ∧ suB R nt fa L (lss (nI k) j) = true := by
  constructor
  · intro c
    obtain ⟨p, hp, hv⟩ := suB_iff.mp c
    by_cases z : ∃ j, j < (HL R).length ∧ tst (nI k) j = true ∧ mkb R nt fa p j = false
    · obtain ⟨j, hj, h1, h2⟩ := z
      refine Or.inr ⟨j, hj, h1, suB_iff.mpr ⟨p, hp, fun v hv' hb => ?_⟩⟩
      rw [lss_t _ (by omega) (by omega), hv v hv' hb, Bool.true_and]
      exact decide_eq_true (fun e => by rw [e, h2] at hb; exact Bool.noConfusion hb)
    · refine Or.inl (exB_iff.mpr ⟨p, hp, tst_ext (fun v h32 => ?_)⟩)
      rw [mkI_t h32 _ (by omega)]
      by_cases c : v < (HL R).length
      · rw [decide_eq_true c, Bool.true_and]
        cases y : mkb R nt fa p v with
        | true => exact (hv v c y).symm
        | false =>
          cases w : tst (nI k) v with
          | false => rfl
          | true => exact absurd ⟨v, c, w, y⟩ z
      · rw [decide_eq_false c, Bool.false_and, nI_out hk (by omega) h32]
  · rintro (c | ⟨j, hj, h1, c⟩)
    · obtain ⟨p, hp, e⟩ := exB_iff.mp c
      refine suB_iff.mpr ⟨p, hp, fun v hv hb => ?_⟩
      rw [← e, mkI_t (by omega) _ (by omega), decide_eq_true hv, hb]; rfl
    · obtain ⟨p, hp, hv⟩ := suB_iff.mp c
      refine suB_iff.mpr ⟨p, hp, fun v hv' hb => ?_⟩
      have := hv v hv' hb
      rw [lss_t _ (by omega) (by omega), Bool.and_eq_true] at this
      exact this.1
end
