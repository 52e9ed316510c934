/-! the reference's ranges and plans -/
/-- the reference's problem p has nv vars, var v with sz v values vl v k -/
def Sq (V : VH) (p nv : Nat) (sz : Nat → Nat) (vl : Nat → Nat → Int32) : Prop := p < 5 ∧ vI V 6 14 (4 * p + 1) = nI nv ∧ nv ≤ 12 ∧ vI V 6 22 p = nI (Tp sz nv 0) ∧ Tp sz nv 0 ≤ 20000 ∧ ∀ v, v < nv → vI V 6 16 (12 * p + v) = nI (sz v) ∧ 1 ≤ sz v ∧ sz v ≤ 20 ∧ vI V 6 17 (12 * p + v) = nI (Tp sz nv (v + 1)) ∧ ∀ k, k < sz v → vI V 6 18 (20 * (12 * p + v) + k) = vl v k
/-- the plan at hand; the pins -/
def Hq (V : VH) (p nv : Nat) (sz : Nat → Nat) (h : Nat) : Prop := h < Tp sz nv 0 ∧ ∀ v, v < nv → vI V 6 19 (12 * p + v) = nI (Dg sz nv v h)
def Pq (V : VH) (p nv : Nat) (fx : Nat → Bool) : Prop := ∀ v, v < nv → (vI V 6 21 (12 * p + v) = 0 ↔ fx v = false)
/-- the scores of n plans -/
def Tq (V : VH) (n : Nat) (sc : Nat → Nat → Int64) : Prop := n ≤ 20000 ∧ ∀ p, p < n → ∀ l, l < 3 → vJ V 6 45 (20000 * l + p) = sc p l
section
variable {E : EE} {d : Nat} {V : VH} {p nv : Nat} {sz : Nat → Nat} {vl : Nat → Nat → Int32} {fx : Nat → Bool} {h : Nat} {sc : Nat → Nat → Int64}
theorem Sq.pos (s : Sq V p nv sz vl) : ∀ v, v < nv → 0 < sz v := fun v hv => (s.2.2.2.2.2 v hv).2.1
theorem Sq.t (s : Sq V p nv sz vl) (v : Nat) : Tp sz nv v ≤ 20000 := Nat.le_trans (Nat.le_of_dvd (Tpos s.pos 0) (Tp_dvd' (Nat.zero_le v))) s.2.2.2.2.1
theorem i12 (p v : Nat) : (12 : Int32) * nI p + nI v = nI (12 * p + v) := by rw [show (12 : Int32) = nI 12 from rfl, nI_mul, nI_add]
theorem c_vars {K : Int32 → VH → Prop} (s : Sq V p nv sz vl) (hk : K (nI nv) V) : vMI E d M_X12_vars [sl 6 0, wi (nI p)] V K := by
  have hp := s.1
  have e : (4 : Int32) * nI p + 1 = nI (4 * p + 1) := by rw [show (4 : Int32) = nI 4 from rfl, nI_mul, nI_1]
  refine w_X12_vars_0 ?_
  rw [e, nI_clamp (show 4 * p + 1 < 2 ^ 31 by omega), s.2.1]
  exact ⟨vp_in_nI (by omega) (by decide), hk⟩
theorem c_place {q v : Nat} {K : Int32 → VH → Prop} (s : Sq V p nv sz vl) (hv : v < nv) (hq : q < 2 ^ 31) (hk : K (nI (Dg sz nv v q)) V) : vMI E d M_X12_place [sl 6 0, wi (nI p), wi (nI q), wi (nI v)] V K := by
  have t := s.t (v + 1)
  have tp := Tpos s.pos (v + 1)
  obtain ⟨hp, _, h12, _, _, hh⟩ := s
  obtain ⟨e6, s1, s2, e8, _⟩ := hh v hv
  have vp : vp_in (nI (12 * p + v)) 60 := vp_in_nI (by omega) (by decide)
  refine w_X12_place_0 ?_
  rw [i12, nI_clamp (show 12 * p + v < 2 ^ 31 by omega), e6, e8]
  refine ⟨vp, nI_ne0 (by omega) (by omega), vp, nI_ne0 (by omega) (by omega), ?_⟩
  rw [nI_div hq (by omega), nI_rem (Nat.lt_of_le_of_lt (Nat.div_le_self _ _) hq) (by omega)]
  exact hk
theorem hand_step (hs : ∀ v, v < nv → 0 < sz v) {v : Nat} (hv : v < nv) : Tp sz nv v * (h / Tp sz nv v) + Dg sz nv v h * Tp sz nv (v + 1) = Tp sz nv (v + 1) * (h / Tp sz nv (v + 1)) := by
  have e1 := Nat.div_add_mod h (Tp sz nv v)
  have e2 := Nat.div_add_mod h (Tp sz nv (v + 1))
  have e3 := mod_Tp (sz := sz) (p := h) hv
  have e4 := Nat.mul_comm (Dg sz nv v h) (Tp sz nv (v + 1))
  omega
theorem c_handOf {K : Int32 → VH → Prop} (h0 : 0 < d) (s : Sq V p nv sz vl) (hh : Hq V p nv sz h) (hk : K (nI h) V) : vMI E d M_X12_handOf [sl 6 0, wi (nI p)] V K := by
  have hp := s.1
  have h12 := s.2.2.1
  have go : ∀ (m v : Nat), v + m = nv → vwp E d M_X12_handOf 4 [some (sl 6 0), some (wi (nI p)), some (wi (nI (Tp sz nv v * (h / Tp sz nv v)))), some (wi (nI v))] [] V (zi K) := by
    intro m
    induction m with
    | zero =>
      intro v ev
      refine w_X12_handOf_4 h0 (c_vars s ⟨fun _ => ?_, fun q => absurd (nI_le (by omega) (by omega)) q⟩)
      rw [Tp_nv (show nv ≤ v by omega), Nat.div_one, Nat.one_mul]
      exact hk
    | succ m ih =>
      intro v ev
      have hv : v < nv := by omega
      refine w_X12_handOf_4 h0 (c_vars s ⟨fun q => absurd q (nI_ge hv (by omega)), fun _ => ?_⟩)
      have vp : vp_in (nI (12 * p + v)) 60 := vp_in_nI (by omega) (by decide)
      rw [i12, nI_clamp (show 12 * p + v < 2 ^ 31 by omega), hh.2 v hv, (s.2.2.2.2.2 v hv).2.2.2.1, nI_mul, nI_add, hand_step s.pos hv, nI_1]
      exact ⟨vp, vp, ih (v + 1) (by omega)⟩
  have := go nv 0 (by omega)
  rw [Nat.div_eq_of_lt hh.1, Nat.mul_zero] at this
  exact w_X12_handOf_0 this
theorem Sq.fc {V' : VH} {S : Nat → Nat → Nat → Prop} (s : Sq V p nv sz vl) (k : Fc V V' S) (q : ∀ f i, f = 14 ∨ f = 16 ∨ f = 17 ∨ f = 18 ∨ f = 22 → ¬ S 6 f i) : Sq V' p nv sz vl := by
  unfold Sq
  rw [k.i (q 14 _ (by omega)), k.i (q 22 _ (by omega))]
  simp only [fun i => k.i (q 16 i (by omega)), fun i => k.i (q 17 i (by omega)), fun i => k.i (q 18 i (by omega))]
  exact s
theorem c_putAtHand {q : Nat} {K : VH → Prop} (h0 : 0 < d) (s : Sq V p nv sz vl) (hq : q < Tp sz nv 0) (hk : ∀ V', Fc V V' (fun a f i => a = 6 ∧ f = 19 ∧ 12 * p ≤ i ∧ i < 12 * p + nv) → Hq V' p nv sz q → K V') : vMV E d M_X12_putAtHand [sl 6 0, wi (nI p), wi (nI q)] V K := by
  have hp := s.1
  have h12 := s.2.2.1
  have t0 := s.2.2.2.2.1
  have go : ∀ (m v : Nat) (V1 : VH), v + m = nv → Fc V V1 (fun a f i => a = 6 ∧ f = 19 ∧ 12 * p ≤ i ∧ i < 12 * p + nv) → (∀ u, u < v → vI V1 6 19 (12 * p + u) = nI (Dg sz nv u q)) → vwp E d M_X12_putAtHand 2 [some (sl 6 0), some (wi (nI p)), some (wi (nI q)), some (wi (nI v))] [] V1 (zv K) := by
    intro m
    induction m with
    | zero =>
      intro v V1 ev f1 u1
      have s1 : Sq V1 p nv sz vl := s.fc f1 (fun f i z y => by omega)
      exact w_X12_putAtHand_2 h0 (c_vars s1 ⟨fun _ => hk V1 f1 ⟨hq, fun u hu => u1 u (by omega)⟩, fun z => absurd (nI_le (by omega) (by omega)) z⟩)
    | succ m ih =>
      intro v V1 ev f1 u1
      have hv : v < nv := by omega
      have s1 : Sq V1 p nv sz vl := s.fc f1 (fun f i z y => by omega)
      refine w_X12_putAtHand_2 h0 (c_vars s1 ⟨fun z => absurd z (nI_ge hv (by omega)), fun _ => c_place s1 hv (by omega) ?_⟩)
      rw [i12, nI_clamp (show 12 * p + v < 2 ^ 31 by omega), nI_1]
      refine ⟨vp_in_nI (by omega) (by decide), fun V7 e7 => ih (v + 1) V7 (by omega) (f1.trans (by rw [e7]; exact Fc_wrI ⟨rfl, rfl, by omega, by omega⟩)) (fun u hu => ?_)⟩
      rw [e7]
      by_cases c : u = v
      · subst c; exact wrI_at
      · rw [wrI_ne (fun z => by omega)]; exact u1 u (by omega)
  exact w_X12_putAtHand_0 (go nv 0 V (by omega) Fc.refl (fun u hu => absurd hu (Nat.not_lt_zero u)))
theorem c_isAllowed {q : Nat} {K : Int32 → VH → Prop} (h0 : 0 < d) (s : Sq V p nv sz vl) (hh : Hq V p nv sz h) (hp : Pq V p nv fx) (hq : q < 2 ^ 31) (hk : K (bI (agr sz nv fx h q)) V) : vMI E d M_X12_isAllowed [sl 6 0, wi (nI p), wi (nI q)] V K := by
  have hp5 := s.1
  have h12 := s.2.2.1
  have hno : agr sz nv fx h q = false → K 0 V := fun e => by rw [e] at hk; exact hk
  have hyes : agr sz nv fx h q = true → K 1 V := fun e => by rw [e] at hk; exact hk
  have go : ∀ (m v : Nat), v + m = nv → (∀ u, u < v → fx u = true → Dg sz nv u q = Dg sz nv u h) → vwp E d M_X12_isAllowed 5 [some (sl 6 0), some (wi (nI p)), some (wi (nI q)), some (wi 1), some (wi (nI v))] [] V (zi K) := by
    intro m
    induction m with
    | zero =>
      intro v ev hu
      exact w_X12_isAllowed_5 h0 ⟨fun z => absurd z (by decide), fun _ => c_vars s ⟨fun _ => ⟨Or.inr rfl, hyes (agr_iff.mpr (fun u hu2 hf => hu u (by omega) hf))⟩, fun z => absurd (nI_le (by omega) (by omega)) z⟩⟩
    | succ m ih =>
      intro v ev hu
      have hv : v < nv := by omega
      have vp : vp_in (nI (12 * p + v)) 60 := vp_in_nI (by omega) (by decide)
      have d1 := Dg_lt s.pos (p := q) hv
      have d2 := Dg_lt s.pos (p := h) hv
      have s20 := (s.2.2.2.2.2 v hv).2.2.1
      refine w_X12_isAllowed_5 h0 ⟨fun z => absurd z (by decide), fun _ => c_vars s ⟨fun z => absurd z (nI_ge hv (by omega)), fun _ => ?_⟩⟩
      rw [i12, nI_clamp (show 12 * p + v < 2 ^ 31 by omega)]
      refine ⟨vp, fun z => w_X12_isAllowed_57 (w_X12_isAllowed_62 ?_), fun z => c_place s hv hq ?_⟩
      · rw [nI_1]
        refine ih (v + 1) (by omega) (fun u hu2 hf => ?_)
        by_cases c : u = v
        · subst c; rw [(hp u hv).mp z] at hf; exact absurd hf (by decide)
        · exact hu u (by omega) hf
      · rw [hh.2 v hv]
        refine ⟨vp, fun y => w_X12_isAllowed_62 (w_X12_isAllowed_5 h0 ⟨fun _ => ⟨Or.inl rfl, hno ?_⟩, fun w => absurd rfl w⟩), fun y => w_X12_isAllowed_57 (w_X12_isAllowed_62 ?_)⟩
        · cases c : agr sz nv fx h q
          · rfl
          · have fv : fx v = true := by
              cases c2 : fx v
              · exact absurd ((hp v hv).mpr c2) z
              · rfl
            exact absurd (congrArg nI (agr_iff.mp c v hv fv)) y
        · rw [nI_1]
          refine ih (v + 1) (by omega) (fun u hu2 hf => ?_)
          by_cases c : u = v
          · subst c; exact (nI_eq (by omega) (by omega)).mp y
          · exact hu u (by omega) hf
  exact w_X12_isAllowed_0 (go nv 0 (by omega) (fun u hu => absurd hu (Nat.not_lt_zero u)))
/-- good: feasible by its score, and allowed -/
def goo (sz : Nat → Nat) (nv : Nat) (fx : Nat → Bool) (h : Nat) (sc : Nat → Nat → Int64) (q : Nat) : Bool := agr sz nv fx h q && decide (sc q 0 = 0)
theorem c_isFeasible {n q : Nat} {K : Int32 → VH → Prop} (t : Tq V n sc) (hq : q < n) (hk : K (bI (decide (sc q 0 = 0))) V) : vMI E d M_X12_isFeasible [sl 6 0, wi (nI q)] V K := by
  have e := t.2 q hq 0 (by decide)
  rw [Nat.mul_zero, Nat.zero_add] at e
  have := t.1
  refine w_X12_isFeasible_0 ?_
  rw [nI_clamp (show q < 2 ^ 31 by omega), e]
  refine ⟨vp_in_nI (by omega) (by decide), fun z => ?_, fun z => ?_⟩
  · rw [decide_eq_false z] at hk; exact hk
  · rw [decide_eq_true z] at hk; exact hk
theorem bI_0 {b : Bool} : bI b = 0 ↔ b = false := by cases b <;> decide
theorem c_isGood {q : Nat} {K : Int32 → VH → Prop} (h0 : 1 < d) (s : Sq V p nv sz vl) (hh : Hq V p nv sz h) (hp : Pq V p nv fx) (t : Tq V (Tp sz nv 0) sc) (hq : q < Tp sz nv 0) (hk : K (bI (goo sz nv fx h sc q)) V) : vMI E d M_X12_isGood [sl 6 0, wi (nI p), wi (nI q)] V K := by
  have := t.1
  refine w_X12_isGood_0 (by omega) (c_isFeasible t hq ⟨fun z => ?_, fun z => c_isAllowed (by omega) s hh hp (by omega) ⟨fun y => ?_, fun y => ?_⟩⟩)
  · have e : goo sz nv fx h sc q = false := by unfold goo; rw [bI_0.mp z, Bool.and_false]
    rw [e] at hk; exact hk
  · have e : goo sz nv fx h sc q = false := by unfold goo; rw [bI_0.mp y, Bool.false_and]
    rw [e] at hk; exact hk
  · have e1 : agr sz nv fx h q = true := by
      cases c : agr sz nv fx h q
      · rw [c] at y; exact absurd rfl y
      · rfl
    have e2 : decide (sc q 0 = 0) = true := by
      cases c : decide (sc q 0 = 0)
      · rw [c] at z; exact absurd rfl z
      · rfl
    have e : goo sz nv fx h sc q = true := by unfold goo; rw [e1, e2]; rfl
    rw [e] at hk; exact hk
theorem c_isBetterM {n a b : Nat} {K : Int32 → VH → Prop} (t : Tq V n sc) (ha : a < n) (hb : b < n) (hk : K (bI (btr sc a b)) V) : vMI E d M_X12_isBetter [sl 6 0, wi (nI a), wi (nI b)] V K := by
  have t1 := t.1
  have step : ∀ l, l < 3 → (sc a l = sc b l → vwp E d M_X12_isBetter 2 [some (sl 6 0), some (wi (nI a)), some (wi (nI b)), some (wi (nI (l + 1)))] [] V (zi K)) → (sc a l ≠ sc b l → K (bI (decide (sc a l < sc b l))) V) → vwp E d M_X12_isBetter 2 [some (sl 6 0), some (wi (nI a)), some (wi (nI b)), some (wi (nI l))] [] V (zi K) := fun l hl k1 k2 => by
    have ea : (20000 : Int32) * nI l + nI a = nI (20000 * l + a) := by rw [show (20000 : Int32) = nI 20000 from rfl, nI_mul, nI_add]
    have eb : (20000 : Int32) * nI l + nI b = nI (20000 * l + b) := by rw [show (20000 : Int32) = nI 20000 from rfl, nI_mul, nI_add]
    have va : vp_in (nI (20000 * l + a)) 60000 := vp_in_nI (by omega) (by decide)
    have vb : vp_in (nI (20000 * l + b)) 60000 := vp_in_nI (by omega) (by decide)
    refine w_X12_isBetter_2 ?_
    rw [ea, eb, nI_clamp (show 20000 * l + a < 2 ^ 31 by omega), nI_clamp (show 20000 * l + b < 2 ^ 31 by omega), t.2 a ha l hl, t.2 b hb l hl, nI_1]
    refine ⟨fun z => absurd z (nI_ge (b := 3) hl (by decide)), fun _ => ⟨va, vb, k1, fun e => ⟨va, vb, fun z => ?_, fun z => ?_⟩⟩⟩
    · have := k2 e
      rw [decide_eq_false (Int64.not_lt.mpr z)] at this
      exact this
    · have := k2 e
      rw [decide_eq_true (Int64.not_le.mp z)] at this
      exact this
  refine w_X12_isBetter_0 (step 0 (by decide) (fun e0 => step 1 (by decide) (fun e1 => step 2 (by decide) (fun e2 => ?_) (fun n2 => ?_)) (fun n1 => ?_)) (fun n0 => ?_))
  · refine w_X12_isBetter_2 ⟨fun _ => ?_, fun z => absurd (by decide) z⟩
    unfold btr at hk
    rw [if_neg (fun z => z e0), if_neg (fun z => z e1), e2, decide_eq_false (fun z => Int64.lt_irrefl z)] at hk
    exact hk
  · unfold btr at hk
    rw [if_neg (fun z => z e0), if_neg (fun z => z e1)] at hk
    exact hk
  · unfold btr at hk
    rw [if_neg (fun z => z e0), if_pos n1] at hk
    exact hk
  · unfold btr at hk
    rw [if_pos n0] at hk
    exact hk
end
