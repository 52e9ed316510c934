/-! values of the reference: longs that stay within ints; tokens, names, numbers -/
theorem j_inj {x y : Int32} : Int32.toInt64 x = Int32.toInt64 y ↔ x = y := ⟨fun h => by rw [← l2i_i2l x, ← l2i_i2l y, h], fun h => by rw [h]⟩
theorem j_le {x y : Int32} : Int32.toInt64 x ≤ Int32.toInt64 y ↔ x ≤ y := by rw [Int64.le_iff_toInt_le, Int32.toInt_toInt64, Int32.toInt_toInt64, Int32.le_iff_toInt_le]
theorem j_lt {x y : Int32} : Int32.toInt64 x < Int32.toInt64 y ↔ x < y := by rw [Int64.lt_iff_toInt_lt, Int32.toInt_toInt64, Int32.toInt_toInt64, Int32.lt_iff_toInt_lt]
def Bn (B : Nat) (x : Int32) : Prop := -(B : Int) ≤ x.toInt ∧ x.toInt ≤ B
theorem Bn.mono {B B' : Nat} {x : Int32} (h : Bn B x) (k : B ≤ B') : Bn B' x := ⟨by have := h.1; omega, by have := h.2; omega⟩
theorem j_add {B : Nat} {x y : Int32} (hx : Bn B x) (hy : Bn B y) (hB : B ≤ 1000000000) : Int32.toInt64 (x + y) = Int32.toInt64 x + Int32.toInt64 y ∧ (x + y).toInt = x.toInt + y.toInt := by
  obtain ⟨a, b⟩ := hx
  obtain ⟨c, d⟩ := hy
  have e : (x + y).toInt = x.toInt + y.toInt := by rw [Int32.toInt_add]; exact Int.bmod_eq_of_le (by omega) (by omega)
  refine ⟨Int64.toInt_inj.mp ?_, e⟩
  rw [Int64.toInt_add, Int32.toInt_toInt64, Int32.toInt_toInt64, Int32.toInt_toInt64, e]
  exact (Int.bmod_eq_of_le (by omega) (by omega)).symm
theorem j_sub {B : Nat} {x y : Int32} (hx : Bn B x) (hy : Bn B y) (hB : B ≤ 1000000000) : Int32.toInt64 (x - y) = Int32.toInt64 x - Int32.toInt64 y ∧ (x - y).toInt = x.toInt - y.toInt := by
  obtain ⟨a, b⟩ := hx
  obtain ⟨c, d⟩ := hy
  have e : (x - y).toInt = x.toInt - y.toInt := by rw [Int32.toInt_sub]; exact Int.bmod_eq_of_le (by omega) (by omega)
  refine ⟨Int64.toInt_inj.mp ?_, e⟩
  rw [Int64.toInt_sub, Int32.toInt_toInt64, Int32.toInt_toInt64, Int32.toInt_toInt64, e]
  exact (Int.bmod_eq_of_le (by omega) (by omega)).symm
theorem j_0 : Int32.toInt64 0 = 0 := rfl
theorem j_1 : Int32.toInt64 1 = 1 := rfl
theorem i_le {x y : Int32} : x ≤ y ↔ x.toInt ≤ y.toInt := Int32.le_iff_toInt_le
theorem i_lt {x y : Int32} : x < y ↔ x.toInt < y.toInt := Int32.lt_iff_toInt_lt
theorem l_le {x y : Int64} : x ≤ y ↔ x.toInt ≤ y.toInt := Int64.le_iff_toInt_le
theorem l_lt {x y : Int64} : x < y ↔ x.toInt < y.toInt := Int64.lt_iff_toInt_lt
theorem l2i_in {z : Int64} (h1 : -1000000 ≤ z.toInt) (h2 : z.toInt ≤ 1000000) : Int32.toInt64 (Int64.toInt32 z) = z ∧ (Int64.toInt32 z).toInt = z.toInt := by
  have e : (Int64.toInt32 z).toInt = z.toInt := by rw [Int64.toInt_toInt32]; exact Int.bmod_eq_of_le (by omega) (by omega)
  exact ⟨Int64.toInt_inj.mp (by rw [Int32.toInt_toInt64, e]), e⟩
/-- what is held to a million -/
theorem hld_le (z : Int64) (h : ¬ (-1000000) ≤ z) : Int32.toInt64 (hld z) = -1000000 := by
  have a : ¬ (-1000000 : Int64).toInt ≤ z.toInt := fun q => h (l_le.mpr q)
  have e3 : (-1000000 : Int64).toInt = -1000000 := by decide
  have e4 : (1000000 : Int64).toInt = 1000000 := by decide
  rw [e3] at a
  unfold hld lmin lmax
  rw [if_pos (show z < (1000000 : Int64) from l_lt.mpr (by rw [e4]; omega)), if_pos (show z < (-1000000 : Int64) from l_lt.mpr (by rw [e3]; omega))]
  decide
theorem hld_ge (z : Int64) (h : (-1000000) ≤ z) (h2 : ¬ z ≤ 1000000) : Int32.toInt64 (hld z) = 1000000 := by
  have e4 : (1000000 : Int64).toInt = 1000000 := by decide
  have a : ¬ z.toInt ≤ (1000000 : Int64).toInt := fun q => h2 (l_le.mpr q)
  rw [e4] at a
  unfold hld lmin lmax
  rw [if_neg (show ¬ z < (1000000 : Int64) from fun q => by have := l_lt.mp q; rw [e4] at this; omega), if_neg (by decide)]
  decide
theorem hld_in (z : Int64) (h : (-1000000) ≤ z) (h2 : z ≤ 1000000) : Int32.toInt64 (hld z) = z := by
  have e3 : (-1000000 : Int64).toInt = -1000000 := by decide
  have e4 : (1000000 : Int64).toInt = 1000000 := by decide
  have b1 := l_le.mp h
  have b2 := l_le.mp h2
  rw [e3] at b1
  rw [e4] at b2
  have e : lmax (-1000000) (lmin 1000000 z) = z := by
    have m : lmin 1000000 z = z := by
      unfold lmin
      by_cases c : z < 1000000
      · rw [if_pos c]
      · rw [if_neg c]
        have : ¬ z.toInt < (1000000 : Int64).toInt := fun q => c (l_lt.mpr q)
        rw [e4] at this
        exact Int64.toInt_inj.mp (by rw [e4]; omega)
    rw [m]
    unfold lmax
    rw [if_neg (fun q => by have := l_lt.mp q; rw [e3] at this; omega)]
  unfold hld
  rw [e]
  exact (l2i_in b1 b2).1
theorem hld_b (z : Int64) : Bn 1000000 (hld z) := by
  have e3 : (-1000000 : Int64).toInt = -1000000 := by decide
  have e4 : (1000000 : Int64).toInt = 1000000 := by decide
  have k : (hld z).toInt = (Int32.toInt64 (hld z)).toInt := by rw [Int32.toInt_toInt64]
  unfold Bn
  rw [k]
  by_cases c : (-1000000) ≤ z
  · by_cases c2 : z ≤ 1000000
    · rw [hld_in z c c2]
      have b1 := l_le.mp c
      have b2 := l_le.mp c2
      rw [e3] at b1
      rw [e4] at b2
      omega
    · rw [hld_ge z c c2, e4]; omega
  · rw [hld_le z c, e3]; omega
theorem ev_held {E : EE} {d : Nat} {V : VH} {K : Int64 → VH → Prop} {z : Int64} (hk : K (Int32.toInt64 (hld z)) V) : vMJ E d M_X12_held [wj z] V K := by
  refine w_X12_held_0 ⟨fun q => ⟨fun q1 => ?_, fun q1 => ?_⟩, fun q => ?_⟩
  · rw [hld_in z q q1] at hk; exact hk
  · rw [hld_ge z q q1] at hk; exact hk
  · rw [hld_le z q] at hk; exact hk
/-- the tokens a .. b - 1 of problem p are kept; facts and values -/
def EM (V : VH) (p : Nat) (T : Nat → TK) (M : MN) (a b : Nat) (fa se : Nat → Int32) : Prop := p < 5 ∧ b ≤ 20000 ∧ (∀ j, a ≤ j → j < b → vI V 6 5 (20000 * p + j) = nI (T j).1 ∧ vI V 6 6 (20000 * p + j) = nuv T M j) ∧ vI V 6 36 = fa ∧ vI V 6 35 = se
/-- what holds of tokens, names, facts, values -/
def EG (T : Nat → TK) (M : MN) (nf nv : Nat) (fa se : Nat → Int32) : Prop := (∀ j, (T j).1 < 317 ∧ ((T j).1 = 2 → (T j).2.2.1 ≤ 9999)) ∧ (∀ k q, M k = some q → (q.1 = 0 → q.2 < nf) ∧ (q.1 = 1 → q.2 < nv)) ∧ nf ≤ 16 ∧ nv ≤ 12 ∧ Bds nf fa ∧ Bds nv se
/-- token i is come to -/
def EA (V : VH) (p i : Nat) : Prop := vI V 6 0 54 = nI (20000 * p + i)
section
variable {E : EE} {d : Nat} {V : VH} {p : Nat} {T : Nat → TK} {M : MN} {a b nf nv : Nat} {fa se : Nat → Int32}
theorem EM.fc {V' : VH} (h : EM V p T M a b fa se) (f : Fc V V' evS) : EM V' p T M a b fa se := ⟨h.1, h.2.1, fun j h1 h2 => by
  rw [f.i (fun z => by have := z.2; omega), f.i (fun z => by have := z.2; omega)]; exact h.2.2.1 j h1 h2, (funext fun k => f.i (fun z => by have := z.2; omega)).trans h.2.2.2.1, (funext fun k => f.i (fun z => by have := z.2; omega)).trans h.2.2.2.2⟩
theorem EM.kd {i : Nat} (h : EM V p T M a b fa se) (ha : EA V p i) (h1 : a ≤ i) (h2 : i < b) : vp_in (vI V 6 0 54) 100000 ∧ vI V 6 5 (Int32.toNatClampNeg (vI V 6 0 54)) = nI (T i).1 ∧ vI V 6 6 (Int32.toNatClampNeg (vI V 6 0 54)) = nuv T M i := by
  obtain ⟨hp, hb, hr, _⟩ := h
  rw [show vI V 6 0 54 = nI (20000 * p + i) from ha, nI_clamp (show 20000 * p + i < 2 ^ 31 by omega)]
  exact ⟨vp_in_nI (by omega) (by decide), hr i h1 h2⟩
theorem EA.st {i : Nat} (k : Nat) {x : Int32} (h : EA V p i) {V2 : VH} (e : V2 = wrI V 6 0 54 (vI V 6 0 54 + x)) (hx : x = nI k) : EA V2 p (i + k) ∧ Fc V V2 evS := by
  subst hx
  rw [e]
  refine ⟨?_, Fc_wrI ⟨rfl, Or.inl ⟨rfl, Or.inl rfl⟩⟩⟩
  show vI (wrI V 6 0 54 _) 6 0 54 = _
  rw [wrI_at, show vI V 6 0 54 = nI (20000 * p + i) from h, nI_add, Nat.add_assoc]
theorem kq {c : Nat} (m : Nat) (hc : c < 317) (hm : m < 1000) : nI c = nI m ↔ c = m := nI_eq (by omega) (by omega)
/-- a name: a fact or a value -/
def nvl (M : MN) (fa se : Nat → Int32) (k : Int64) : Int32 := match M k with
  | some q => if q.1 = 0 then fa q.2 else se q.2
  | none => 0
theorem ev_name {i : Nat} {q : Nat × Nat} {K : Int64 → VH → Prop} (hg : EG T M nf nv fa se) (h : EM V p T M a b fa se) (ha : EA V p i) (h1 : a ≤ i) (h2 : i < b) (h3 : (T i).1 = 1) (h4 : M (T i).2.1 = some q) (h5 : q.1 ≤ 1) (hk : ∀ V', Fc V V' evS → EA V' p (i + 1) → K (Int32.toInt64 (if q.1 = 0 then fa q.2 else se q.2)) V') : vMJ E d M_X12_nameValue [sl 6 0] V K := by
  obtain ⟨k1, k2, k3⟩ := h.kd ha h1 h2
  have eu : nuv T M i = nI (100 * q.1 + q.2) := by
    unfold nuv
    rw [if_pos h3, h4]
    rfl
  obtain ⟨m0, m1⟩ := hg.2.1 _ _ h4
  have nf16 := hg.2.2.1
  have nv12 := hg.2.2.2.1
  refine w_X12_nameValue_0 ⟨k1, fun V2 e2 => ?_⟩
  obtain ⟨a2, f2⟩ := ha.st 1 e2 rfl
  have hm := h.fc f2
  rw [k3, eu, hm.2.2.2.1, hm.2.2.2.2]
  have c : q.1 = 0 ∨ q.1 = 1 := by omega
  rcases c with c | c
  · have b1 := m0 c
    have kk := hk V2 f2 a2
    rw [if_pos c] at kk
    rw [c, Nat.mul_zero, Nat.zero_add, nI_clamp (show q.2 < 2 ^ 31 by omega)]
    exact ⟨fun _ => ⟨vp_in_nI (by omega) (by decide), kk⟩, fun z => absurd (nI_lt (b := 100) (by omega) (by decide)) z⟩
  · have b1 := m1 c
    have kk := hk V2 f2 a2
    rw [if_neg (by omega)] at kk
    have es : nI (100 * q.1 + q.2) - 100 = nI q.2 := by
      rw [c, show (100 : Int32) = nI 100 from rfl, nI_sub (by omega)]
      exact congrArg nI (by omega)
    rw [es, nI_clamp (show q.2 < 2 ^ 31 by omega)]
    exact ⟨fun z => absurd z (nI_nlt (b := 100) (by omega) (by omega)), fun _ => ⟨vp_in_nI (by omega) (by decide), kk⟩⟩
/-- a number with a sign, as it was read -/
theorem ev_int {i i1 lo hi : Nat} {sg : Bool} {x : Int32} {K : Int64 → VH → Prop} (hg : EG T M nf nv fa se) (h : EM V p T M a b fa se) (ha : EA V p i) (h1 : a ≤ i) (h2 : i1 ≤ b) (hs : sg = true) (hr : nmr T sg lo hi i = .inr (i1, x)) (hk : ∀ V', Fc V V' evS → EA V' p i1 → Bn 9999 x → K (Int32.toInt64 x) V') : vMJ E d M_X12_intValue [sl 6 0] V K := by
  subst hs
  unfold nmr at hr
  by_cases c2 : (T (nmj T true i)).1 = 2
  · rw [if_pos c2] at hr
    by_cases c3 : (T (nmj T true i)).2.2.1 < lo ∨ hi < (T (nmj T true i)).2.2.1
    · rw [if_pos c3] at hr; exact absurd hr (by simp)
    · rw [if_neg c3] at hr
      have hr' := Sum.inr.inj hr
      have e1 : nmj T true i + 1 = i1 := congrArg Prod.fst hr'
      have ex : (if nmj T true i = i then nI (T (nmj T true i)).2.2.1 else - nI (T (nmj T true i)).2.2.1) = x := congrArg Prod.snd hr'
      have b9 := (hg.1 (nmj T true i)).2 c2
      have bI9 : (nI (T (nmj T true i)).2.2.1).toInt = ((T (nmj T true i)).2.2.1 : Int) := Int32.toInt_ofNat_of_lt (by omega)
      by_cases c : (T i).1 = 45
      · have ej : nmj T true i = i + 1 := by unfold nmj; rw [if_pos ⟨rfl, c⟩]
        rw [ej] at e1 ex c2 bI9 b9
        rw [if_neg (by omega)] at ex
        obtain ⟨k1, k2, k3⟩ := h.kd ha h1 (by omega)
        have q45 : vI V 6 5 (Int32.toNatClampNeg (vI V 6 0 54)) = 45 := by rw [k2, c]; rfl
        refine w_X12_intValue_0 ⟨k1, fun z => absurd q45 z, fun _ => w_X12_intValue_19 ⟨fun z => absurd z (by decide), fun _ => w_X12_intValue_34 (fun V1 v1 => ?_)⟩⟩
        obtain ⟨a1, f1⟩ := ha.st 1 v1 rfl
        obtain ⟨m1, m2, m3⟩ := (h.fc f1).kd a1 (by omega) (by omega)
        refine ⟨m1, fun V3 v3 => ?_⟩
        obtain ⟨a3, f3⟩ := a1.st 1 v3 rfl
        have eu : nuv T M (i + 1) = nI (T (i + 1)).2.2.1 := by unfold nuv; rw [if_neg (by omega), if_pos c2]
        rw [m3, eu]
        refine ⟨fun z => absurd z (by decide), fun _ => ?_⟩
        rw [ex]
        refine hk V3 (f1.trans f3) (by rw [← e1]; exact a3) ?_
        rw [← ex]
        have en : (- nI (T (i + 1)).2.2.1).toInt = -((T (i + 1)).2.2.1 : Int) := by rw [Int32.toInt_neg, bI9]; exact Int.bmod_eq_of_le (by omega) (by omega)
        exact ⟨by rw [en]; omega, by rw [en]; omega⟩
      · have ej : nmj T true i = i := by unfold nmj; rw [if_neg (fun z => c z.2)]
        rw [ej] at e1 ex c2 bI9 b9
        rw [if_pos rfl] at ex
        obtain ⟨k1, k2, k3⟩ := h.kd ha h1 (by omega)
        have q45 : ¬ vI V 6 5 (Int32.toNatClampNeg (vI V 6 0 54)) = 45 := by rw [k2, c2]; decide
        refine w_X12_intValue_0 ⟨k1, fun _ => w_X12_intValue_19 ⟨fun _ => w_X12_intValue_34 (fun V1 v1 => ?_), fun z => absurd rfl z⟩, fun z => absurd z q45⟩
        obtain ⟨a1, f1⟩ := ha.st 0 v1 rfl
        obtain ⟨m1, m2, m3⟩ := (h.fc f1).kd a1 (by omega) (by omega)
        refine ⟨m1, fun V3 v3 => ?_⟩
        obtain ⟨a3, f3⟩ := a1.st 1 v3 rfl
        have eu : nuv T M (i + 0) = nI (T i).2.2.1 := by unfold nuv; rw [Nat.add_zero, if_neg (by omega), if_pos c2]
        rw [m3, eu]
        refine ⟨fun _ => ?_, fun z => absurd rfl z⟩
        rw [ex]
        refine hk V3 (f1.trans f3) (by rw [← e1]; exact a3) ?_
        rw [← ex]
        exact ⟨by rw [bI9]; omega, by rw [bI9]; omega⟩
  · rw [if_neg c2] at hr; exact absurd hr (by simp)
end
