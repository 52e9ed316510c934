/-! values of the reference: what is read says what the steps say -/
def nds (tag : Nat) : Nat := match tag with
  | 0 => 5
  | 1 => 5
  | 2 => 4
  | 3 => 3
  | 4 => 2
  | 5 => 1
  | _ => 0
/-- notes that stand from nb on -/
def Ntd (nt : Nat → Int32) (nb : Nat) (N : List Int32) : Prop := ∀ k, k < N.length → nt (nb + k) = N.getD k 0
theorem Ntd.app {nt : Nat → Int32} {nb : Nat} {A B : List Int32} (h : Ntd nt nb (A ++ B)) : Ntd nt nb A ∧ Ntd nt (nb + A.length) B := by
  refine ⟨fun k hk => ?_, fun k hk => ?_⟩
  · have := h k (by rw [List.length_append]; omega)
    rw [getD_appl, if_pos hk] at this
    exact this
  · have := h (A.length + k) (by rw [List.length_append]; omega)
    rw [getD_appl, if_neg (by omega), show A.length + k - A.length = k by omega] at this
    rw [Nat.add_assoc]
    exact this
def Tv (v : Int32) : Prop := 0 ≤ v.toInt ∧ v.toInt ≤ 2000001
def Sv (v : Int32) : Prop := Bn 1000000 v
theorem Tv.bn {v : Int32} (h : Tv v) : Bn 2000001 v := ⟨by have := h.1; omega, by have := h.2; omega⟩
def Bw (tag : Nat) (v : Int32) : Prop := match tag with
  | 0 => Tv v
  | 1 => Tv v
  | 2 => Tv v
  | 3 => Tv v
  | 11 => Tv v
  | 12 => Tv v
  | _ => Sv v
theorem rsB_inr {r : RS} {g : Nat → CD → List Int32 → RS} {q : Nat × CD × List Int32} (h : rsB r g = .inr q) : ∃ i1 C N, r = .inr (i1, C, N) ∧ g i1 C N = .inr q := by
  cases r with
  | inl e => exact nomatch (show (Sum.inl e : RS) = Sum.inr q from h)
  | inr u => exact ⟨u.1, u.2.1, u.2.2, rfl, h⟩
theorem nrB_inr {α β : Type} {r : NR α} {g : Nat → α → (Nat × Nat) ⊕ β} {q : β} (h : nrB r g = .inr q) : ∃ i1 x, r = .inr (i1, x) ∧ g i1 x = .inr q := by
  cases r with
  | inl e => exact nomatch (show (Sum.inl e : (Nat × Nat) ⊕ β) = Sum.inr q from h)
  | inr u => exact ⟨u.1, u.2, rfl, h⟩
theorem rsO_inr {i i1 : Nat} {C C' : CD} {N N' : List Int32} (h : rsO i C N = .inr (i1, C', N')) : i = i1 ∧ C = C' ∧ N = N' := by
  have h' : (i, C, N) = (i1, C', N') := Sum.inr.inj h
  exact ⟨congrArg Prod.fst h', congrArg (fun q => q.2.1) h', congrArg (fun q => q.2.2) h'⟩
theorem psh_lt {x : Int32} {st : List Int32} (h : st.length < 128) : psh x st = x :: st := if_neg (by omega)
section
variable {nt fa se : Nat → Int32} {st : List Int32} {o x u v : Int32}
theorem stp_2 (h : 8 ≤ o) (h2 : o < 22) (hs : st.length < 128) : stp nt fa se (o, x) (v :: u :: st) = on2 o u v :: st := by
  have a1 : (2 : Int32) < o := Int32.lt_of_lt_of_le (by decide) h
  have a2 : (7 : Int32) ≤ o := Int32.le_trans (by decide) h
  unfold stp
  dsimp only
  rw [if_pos a1, if_pos a2, if_neg (fun z => by subst z; exact absurd h (by decide)), if_neg (Int32.not_le.mpr h2)]
  exact psh_lt hs
theorem stp_1 (h : 2 < o) (h2 : o < 7) (hs : st.length < 128) : stp nt fa se (o, x) (v :: st) = on1 o v :: st := by
  unfold stp
  dsimp only
  rw [if_pos h, if_neg (Int32.not_le.mpr h2)]
  exact psh_lt hs
theorem stp_7 (hs : st.length < 128) : stp nt fa se (7, x) (v :: st) = pkx nt x.toNatClampNeg v :: st := by
  unfold stp
  dsimp only
  rw [if_pos (by decide), if_pos (by decide), if_pos rfl]
  exact psh_lt hs
theorem stp_s (h : 22 ≤ o) (hs : st.length < 128) : stp nt fa se (o, x) st = spx nt se o x.toNatClampNeg :: st := by
  have a1 : (2 : Int32) < o := Int32.lt_of_lt_of_le (by decide) h
  have a2 : (7 : Int32) ≤ o := Int32.le_trans (by decide) h
  unfold stp
  dsimp only
  rw [if_pos a1, if_pos a2, if_neg (fun z => by subst z; exact absurd h (by decide)), if_pos h]
  exact psh_lt hs
theorem stp_0 (h : ¬ 2 < o) (hs : st.length < 128) : stp nt fa se (o, x) st = lfv fa se o x :: st := by
  unfold stp
  dsimp only
  rw [if_neg h]
  exact psh_lt hs
end
/-- the methods; the places in their loops -/
def vB (E : EE) (d tag : Nat) (V : VH) (K : Int64 → VH → Prop) : Prop := match tag with
  | 0 => vMJ E d M_X12_testValue [sl 6 0] V K
  | 1 => vMJ E d M_X12_orValue [sl 6 0] V K
  | 2 => vMJ E d M_X12_andValue [sl 6 0] V K
  | 3 => vMJ E d M_X12_unitValue [sl 6 0] V K
  | 4 => vMJ E d M_X12_sumValue [sl 6 0] V K
  | 5 => vMJ E d M_X12_termValue [sl 6 0] V K
  | _ => vMJ E d M_X12_factorValue [sl 6 0] V K
def vLb (E : EE) (d tag : Nat) (v : Int32) (V : VH) (K : Int64 → VH → Prop) : Prop := match tag with
  | 11 => vwp E d M_X12_orValue 5 [some (sl 6 0), some (wj (Int32.toInt64 v)), none, none, none] [] V (zj K)
  | 12 => vwp E d M_X12_andValue 5 [some (sl 6 0), some (wj (Int32.toInt64 v)), none, none, none] [] V (zj K)
  | 14 => vwp E d M_X12_sumValue 5 [some (sl 6 0), some (wj (Int32.toInt64 v)), none, none, none, none] [] V (zj K)
  | 15 => vwp E d M_X12_termValue 5 [some (sl 6 0), some (wj (Int32.toInt64 v)), none] [] V (zj K)
  | 17 => vwp E d M_X12_factorValue 131 [some (sl 6 0), some (wi 314), some (wj (Int32.toInt64 v)), none, none, none, none, none, none, none] [] V (zj K)
  | _ => vwp E d M_X12_factorValue 131 [some (sl 6 0), some (wi 315), some (wj (Int32.toInt64 v)), none, none, none, none, none, none, none] [] V (zj K)
def PV (E : EE) (p : Nat) (T : Nat → TK) (M : MN) (L nf nv : Nat) (fa se nt : Nat → Int32) (f tag x o : Nat) : Prop := ∀ (d i nb i1 : Nat) (C : CD) (N st : List Int32), 20 + 10 * (13 - o) + rkD tag ≤ d → o ≤ 12 → i ≤ L → nb ≤ i → i1 < L → 8 * (L - i) + rnk tag < f → prz T M f tag x o i nb = .inr (i1, C, N) → Ntd nt nb N → st.length + nds tag + 1 + 6 * (12 - o) ≤ 128 → ∃ v, exc nt (cut nf fa) (cut nv se) C st = v :: st ∧ Bw tag v ∧ ∀ (V : VH) (K : Int64 → VH → Prop), EM V p T M 0 L fa se → EA V p i → (∀ V', Fc V V' evS → EA V' p i1 → K (Int32.toInt64 v) V') → vB E d tag V K
def PL (E : EE) (p : Nat) (T : Nat → TK) (M : MN) (L nf nv : Nat) (fa se nt : Nat → Int32) (f tag x o : Nat) : Prop := ∀ (d i nb i1 : Nat) (C : CD) (N st : List Int32) (u : Int32), 20 + 10 * (13 - o) + rkD tag ≤ d → o ≤ 12 → i ≤ L → nb ≤ i → i1 < L → 8 * (L - i) + rnk tag < f → prz T M f tag x o i nb = .inr (i1, C, N) → Ntd nt nb N → st.length + 1 + nds (lps tag) + 1 + 6 * (12 - o) ≤ 128 → Bw tag u → ∃ v, exc nt (cut nf fa) (cut nv se) C (u :: st) = v :: st ∧ Bw tag v ∧ (tag ≤ 15 → lpo tag (T i1).1 = none) ∧ ∀ (V : VH) (K : Int64 → VH → Prop), EM V p T M 0 L fa se → EA V p i → (∀ V', Fc V V' evS → EA V' p i1 → vLb E d tag v V' K) → vLb E d tag u V K
section
variable {E : EE} {p : Nat} {T : Nat → TK} {M : MN} {L nf nv : Nat} {fa se nt : Nat → Int32} {f o : Nat}
theorem imin_b {P : Int32 → Prop} {x y : Int32} (hx : P x) (hy : P y) : P (imin x y) := by unfold imin; split <;> assumption
theorem imax_b {P : Int32 → Prop} {x y : Int32} (hx : P x) (hy : P y) : P (imax x y) := by unfold imax; split <;> assumption
theorem imin_l {x y : Int32} (h : x ≤ y) : imin x y = x := if_neg (Int32.not_lt.mpr h)
theorem imin_r {x y : Int32} (h : ¬ x ≤ y) : imin x y = y := if_pos (Int32.not_le.mp h)
theorem imax_l {x y : Int32} (h : y ≤ x) : imax x y = x := if_neg (Int32.not_lt.mpr h)
theorem imax_r {x y : Int32} (h : ¬ y ≤ x) : imax x y = y := if_pos (Int32.not_le.mp h)
theorem and_b {x y : Int32} (hx : Tv x) (hy : Tv y) : Tv (imin 1000000 (x + y)) := by
  have e := (j_add hx.bn hy.bn (by decide)).2
  have h1 : (1000000 : Int32).toInt = 1000000 := by decide
  by_cases c : (1000000 : Int32) ≤ x + y
  · rw [imin_l c]; exact ⟨by rw [h1]; decide, by rw [h1]; decide⟩
  · rw [imin_r c]
    have := fun q => c (i_le.mpr q)
    have c' : ¬ (1000000 : Int32).toInt ≤ (x + y).toInt := this
    rw [h1] at c'
    have := hx.1
    have := hy.1
    exact ⟨by omega, by omega⟩
/-- one round of a loop, once its sign stands there -/
def Rnd (E : EE) (d tag : Nat) (op : Int32) (u : Int32) (p i i' : Nat) (V : VH) (K : Int64 → VH → Prop) : Prop := ∀ (v : Int32), Bw (lps tag) v → (∀ (V1 : VH) (K1 : Int64 → VH → Prop), Fc V V1 evS → EA V1 p (i + 1) → (∀ V', Fc V1 V' evS → EA V' p i' → K1 (Int32.toInt64 v) V') → vB E (d - 1) (lps tag) V1 K1) → (∀ V', Fc V V' evS → EA V' p i' → vLb E d tag (on2 op u v) V' K) → vLb E d tag u V K
theorem lpo_17 {c : Nat} {op : Int32} (h : lpo 17 c = some op) : c = 44 ∧ op = 11 := by
  unfold lpo at h
  by_cases q : c = 44
  · rw [if_neg (by decide), if_neg (by decide), if_neg (by decide), if_neg (by decide), if_pos rfl, if_pos q] at h; exact ⟨q, (Option.some.inj h).symm⟩
  · rw [if_neg (by decide), if_neg (by decide), if_neg (by decide), if_neg (by decide), if_pos rfl, if_neg q] at h; exact absurd h (fun z => nomatch z)
theorem lpo_18 {c : Nat} {op : Int32} (h : lpo 18 c = some op) : c = 44 ∧ op = 12 := by
  unfold lpo at h
  by_cases q : c = 44
  · rw [if_neg (by decide), if_neg (by decide), if_neg (by decide), if_neg (by decide), if_neg (by decide), if_pos q] at h; exact ⟨q, (Option.some.inj h).symm⟩
  · rw [if_neg (by decide), if_neg (by decide), if_neg (by decide), if_neg (by decide), if_neg (by decide), if_neg q] at h; exact absurd h (fun z => nomatch z)
theorem lpo_11 {c : Nat} {op : Int32} (h : lpo 11 c = some op) : c = 124 ∧ op = 20 := by
  unfold lpo at h
  by_cases q : c = 124
  · rw [if_pos rfl, if_pos q] at h; exact ⟨q, (Option.some.inj h).symm⟩
  · rw [if_pos rfl, if_neg q] at h; exact absurd h (fun z => nomatch z)
theorem lpo_12 {c : Nat} {op : Int32} (h : lpo 12 c = some op) : c = 38 ∧ op = 19 := by
  unfold lpo at h
  by_cases q : c = 38
  · rw [if_neg (by decide), if_pos rfl, if_pos q] at h; exact ⟨q, (Option.some.inj h).symm⟩
  · rw [if_neg (by decide), if_pos rfl, if_neg q] at h; exact absurd h (fun z => nomatch z)
theorem lpo_15 {c : Nat} {op : Int32} (h : lpo 15 c = some op) : c = 42 ∧ op = 10 := by
  unfold lpo at h
  by_cases q : c = 42
  · rw [if_neg (by decide), if_neg (by decide), if_neg (by decide), if_pos rfl, if_pos q] at h; exact ⟨q, (Option.some.inj h).symm⟩
  · rw [if_neg (by decide), if_neg (by decide), if_neg (by decide), if_pos rfl, if_neg q] at h; exact absurd h (fun z => nomatch z)
theorem lpo_14 {c : Nat} {op : Int32} (h : lpo 14 c = some op) : (c = 43 ∧ op = 8) ∨ (c = 45 ∧ op = 9) := by
  unfold lpo at h
  rw [if_neg (by decide), if_neg (by decide), if_pos rfl] at h
  by_cases q : c = 43
  · rw [if_pos q] at h; exact Or.inl ⟨q, (Option.some.inj h).symm⟩
  · rw [if_neg q] at h
    by_cases q2 : c = 45
    · rw [if_pos q2] at h; exact Or.inr ⟨q2, (Option.some.inj h).symm⟩
    · rw [if_neg q2] at h; exact absurd h (fun z => nomatch z)
theorem rnd_11 {d i i' : Nat} {u : Int32} {V : VH} {K : Int64 → VH → Prop} (h0 : 0 < d) (h : EM V p T M 0 L fa se) (ha : EA V p i) (hi : i < L) (hc : (T i).1 = 124) : Rnd E d 11 20 u p i i' V K := by
  intro v bv sub hk
  obtain ⟨k1, k2, _⟩ := h.kd ha (Nat.zero_le _) hi
  show vwp E d M_X12_orValue 5 _ [] V (zj K)
  refine w_X12_orValue_5 h0 ⟨k1, fun z => absurd (by rw [k2, hc]; rfl) z, fun _ V2 e2 => ?_⟩
  obtain ⟨a2, f2⟩ := ha.st 1 e2 rfl
  refine sub V2 _ f2 a2 (fun V3 f3 a3 => ?_)
  have kk := hk V3 (f2.trans f3) a3
  rw [on2_20] at kk
  refine ⟨fun q => w_X12_orValue_45 ?_, fun q => w_X12_orValue_45 ?_⟩
  · rw [imin_l (j_le.mp q)] at kk; exact kk
  · rw [imin_r (fun z => q (j_le.mpr z))] at kk; exact kk
theorem rnd_12 {d i i' : Nat} {u : Int32} {V : VH} {K : Int64 → VH → Prop} (h0 : 0 < d) (h : EM V p T M 0 L fa se) (ha : EA V p i) (hi : i < L) (hc : (T i).1 = 38) (hu : Tv u) : Rnd E d 12 19 u p i i' V K := by
  intro v bv sub hk
  have bv' : Tv v := bv
  obtain ⟨k1, k2, _⟩ := h.kd ha (Nat.zero_le _) hi
  show vwp E d M_X12_andValue 5 _ [] V (zj K)
  refine w_X12_andValue_5 h0 ⟨k1, fun z => absurd (by rw [k2, hc]; rfl) z, fun _ V2 e2 => ?_⟩
  obtain ⟨a2, f2⟩ := ha.st 1 e2 rfl
  refine sub V2 _ f2 a2 (fun V3 f3 a3 => ?_)
  have kk := hk V3 (f2.trans f3) a3
  rw [on2_19] at kk
  have es := (j_add hu.bn bv'.bn (by decide)).1
  rw [← es]
  have em : (1000000 : Int64) = Int32.toInt64 1000000 := rfl
  refine ⟨fun q => w_X12_andValue_53 ?_, fun q => w_X12_andValue_53 ?_⟩
  · rw [em] at q
    have q' := j_le.mp q
    by_cases c : (1000000 : Int32) ≤ u + v
    · rw [imin_l c] at kk
      have : u + v = 1000000 := Int32.le_antisymm q' c
      rw [this]; exact kk
    · rw [imin_r c] at kk; exact kk
  · rw [em] at q
    have q' : ¬ u + v ≤ 1000000 := fun z => q (j_le.mpr z)
    rw [imin_l (Int32.le_of_lt (Int32.not_le.mp q'))] at kk
    rw [em]; exact kk
theorem rnd_14 {d i i' : Nat} {u op : Int32} {V : VH} {K : Int64 → VH → Prop} (h0 : 0 < d) (h : EM V p T M 0 L fa se) (ha : EA V p i) (hi : i < L) (hc : ((T i).1 = 43 ∧ op = 8) ∨ ((T i).1 = 45 ∧ op = 9)) : Rnd E d 14 op u p i i' V K := by
  intro v bv sub hk
  obtain ⟨k1, k2, _⟩ := h.kd ha (Nat.zero_le _) hi
  show vwp E d M_X12_sumValue 5 _ [] V (zj K)
  rcases hc with ⟨hc, e⟩ | ⟨hc, e⟩
  · subst e
    have q43 : vI V 6 5 (Int32.toNatClampNeg (vI V 6 0 54)) = 43 := by rw [k2, hc]; rfl
    have q45 : ¬ vI V 6 5 (Int32.toNatClampNeg (vI V 6 0 54)) = 45 := by rw [q43]; decide
    refine w_X12_sumValue_5 ⟨k1, fun _ => ?_, fun z => absurd q43 z⟩
    refine w_X12_sumValue_33 ⟨k1, fun _ => w_X12_sumValue_52 h0 (fun V2 e2 => ?_), fun z => absurd z q45⟩
    obtain ⟨a2, f2⟩ := ha.st 1 e2 rfl
    refine sub V2 _ f2 a2 (fun V3 f3 a3 => ⟨fun _ => w_X12_sumValue_84 h0 (ev_held ?_), fun z => absurd rfl z⟩)
    have kk := hk V3 (f2.trans f3) a3
    rw [on2_8] at kk
    exact kk
  · subst e
    have q45 : vI V 6 5 (Int32.toNatClampNeg (vI V 6 0 54)) = 45 := by rw [k2, hc]; rfl
    have q43 : ¬ vI V 6 5 (Int32.toNatClampNeg (vI V 6 0 54)) = 43 := by rw [q45]; decide
    refine w_X12_sumValue_5 ⟨k1, fun z => absurd z q43, fun _ => ⟨k1, fun z => absurd q45 z, fun _ => ?_⟩⟩
    refine w_X12_sumValue_33 ⟨k1, fun z => absurd q45 z, fun _ => w_X12_sumValue_52 h0 (fun V2 e2 => ?_)⟩
    obtain ⟨a2, f2⟩ := ha.st 1 e2 rfl
    refine sub V2 _ f2 a2 (fun V3 f3 a3 => ⟨fun z => absurd z (by decide), fun _ => w_X12_sumValue_84 h0 (ev_held ?_)⟩)
    have kk := hk V3 (f2.trans f3) a3
    rw [on2_9] at kk
    exact kk
theorem rnd_15 {d i i' : Nat} {u : Int32} {V : VH} {K : Int64 → VH → Prop} (h0 : 0 < d) (h : EM V p T M 0 L fa se) (ha : EA V p i) (hi : i < L) (hc : (T i).1 = 42) : Rnd E d 15 10 u p i i' V K := by
  intro v bv sub hk
  obtain ⟨k1, k2, _⟩ := h.kd ha (Nat.zero_le _) hi
  show vwp E d M_X12_termValue 5 _ [] V (zj K)
  refine w_X12_termValue_5 h0 ⟨k1, fun z => absurd (by rw [k2, hc]; rfl) z, fun _ V2 e2 => ?_⟩
  obtain ⟨a2, f2⟩ := ha.st 1 e2 rfl
  refine sub V2 _ f2 a2 (fun V3 f3 a3 => ev_held ?_)
  have kk := hk V3 (f2.trans f3) a3
  rw [on2_10] at kk
  exact kk
theorem rnd_17 {d i i' : Nat} {u : Int32} {V : VH} {K : Int64 → VH → Prop} (h0 : 0 < d) (h : EM V p T M 0 L fa se) (ha : EA V p i) (hi : i < L) (hc : (T i).1 = 44) : Rnd E d 17 11 u p i i' V K := by
  intro v bv sub hk
  obtain ⟨k1, k2, _⟩ := h.kd ha (Nat.zero_le _) hi
  show vwp E d M_X12_factorValue 131 _ [] V (zj K)
  refine w_X12_factorValue_131 h0 ⟨k1, fun z => absurd (by rw [k2, hc]; rfl) z, fun _ V2 e2 => ?_⟩
  obtain ⟨a2, f2⟩ := ha.st 1 e2 rfl
  refine sub V2 _ f2 a2 (fun V3 f3 a3 => ⟨fun z => absurd rfl z, fun _ => ?_⟩)
  have kk := hk V3 (f2.trans f3) a3
  rw [on2_11] at kk
  refine ⟨fun q => w_X12_factorValue_197 ?_, fun q => w_X12_factorValue_197 ?_⟩
  · rw [imin_l (j_le.mp q)] at kk; exact kk
  · rw [imin_r (fun z => q (j_le.mpr z))] at kk; exact kk
theorem rnd_18 {d i i' : Nat} {u : Int32} {V : VH} {K : Int64 → VH → Prop} (h0 : 0 < d) (h : EM V p T M 0 L fa se) (ha : EA V p i) (hi : i < L) (hc : (T i).1 = 44) : Rnd E d 18 12 u p i i' V K := by
  intro v bv sub hk
  obtain ⟨k1, k2, _⟩ := h.kd ha (Nat.zero_le _) hi
  show vwp E d M_X12_factorValue 131 _ [] V (zj K)
  refine w_X12_factorValue_131 h0 ⟨k1, fun z => absurd (by rw [k2, hc]; rfl) z, fun _ V2 e2 => ?_⟩
  obtain ⟨a2, f2⟩ := ha.st 1 e2 rfl
  refine sub V2 _ f2 a2 (fun V3 f3 a3 => ⟨fun _ => ?_, fun z => absurd z (by decide)⟩)
  have kk := hk V3 (f2.trans f3) a3
  rw [on2_12] at kk
  refine ⟨fun q => w_X12_factorValue_197 ?_, fun q => w_X12_factorValue_197 ?_⟩
  · rw [imax_l (j_le.mp q)] at kk; exact kk
  · rw [imax_r (fun z => q (j_le.mpr z))] at kk; exact kk
/-- any loop's round; the step's value is bounded; which steps there are -/
theorem rnd_all {d i i' tag : Nat} {u op : Int32} {V : VH} {K : Int64 → VH → Prop} (ht : tag = 11 ∨ tag = 12 ∨ tag = 14 ∨ tag = 15 ∨ tag = 17 ∨ tag = 18) (h0 : 0 < d) (h : EM V p T M 0 L fa se) (ha : EA V p i) (hi : i < L) (hl : lpo tag (T i).1 = some op) (hu : Bw tag u) : Rnd E d tag op u p i i' V K := by
  rcases ht with rfl | rfl | rfl | rfl | rfl | rfl
  · obtain ⟨c, rfl⟩ := lpo_11 hl; exact rnd_11 h0 h ha hi c
  · obtain ⟨c, rfl⟩ := lpo_12 hl; exact rnd_12 h0 h ha hi c hu
  · exact rnd_14 h0 h ha hi (lpo_14 hl)
  · obtain ⟨c, rfl⟩ := lpo_15 hl; exact rnd_15 h0 h ha hi c
  · obtain ⟨c, rfl⟩ := lpo_17 hl; exact rnd_17 h0 h ha hi c
  · obtain ⟨c, rfl⟩ := lpo_18 hl; exact rnd_18 h0 h ha hi c
theorem rnd_b {tag c : Nat} {u v op : Int32} (ht : tag = 11 ∨ tag = 12 ∨ tag = 14 ∨ tag = 15 ∨ tag = 17 ∨ tag = 18) (hl : lpo tag c = some op) (hu : Bw tag u) (hv : Bw (lps tag) v) : Bw tag (on2 op u v) ∧ 8 ≤ op ∧ op < 22 := by
  rcases ht with rfl | rfl | rfl | rfl | rfl | rfl
  · obtain ⟨c, rfl⟩ := lpo_11 hl
    rw [on2_20]
    exact ⟨imin_b (P := Tv) hu hv, by decide, by decide⟩
  · obtain ⟨c, rfl⟩ := lpo_12 hl
    rw [on2_19]
    exact ⟨and_b hu hv, by decide, by decide⟩
  · rcases lpo_14 hl with ⟨c, rfl⟩ | ⟨c, rfl⟩
    · rw [on2_8]; exact ⟨hld_b _, by decide, by decide⟩
    · rw [on2_9]; exact ⟨hld_b _, by decide, by decide⟩
  · obtain ⟨c, rfl⟩ := lpo_15 hl
    rw [on2_10]
    exact ⟨hld_b _, by decide, by decide⟩
  · obtain ⟨c, rfl⟩ := lpo_17 hl
    rw [on2_11]
    exact ⟨imin_b (P := Sv) hu hv, by decide, by decide⟩
  · obtain ⟨c, rfl⟩ := lpo_18 hl
    rw [on2_12]
    exact ⟨imax_b (P := Sv) hu hv, by decide, by decide⟩
/-- loops -/
theorem PL_loop {tag x : Nat} (hT : TL T L) (ht : tag = 11 ∨ tag = 12 ∨ tag = 14 ∨ tag = 15 ∨ tag = 17 ∨ tag = 18) (h1 : PV E p T M L nf nv fa se nt f (lps tag) 0 o) (h2 : PL E p T M L nf nv fa se nt f tag (x - 1) o) : PL E p T M L nf nv fa se nt (f + 1) tag x o := by
  intro d i nb i1 C N st u hd ho hi hnb hi1 hf e hN hs hu
  have t11 : 11 ≤ tag := by omega
  rw [prs_l t11] at e
  have r0 : rnk tag = 0 := by rcases ht with rfl | rfl | rfl | rfl | rfl | rfl <;> rfl
  have rl : rnk (lps tag) ≤ 5 ∧ (lps tag ≤ 6 ∨ 11 ≤ lps tag) ∧ lps tag ≤ 6 := by rcases ht with rfl | rfl | rfl | rfl | rfl | rfl <;> decide
  have rd : rkD (lps tag) + 1 ≤ rkD tag := by rcases ht with rfl | rfl | rfl | rfl | rfl | rfl <;> decide
  cases hl : lpo tag (T i).1 with
  | none =>
    rw [hl] at e
    obtain ⟨e1, e2, e3⟩ := rsO_inr e
    subst e1; subst e2
    exact ⟨u, rfl, hu, fun _ => hl, fun V K _ ha hk => hk V Fc.refl ha⟩
  | some op =>
    rw [hl] at e
    dsimp only at e
    by_cases cx : tag ≤ 15 ∨ x ≠ 0
    · rw [if_pos cx] at e
      obtain ⟨j1, C1, N1, p1, e⟩ := rsB_inr e
      obtain ⟨j2, C2, N2, p2, e⟩ := rsB_inr e
      obtain ⟨e1, e2, e3⟩ := rsO_inr e
      subst e1; subst e2; subst e3
      have iL : i < L := by
        by_cases c : i = L
        · exfalso
          have := hT.2
          rw [← c] at this
          rcases ht with rfl | rfl | rfl | rfl | rfl | rfl
          · have := (lpo_11 hl).1; omega
          · have := (lpo_12 hl).1; omega
          · have := lpo_14 hl; omega
          · have := (lpo_15 hl).1; omega
          · have := (lpo_17 hl).1; omega
          · have := (lpo_18 hl).1; omega
        · omega
      obtain ⟨g1, g2, g3, g4⟩ := prs_ok hT (by omega) rl.2.1 (by omega) p1
      rw [if_pos rl.2.2] at g1
      obtain ⟨g5, g6, _, _⟩ := prs_ok hT g2 (Or.inr t11) (by omega) p2
      rw [if_neg (by omega)] at g5
      obtain ⟨n1, n2⟩ := hN.app
      obtain ⟨v1, x1, b1, c1⟩ := h1 (d - 1) (i + 1) nb j1 C1 N1 (u :: st) (by omega) ho (by omega) (by omega) (by omega) (by omega) p1 n1 (by rw [List.length_cons]; omega)
      obtain ⟨b2, o1, o2⟩ := rnd_b ht hl hu b1
      obtain ⟨v2, x2, b3, ln, c2⟩ := h2 d j1 (nb + N1.length) j2 C2 N2 st (on2 op u v1) hd ho g2 (by omega) hi1 (by omega) p2 n2 hs b2
      refine ⟨v2, ?_, b3, ln, fun V K hm ha hk => ?_⟩
      · rw [exc_app, x1, exc_cons, stp_2 o1 o2 (by omega), x2]
      · refine rnd_all ht (by omega) hm ha iL hl hu v1 b1 (fun V1 K1 f1 a1 k1 => c1 V1 K1 (hm.fc f1) a1 (fun V' f' a' => k1 V' f' a')) (fun V' f' a' => ?_)
        exact c2 V' K (hm.fc f') a' (fun V2 f2 a2 => hk V2 (f'.trans f2) a2)
    · rw [if_neg cx] at e
      obtain ⟨e1, e2, e3⟩ := rsO_inr e
      subst e1; subst e2
      exact ⟨u, rfl, hu, fun z => absurd (Or.inl z) cx, fun V K _ ha hk => hk V Fc.refl ha⟩
end
