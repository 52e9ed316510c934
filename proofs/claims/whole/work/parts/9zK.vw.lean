/-! special tests of the reference: apart -/
def b1n (b : Bool) : Nat := if b = true then 1 else 0
def orj (O : Nat → Nat → Bool) (i : Nat) : Nat → Nat
  | 0 => 0
  | j + 1 => orj O i j + b1n (O i j)
def ork (O : Nat → Nat → Bool) : Nat → Nat
  | 0 => 0
  | i + 1 => ork O i + orj O i i
def colz (O : Nat → Nat → Bool) (n : Nat) : Nat → Nat → Nat
  | 0, _ => 0
  | k + 1, i => b1n (O i n) + colz O n k (i + 1)
theorem colz_end {O : Nat → Nat → Bool} {n : Nat} : ∀ (k i : Nat), colz O n (k + 1) i = colz O n k i + b1n (O (i + k) n) := by
  intro k
  induction k with
  | zero => intro i; rw [colz, colz, colz]; rw [Nat.add_zero i, Nat.add_comm]
  | succ k ih =>
    intro i
    rw [colz, ih (i + 1), colz, show i + 1 + k = i + (k + 1) by omega]
    omega
theorem ocj_end {O : Nat → Nat → Bool} {i : Nat} : ∀ (k j : Nat), ocj O i (k + 1) j = ocj O i k j + b1n (O i (j + k)) := by
  intro k
  induction k with
  | zero => intro j; rw [ocj, ocj, ocj, Nat.add_zero j, Nat.add_comm]; rfl
  | succ k ih =>
    intro j
    rw [ocj, ih (j + 1), ocj, show j + 1 + k = j + (k + 1) by omega]
    omega
theorem oci_end {O : Nat → Nat → Bool} : ∀ (k i : Nat), oci O (k + 1) i = oci O k i + colz O (i + k) k i := by
  intro k
  induction k with
  | zero => intro i; rw [oci, oci, oci, colz, ocj]
  | succ k ih =>
    intro i
    have h1 : oci O (k + 1 + 1) i = ocj O i (k + 1) (i + 1) + oci O (k + 1) (i + 1) := by rw [oci]
    have h2 : oci O (k + 1) i = ocj O i k (i + 1) + oci O k (i + 1) := by rw [oci]
    have h3 : colz O (i + (k + 1)) (k + 1) i = b1n (O i (i + (k + 1))) + colz O (i + (k + 1)) k (i + 1) := by rw [colz]
    have h4 := ih (i + 1)
    rw [show i + 1 + k = i + (k + 1) by omega] at h4
    have h5 := ocj_end (O := O) (i := i) k (i + 1)
    rw [show i + 1 + k = i + (k + 1) by omega] at h5
    rw [h1, h2, h3, h4, h5]
    omega
theorem orj_col {O : Nat → Nat → Bool} (hs : ∀ i j, O i j = O j i) (n : Nat) : ∀ k, colz O n k 0 = orj O n k := by
  intro k
  induction k with
  | zero => rfl
  | succ k ih => rw [colz_end, ih, orj, Nat.zero_add, hs k n]
theorem oci_ork {O : Nat → Nat → Bool} (hs : ∀ i j, O i j = O j i) : ∀ m, oci O m 0 = ork O m := by
  intro m
  induction m with
  | zero => rfl
  | succ m ih => rw [oci_end, ih, ork, Nat.zero_add, orj_col hs]
theorem orj_le (O : Nat → Nat → Bool) (i : Nat) : ∀ j, orj O i j ≤ j := by
  intro j
  induction j with
  | zero => exact Nat.le_refl 0
  | succ j ih => rw [orj]; unfold b1n; split <;> omega
theorem ork_le (O : Nat → Nat → Bool) : ∀ m, m ≤ 40 → ork O m ≤ 40 * m := by
  intro m
  induction m with
  | zero => intro _; exact Nat.le_refl 0
  | succ m ih => intro h; have := ih (by omega); have := orj_le O m m; rw [ork]; omega
theorem ovl_sym (a w : Nat → Int32) (i j : Nat) : ovl a w i j = ovl a w j i := by unfold ovl; exact Bool.and_comm _ _
theorem ov2_sym (a b w h : Nat → Int32) (i j : Nat) : ov2 a b w h i j = ov2 a b w h j i := by unfold ov2; rw [ovl_sym a w i j, ovl_sym b h i j]
def AP (V : VH) (n : Nat) (a b wd ht : Nat → Int32) : Prop := ∀ r, r < n → vJ V 6 39 r = Int32.toInt64 (a r) ∧ vJ V 6 40 r = Int32.toInt64 (b r) ∧ vJ V 6 42 r = Int32.toInt64 (wd r) ∧ vJ V 6 41 r = Int32.toInt64 (ht r) ∧ Bn 9999 (a r) ∧ Bn 9999 (b r) ∧ Bn 9999 (wd r) ∧ Bn 9999 (ht r)
section
variable {E : EE} {d : Nat} {p : Nat} {T : Nat → TK} {M : MN} {L nf nv : Nat} {fa se nt : Nat → Int32}
theorem ev_apartV {V : VH} {K : Int64 → VH → Prop} {m : Nat} {x : Int32} {a b wd ht : Nat → Int32} (hm : m ≤ 40) (hb : AP V m a b wd ht) (hk : K (Int32.toInt64 (nI (ork (ov2 a b wd ht) m))) V) : vwp E d M_X12_apartValue 141 [some (sl 6 0), some (wi (nI m)), some (wi x), some (wj 0), none, some (wi 0), none, none, none] [] V (zj K) := by
  have ol := ork_le (ov2 a b wd ht) m hm
  rw [i2l_nI (by omega)] at hk
  have go1 : ∀ (k i : Nat), i + k = m → vwp E d M_X12_apartValue 141 [some (sl 6 0), some (wi (nI m)), some (wi x), some (wj (nL (ork (ov2 a b wd ht) i))), none, some (wi (nI i)), none, none, none] [] V (zj K) := by
    intro k
    induction k with
    | zero =>
      intro i ei
      have : i = m := by omega
      subst this
      exact w_X12_apartValue_141 ⟨fun _ => hk, fun q => absurd (nI_le (Nat.le_refl _) (by omega)) q⟩
    | succ k ih =>
      intro i ei
      have pi : vp_in (nI i) 40 := vp_in_nI (by omega) (by decide)
      refine w_X12_apartValue_141 ⟨fun q => absurd q (nI_ge (by omega) (by omega)), fun _ => ?_⟩
      obtain ⟨ai, bi, wi', hi', ba, bb, bw, bh⟩ := hb i (by omega)
      have go2 : ∀ (f j : Nat), j + f = i → vwp E d M_X12_apartValue 150 [some (sl 6 0), some (wi (nI m)), some (wi x), some (wj (nL (ork (ov2 a b wd ht) i + orj (ov2 a b wd ht) i j))), none, some (wi (nI i)), some (wi (nI j)), none, none] [] V (zj K) := by
        intro f
        induction f with
        | zero =>
          intro j ej
          have : j = i := by omega
          subst this
          refine w_X12_apartValue_150 ⟨fun _ => ?_, fun q => absurd (nI_le (Nat.le_refl _) (by omega)) q⟩
          have nx := ih (j + 1) (by omega)
          rw [ork] at nx
          rw [nI_1]
          exact nx
        | succ f ihf =>
          intro j ej
          have pj : vp_in (nI j) 40 := vp_in_nI (by omega) (by decide)
          obtain ⟨aj, bj, wj', hj', ca, cb, cw, ch⟩ := hb j (by omega)
          have s1 := (j_add (B := 10000) (ca.mono (by decide)) (cw.mono (by decide)) (by decide)).1
          have s2 := (j_add (B := 10000) (ba.mono (by decide)) (bw.mono (by decide)) (by decide)).1
          have s3 := (j_add (B := 10000) (cb.mono (by decide)) (ch.mono (by decide)) (by decide)).1
          have s4 := (j_add (B := 10000) (bb.mono (by decide)) (bh.mono (by decide)) (by decide)).1
          have nx := ihf (j + 1) (by omega)
          rw [orj, ← Nat.add_assoc] at nx
          have fin : ∀ p q : Bool, ovl a wd i j = p → ovl b ht i j = q → vwp E d M_X12_apartValue 273 [some (sl 6 0), some (wi (nI m)), some (wi x), some (wj (nL (ork (ov2 a b wd ht) i + orj (ov2 a b wd ht) i j))), none, some (wi (nI i)), some (wi (nI j)), some (wi (bI p)), none] [wi (bI q)] V (zj K) := by
            intro p q ep eq
            have eo : ov2 a b wd ht i j = (p && q) := by unfold ov2; rw [ep, eq]
            rw [eo] at nx
            have z0 : ∀ t : Int32, (p && q) = false → vwp E d M_X12_apartValue 290 [some (sl 6 0), some (wi (nI m)), some (wi x), some (wj (nL (ork (ov2 a b wd ht) i + orj (ov2 a b wd ht) i j))), none, some (wi (nI i)), some (wi (nI j)), some (wi (bI p)), some (wi t)] [wj (nL (ork (ov2 a b wd ht) i + orj (ov2 a b wd ht) i j))] V (zj K) := by
              intro t e0
              rw [e0] at nx
              refine w_X12_apartValue_290 (w_X12_apartValue_291 ?_)
              rw [nI_1, Int64.add_zero]
              exact nx
            refine w_X12_apartValue_273 ⟨fun z => z0 _ (by rw [bI_0.mp z]; rfl), fun z => ⟨fun z1 => z0 _ (by rw [bI_0.mp z1, Bool.and_false]), fun z1 => w_X12_apartValue_291 ?_⟩⟩
            have p1 : p = true := by cases p with
              | true => rfl
              | false => exact absurd rfl z
            have q1 : q = true := by cases q with
              | true => rfl
              | false => exact absurd rfl z1
            rw [p1, q1] at nx
            rw [nI_1, show nL (ork (ov2 a b wd ht) i + orj (ov2 a b wd ht) i j) + 1 = nL (ork (ov2 a b wd ht) i + orj (ov2 a b wd ht) i j + 1) from (Int64.ofNat_add _ 1).symm]
            exact nx
          have second : ∀ p : Bool, ovl a wd i j = p → vwp E d M_X12_apartValue 214 [some (sl 6 0), some (wi (nI m)), some (wi x), some (wj (nL (ork (ov2 a b wd ht) i + orj (ov2 a b wd ht) i j))), none, some (wi (nI i)), some (wi (nI j)), none, none] [wi (bI p)] V (zj K) := by
            intro p ep
            have no : ovl b ht i j = false → vwp E d M_X12_apartValue 272 [some (sl 6 0), some (wi (nI m)), some (wi x), some (wj (nL (ork (ov2 a b wd ht) i + orj (ov2 a b wd ht) i j))), none, some (wi (nI i)), some (wi (nI j)), some (wi (bI p)), none] [] V (zj K) := fun eq => w_X12_apartValue_272 (fin p false ep eq)
            refine w_X12_apartValue_214 ⟨pi, pj, pj, ?_⟩
            rw [nI_clamp (show i < 2 ^ 31 by omega), nI_clamp (show j < 2 ^ 31 by omega), bi, bj, hi', hj', ← s3, ← s4]
            refine ⟨fun q => no (by unfold ovl; rw [decide_eq_true (j_le.mp q)]; rfl), fun q => ⟨pj, pi, pi, fun q1 => no (by unfold ovl; rw [decide_eq_true (j_le.mp q1), Bool.not_true, Bool.and_false]), fun q1 => ?_⟩⟩
            exact fin p true ep (by unfold ovl; rw [decide_eq_false (fun z => q (j_le.mpr z)), decide_eq_false (fun z => q1 (j_le.mpr z))]; rfl)
          have no : ovl a wd i j = false → vwp E d M_X12_apartValue 213 [some (sl 6 0), some (wi (nI m)), some (wi x), some (wj (nL (ork (ov2 a b wd ht) i + orj (ov2 a b wd ht) i j))), none, some (wi (nI i)), some (wi (nI j)), none, none] [] V (zj K) := fun eq => w_X12_apartValue_213 (second false eq)
          refine w_X12_apartValue_150 ⟨fun q => absurd q (nI_ge (by omega) (by omega)), fun _ => ⟨pi, pj, pj, ?_⟩⟩
          rw [nI_clamp (show i < 2 ^ 31 by omega), nI_clamp (show j < 2 ^ 31 by omega), ai, aj, wi', wj', ← s1, ← s2]
          refine ⟨fun q => no (by unfold ovl; rw [decide_eq_true (j_le.mp q)]; rfl), fun q => ⟨pj, pi, pi, fun q1 => no (by unfold ovl; rw [decide_eq_true (j_le.mp q1), Bool.not_true, Bool.and_false]), fun q1 => ?_⟩⟩
          exact second true (by unfold ovl; rw [decide_eq_false (fun z => q (j_le.mpr z)), decide_eq_false (fun z => q1 (j_le.mpr z))]; rfl)
      exact go2 i 0 (by omega)
  exact go1 m 0 (by omega)
theorem spx_28 {w : Nat} : spx nt se 28 w = nI (oci (ov2 (fun r => ntv nt se (w + 1 + 4 * r)) (fun r => ntv nt se (w + 1 + 4 * r + 1)) (fun r => nt (w + 1 + 4 * r + 2)) (fun r => nt (w + 1 + 4 * r + 3))) (ntn nt w) 0) := by unfold spx; rw [if_neg (by decide), if_neg (by decide), if_neg (by decide), if_neg (by decide), if_neg (by decide), if_neg (by decide)]
end
