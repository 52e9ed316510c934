/-! busy times, places apart -/
def bsa (s du us : Nat → Int32) (t : Int32) : Nat → Int32
  | 0 => 0
  | r + 1 => if s r ≤ t ∧ t < s r + du r then bsa s du us t r + us r else bsa s du us t r
def bmx (s du us : Nat → Int32) (m : Nat) : Nat → Int32
  | 0 => 0
  | i + 1 => imax (bmx s du us m i) (bsa s du us (s i) m)
def bsv (c : Int32) (s du us : Nat → Int32) (m : Nat) : Int32 := imax 0 (bmx s du us m m - c)
def ovl (a w : Nat → Int32) (i j : Nat) : Bool := !decide (a j + w j ≤ a i) && !decide (a i + w i ≤ a j)
def ocj (O : Nat → Nat → Bool) (i : Nat) : Nat → Nat → Nat
  | 0, _ => 0
  | k + 1, j => (if O i j = true then 1 else 0) + ocj O i k (j + 1)
def oci (O : Nat → Nat → Bool) : Nat → Nat → Nat
  | 0, _ => 0
  | k + 1, i => ocj O i k (i + 1) + oci O k (i + 1)
def ov2 (a b w h : Nat → Int32) (i j : Nat) : Bool := ovl a w i j && ovl b h i j
section
variable {E : EE} {d : Nat} {V : VH} {g nn : Nat} {nt : Nat → Int32} {K : Int32 → VH → Prop}
theorem c_overload {w m : Nat} {c : Int32} {s du us : Nat → Int32} (h0 : 0 < d) (h : EV V g nn nt) (hm : m ≤ 40) (hw : w + 2 + 3 * m ≤ nn) (ec : nt w = c) (em : nt (w + 1) = nI m) (hr : ∀ r, r < m → (∃ v, v < 12 ∧ nt (w + 2 + 3 * r) = nI v ∧ vI V g 18 v = s r) ∧ nt (w + 2 + 3 * r + 1) = du r ∧ nt (w + 2 + 3 * r + 2) = us r) (K1 : K (bsv c s du us m) V) : vMI E d M_X2_overload [sl g 9, wi (nI w)] V K := by
  have hl := h.lt
  have e2 : ∀ r : Nat, nI w + 2 + 3 * nI r = nI (w + 2 + 3 * r) := fun r => by
    rw [show (3 : Int32) = nI 3 from rfl, nI_mul, show nI w + 2 = nI (w + 2) from nI_add w 2, nI_add]
  have go1 : ∀ (k i : Nat), i + k = m → vwp E d M_X2_overload 13 [some (sl g 9), some (wi (nI w)), some (wi (nI m)), some (wi (bmx s du us m i)), some (wi (nI i)), none, none, none, none, none] [] V (zi K) := by
    intro k
    induction k with
    | zero =>
      intro i ei
      have : i = m := by omega
      subst this
      refine w_X2_overload_13 h.1 h0 ⟨fun _ => c_noteAt h (by omega) ?_, fun q => absurd (nI_le (Nat.le_refl _) (by omega)) q⟩
      rw [ec]
      exact K1
    | succ k ih =>
      intro i ei
      obtain ⟨⟨v, lv, av, bv⟩, _, _⟩ := hr i (by omega)
      refine w_X2_overload_13 h.1 h0 ⟨fun q => absurd q (nI_ge (by omega) (by omega)), fun _ => ?_⟩
      rw [e2]
      refine c_valueAt h (by omega) av lv ?_
      rw [bv]
      have go2 : ∀ (c r : Nat), r + c = m → vwp E d M_X2_overload 39 [some (sl g 9), some (wi (nI w)), some (wi (nI m)), some (wi (bmx s du us m i)), some (wi (nI i)), some (wi (s i)), some (wi (bsa s du us (s i) r)), some (wi (nI r)), none, none] [] V (zi K) := by
        intro c
        induction c with
        | zero =>
          intro r er
          have : r = m := by omega
          subst this
          refine w_X2_overload_39 h.1 h0 ⟨fun _ => ?_, fun q => absurd (nI_le (Nat.le_refl _) (by omega)) q⟩
          rw [nI_1]
          exact ih (i + 1) (by omega)
        | succ c ihc =>
          intro r er
          obtain ⟨⟨u, lu, au, bu⟩, ad, as⟩ := hr r (by omega)
          have nx : ∀ x : Int32, x = bsa s du us (s i) (r + 1) → vwp E d M_X2_overload 99 [some (sl g 9), some (wi (nI w)), some (wi (nI m)), some (wi (bmx s du us m i)), some (wi (nI i)), some (wi (s i)), some (wi x), some (wi (nI r)), some (wi (nI (w + 2 + 3 * r))), some (wi (s r))] [] V (zi K) := by
            intro x ex
            subst ex
            refine w_X2_overload_99 h.1 ?_
            rw [nI_1]
            exact ihc (r + 1) (by omega)
          refine w_X2_overload_39 h.1 h0 ⟨fun q => absurd q (nI_ge (by omega) (by omega)), fun _ => ?_⟩
          rw [e2]
          refine c_valueAt h (by omega) au lu ?_
          rw [bu]
          refine ⟨fun q => nx _ ?_, fun q => ?_⟩
          · rw [bsa, if_neg (fun z => Int32.not_le.mpr q z.1)]
          · rw [nI_1]
            refine c_noteAt h (by omega) ?_
            rw [ad]
            refine ⟨fun q1 => nx _ ?_, fun q1 => ?_⟩
            · rw [bsa, if_neg (fun z => Int32.not_lt.mpr q1 z.2)]
            · rw [show nI (w + 2 + 3 * r) + 2 = nI (w + 2 + 3 * r + 2) from nI_add _ 2]
              refine c_noteAt h (by omega) ?_
              rw [as]
              refine nx _ ?_
              rw [bsa, if_pos ⟨Int32.not_lt.mp q, Int32.not_le.mp q1⟩]
      exact go2 m 0 (by omega)
  refine w_X2_overload_0 h.1 h0 ?_
  rw [nI_1]
  refine c_noteAt h (by omega) ?_
  rw [em]
  exact go1 m 0 (by omega)
theorem c_overlaps {w m : Nat} {a b wd ht : Nat → Int32} (h0 : 0 < d) (h : EV V g nn nt) (hm : m ≤ 40) (hw : w + 1 + 4 * m ≤ nn) (em : nt w = nI m) (hr : ∀ r, r < m → (∃ v, v < 12 ∧ nt (w + 1 + 4 * r) = nI v ∧ vI V g 18 v = a r) ∧ (∃ v, v < 12 ∧ nt (w + 1 + 4 * r + 1) = nI v ∧ vI V g 18 v = b r) ∧ nt (w + 1 + 4 * r + 2) = wd r ∧ nt (w + 1 + 4 * r + 3) = ht r) (K1 : K (nI (oci (ov2 a b wd ht) m 0)) V) : vMI E d M_X2_overlaps [sl g 9, wi (nI w)] V K := by
  have hl := h.lt
  have e2 : ∀ r : Nat, nI w + 1 + 4 * nI r = nI (w + 1 + 4 * r) := fun r => by
    rw [show (4 : Int32) = nI 4 from rfl, nI_mul, show nI w + 1 = nI (w + 1) from nI_add w 1, nI_add]
  have go1 : ∀ (k i c : Nat), i + k = m → K (nI (c + oci (ov2 a b wd ht) k i)) V → vwp E d M_X2_overlaps 11 [some (sl g 9), some (wi (nI w)), some (wi (nI m)), some (wi (nI c)), some (wi (nI i)), none, none, none, none, none] [] V (zi K) := by
    intro k
    induction k with
    | zero =>
      intro i c ei kk
      rw [oci, Nat.add_zero] at kk
      exact w_X2_overlaps_11 h.1 ⟨fun _ => kk, fun q => absurd (nI_le (by omega) (by omega)) q⟩
    | succ k ih =>
      intro i c ei kk
      obtain ⟨⟨v1, l1, a1, b1⟩, ⟨v2, l2, a2, b2⟩, a3, a4⟩ := hr i (by omega)
      rw [oci] at kk
      refine w_X2_overlaps_11 h.1 ⟨fun q => absurd q (nI_ge (by omega) (by omega)), fun _ => ?_⟩
      rw [e2, nI_1]
      have go2 : ∀ (f j c : Nat), j + f = m → K (nI (c + (ocj (ov2 a b wd ht) i f j + oci (ov2 a b wd ht) k (i + 1)))) V → vwp E d M_X2_overlaps 33 [some (sl g 9), some (wi (nI w)), some (wi (nI m)), some (wi (nI c)), some (wi (nI i)), some (wi (nI (w + 1 + 4 * i))), some (wi (nI j)), none, none, none] [] V (zi K) := by
        intro f
        induction f with
        | zero =>
          intro j c ej kk
          rw [ocj, Nat.zero_add] at kk
          refine w_X2_overlaps_33 h.1 h0 ⟨fun _ => ?_, fun q => absurd (nI_le (by omega) (by omega)) q⟩
          rw [nI_1]
          exact ih (i + 1) c (by omega) kk
        | succ f ihf =>
          intro j c ej kk
          obtain ⟨⟨u1, m1, c1, d1⟩, ⟨u2, m2, c2, d2⟩, c3, c4⟩ := hr j (by omega)
          rw [ocj] at kk
          have fin : ∀ p q : Bool, ovl a wd i j = p → ovl b ht i j = q → vwp E d M_X2_overlaps 165 [some (sl g 9), some (wi (nI w)), some (wi (nI m)), some (wi (nI c)), some (wi (nI i)), some (wi (nI (w + 1 + 4 * i))), some (wi (nI j)), some (wi (nI (w + 1 + 4 * j))), some (wi (bI p)), none] [wi (bI q)] V (zi K) := by
            intro p q ep eq
            have nx : ∀ n : Nat, n = c + (if ov2 a b wd ht i j = true then 1 else 0) → vwp E d M_X2_overlaps 180 [some (sl g 9), some (wi (nI w)), some (wi (nI m)), some (wi (nI n)), some (wi (nI i)), some (wi (nI (w + 1 + 4 * i))), some (wi (nI j)), some (wi (nI (w + 1 + 4 * j))), some (wi (bI p)), some (wi (bI q))] [] V (zi K) := by
              intro n en
              refine w_X2_overlaps_180 h.1 ?_
              rw [nI_1]
              refine ihf (j + 1) n (by omega) ?_
              rw [en, Nat.add_assoc, ← Nat.add_assoc (if ov2 a b wd ht i j = true then 1 else 0)]
              exact kk
            have eo : ov2 a b wd ht i j = (p && q) := by unfold ov2; rw [ep, eq]
            refine w_X2_overlaps_165 h.1 ⟨fun z => ?_, fun z => ⟨fun z1 => ?_, fun z1 => ?_⟩⟩
            · refine nx c ?_
              rw [eo, bI_0.mp z]; rfl
            · refine nx c ?_
              rw [eo, bI_0.mp z1, Bool.and_false]; rfl
            · rw [nI_1]
              refine nx (c + 1) ?_
              have p1 : p = true := by cases p with
                | true => rfl
                | false => exact absurd rfl z
              have q1 : q = true := by cases q with
                | true => rfl
                | false => exact absurd rfl z1
              rw [eo, p1, q1]; rfl
          have second : ∀ p : Bool, ovl a wd i j = p → vwp E d M_X2_overlaps 102 [some (sl g 9), some (wi (nI w)), some (wi (nI m)), some (wi (nI c)), some (wi (nI i)), some (wi (nI (w + 1 + 4 * i))), some (wi (nI j)), some (wi (nI (w + 1 + 4 * j))), none, none] [wi (bI p)] V (zi K) := by
            intro p ep
            have no : ovl b ht i j = false → vwp E d M_X2_overlaps 164 [some (sl g 9), some (wi (nI w)), some (wi (nI m)), some (wi (nI c)), some (wi (nI i)), some (wi (nI (w + 1 + 4 * i))), some (wi (nI j)), some (wi (nI (w + 1 + 4 * j))), some (wi (bI p)), none] [] V (zi K) := fun eq => w_X2_overlaps_164 h.1 (fin p false ep eq)
            refine w_X2_overlaps_102 h.1 h0 ?_
            rw [show nI (w + 1 + 4 * i) + 1 = nI (w + 1 + 4 * i + 1) from nI_add _ 1, show nI (w + 1 + 4 * j) + 1 = nI (w + 1 + 4 * j + 1) from nI_add _ 1, show nI (w + 1 + 4 * i) + 3 = nI (w + 1 + 4 * i + 3) from nI_add _ 3, show nI (w + 1 + 4 * j) + 3 = nI (w + 1 + 4 * j + 3) from nI_add _ 3]
            refine c_valueAt h (by omega) a2 l2 (c_valueAt h (by omega) c2 m2 (c_noteAt h (by omega) ?_))
            rw [b2, d2, c4]
            refine ⟨fun q => no (by unfold ovl; rw [decide_eq_true q]; rfl), fun q => ?_⟩
            refine c_valueAt h (by omega) c2 m2 (c_valueAt h (by omega) a2 l2 (c_noteAt h (by omega) ?_))
            rw [b2, d2, a4]
            refine ⟨fun q1 => no (by unfold ovl; rw [decide_eq_true q1, Bool.not_true, Bool.and_false]), fun q1 => ?_⟩
            exact fin p true ep (by unfold ovl; rw [decide_eq_false q, decide_eq_false q1]; rfl)
          have no : ovl a wd i j = false → vwp E d M_X2_overlaps 101 [some (sl g 9), some (wi (nI w)), some (wi (nI m)), some (wi (nI c)), some (wi (nI i)), some (wi (nI (w + 1 + 4 * i))), some (wi (nI j)), some (wi (nI (w + 1 + 4 * j))), none, none] [] V (zi K) := fun eq => w_X2_overlaps_101 h.1 (second false eq)
          refine w_X2_overlaps_33 h.1 h0 ⟨fun q => absurd q (nI_ge (by omega) (by omega)), fun _ => ?_⟩
          rw [e2, show nI (w + 1 + 4 * i) + 2 = nI (w + 1 + 4 * i + 2) from nI_add _ 2, show nI (w + 1 + 4 * j) + 2 = nI (w + 1 + 4 * j + 2) from nI_add _ 2]
          refine c_valueAt h (by omega) a1 l1 (c_valueAt h (by omega) c1 m1 (c_noteAt h (by omega) ?_))
          rw [b1, d1, c3]
          refine ⟨fun q => no (by unfold ovl; rw [decide_eq_true q]; rfl), fun q => ?_⟩
          refine c_valueAt h (by omega) c1 m1 (c_valueAt h (by omega) a1 l1 (c_noteAt h (by omega) ?_))
          rw [b1, d1, a3]
          refine ⟨fun q1 => no (by unfold ovl; rw [decide_eq_true q1, Bool.not_true, Bool.and_false]), fun q1 => ?_⟩
          exact second true (by unfold ovl; rw [decide_eq_false q, decide_eq_false q1]; rfl)
      exact go2 k (i + 1) c (by omega) kk
  refine w_X2_overlaps_0 h.1 h0 (c_noteAt h (by omega) ?_)
  rw [em]
  exact go1 m 0 0 (by omega) (by rw [Nat.zero_add]; exact K1)
end
