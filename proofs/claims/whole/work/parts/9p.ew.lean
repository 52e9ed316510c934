/-! rows, order, picked values -/
def mis (y z : Nat → Int32) : Nat → Nat
  | 0 => 0
  | j + 1 => mis y z j + (if y j = z j then 0 else 1)
def rmn (y : Nat → Int32) (z : Nat → Nat → Int32) (n : Nat) : Nat → Nat
  | 0 => n
  | r + 1 => min (rmn y z n r) (mis y (z r) n)
theorem mis_le (y z : Nat → Int32) (n : Nat) : mis y z n ≤ n := by
  induction n with
  | zero => exact Nat.le_refl 0
  | succ n ih => rw [mis]; split <;> omega
theorem rmn_le (y : Nat → Int32) (z : Nat → Nat → Int32) (n r : Nat) : rmn y z n r ≤ n := by
  induction r with
  | zero => exact Nat.le_refl n
  | succ r ih => rw [rmn]; omega
def lxv (y u : Nat → Int32) : Nat → Nat → Int32
  | 0, _ => 0
  | m + 1, j => if y j = u j then lxv y u m (j + 1) else if y j ≤ u j then 0 else 1
theorem imin_min {a b : Nat} (ha : a < 2 ^ 31) (hb : b < 2 ^ 31) : imin (nI a) (nI b) = nI (min a b) := by
  by_cases c : a ≤ b
  · rw [imin_nI c hb, Nat.min_eq_left c]
  · rw [show min a b = b by omega]
    exact if_pos (nI_lt (by omega) (by omega))
theorem nI_of_lt {x : Int32} {n : Nat} (h0 : 0 ≤ x) (h1 : x < nI n) (hn : n < 2 ^ 31) : ∃ j, x = nI j ∧ j < n := by
  have a0 : (0 : Int) ≤ x.toInt := by have := Int32.le_iff_toInt_le.mp h0; exact this
  have a1 : x.toInt < (nI n).toInt := Int32.lt_iff_toInt_lt.mp h1
  have en : (nI n).toInt = n := Int32.toInt_ofNat_of_lt hn
  refine ⟨x.toInt.toNat, ?_, by omega⟩
  apply Int32.toInt_inj.mp
  rw [show (nI x.toInt.toNat).toInt = (x.toInt.toNat : Int) from Int32.toInt_ofNat_of_lt (by omega)]
  omega
/-- m rows of n stand in the notes from w + 2 + n on -/
def Rwd (nn : Nat) (nt : Nat → Int32) (w n c m : Nat) (z : Nat → Nat → Int32) : Prop := m ≤ 40 ∧ w + 2 + n + m * c ≤ nn ∧ nt (w + 1 + n) = nI m ∧ ∀ r, r < m → ∀ j, j < c → nt (w + 2 + n + r * c + j) = z r j
theorem mul_in {r m c j : Nat} (hr : r < m) (hj : j < c) : r * c + j < m * c := by
  have : (r + 1) * c ≤ m * c := Nat.mul_le_mul_right c (by omega)
  rw [Nat.succ_mul] at this
  omega
section
variable {E : EE} {d : Nat} {V : VH} {g nn : Nat} {nt : Nat → Int32} {K : Int32 → VH → Prop}
theorem c_picked {w n : Nat} {x : Int32} {z : Nat → Int32} (h0 : 0 < d) (h : EV V g nn nt) (hw : w + 1 + n ≤ nn) (en : nt w = nI n) (hz : ∀ j, j < n → nt (w + 1 + j) = z j) (K1 : K (if 0 ≤ x ∧ x < nI n then z (x.toNatClampNeg) else 0) V) : vMI E d M_X2_picked [sl g 9, wi (nI w), wi x] V K := by
  have hl := h.lt
  have e0 : ∀ {x : Int32}, ¬ x < 0 ↔ 0 ≤ x := fun {x} => Int32.not_lt
  refine w_X2_picked_0 h.1 h0 ⟨fun q => ?_, fun q => ?_⟩
  · rw [if_neg (fun z => e0.mpr z.1 q)] at K1; exact K1
  · refine c_noteAt h (by omega) ?_
    rw [en]
    refine ⟨fun q1 => ?_, fun q1 => ?_⟩
    · rw [if_neg (fun z => Int32.not_lt.mpr q1 z.2)] at K1; exact K1
    · have q2 : x < nI n := Int32.not_le.mp q1
      rw [if_pos ⟨e0.mp q, q2⟩] at K1
      obtain ⟨j, ej, lj⟩ := nI_of_lt (e0.mp q) q2 (by omega)
      subst ej
      rw [nI_clamp (show j < 2 ^ 31 by omega)] at K1
      rw [nI_1, nI_add]
      refine c_noteAt h (by omega) ?_
      rw [hz j lj]
      exact K1
theorem c_offRows {w n m : Nat} {y : Nat → Int32} {z : Nat → Nat → Int32} (h0 : 0 < d) (h : EV V g nn nt) (hy : Nmd V g nn nt w n y) (hz : Rwd nn nt w n n m z) (K1 : K (nI (rmn y z n m)) V) : vMI E d M_X2_offRows [sl g 9, wi (nI w)] V K := by
  obtain ⟨hn, hw, en, hv⟩ := hy
  obtain ⟨hm, hw2, em, hr⟩ := hz
  have hl := h.lt
  have go1 : ∀ (k r : Nat), r + k = m → vwp E d M_X2_offRows 22 [some (sl g 9), some (wi (nI w)), some (wi (nI n)), some (wi (nI m)), some (wi (nI (rmn y z n r))), some (wi (nI r)), none, none, none] [] V (zi K) := by
    intro k
    induction k with
    | zero =>
      intro r er
      have : r = m := by omega
      subst this
      exact w_X2_offRows_22 h.1 ⟨fun _ => K1, fun q => absurd (nI_le (Nat.le_refl _) (by omega)) q⟩
    | succ k ih =>
      intro r er
      refine w_X2_offRows_22 h.1 ⟨fun q => absurd q (nI_ge (by omega) (by omega)), fun _ => ?_⟩
      have ew : nI w + 2 + nI n + nI r * nI n = nI (w + 2 + n + r * n) := by rw [nI_mul, show nI w + 2 = nI (w + 2) from nI_add w 2, nI_add, nI_add]
      rw [ew]
      have go2 : ∀ (i j : Nat), j + i = n → vwp E d M_X2_offRows 46 [some (sl g 9), some (wi (nI w)), some (wi (nI n)), some (wi (nI m)), some (wi (nI (rmn y z n r))), some (wi (nI r)), some (wi (nI (w + 2 + n + r * n))), some (wi (nI (mis y (z r) j))), some (wi (nI j))] [] V (zi K) := by
        intro i
        induction i with
        | zero =>
          intro j ej
          have : j = n := by omega
          subst this
          refine w_X2_offRows_46 h.1 h0 ⟨fun _ => ?_, fun q => absurd (nI_le (Nat.le_refl _) (by omega)) q⟩
          have b1 := rmn_le y z j r
          have b2 := mis_le y (z r) j
          rw [imin_min (by omega) (by omega), nI_1]
          exact ih (r + 1) (by omega)
        | succ i ihi =>
          intro j ej
          obtain ⟨v1, l1, a1, b1⟩ := hv j (by omega)
          have rj := mul_in (show r < m by omega) (show j < n by omega)
          refine w_X2_offRows_46 h.1 h0 ⟨fun q => absurd q (nI_ge (by omega) (by omega)), fun _ => ?_⟩
          rw [show nI w + 1 = nI (w + 1) from nI_add w 1, nI_add, nI_add]
          refine c_valueAt h (by omega) a1 l1 (c_noteAt h (by omega) ?_)
          rw [b1, hr r (by omega) j (by omega)]
          have nx : ∀ c : Nat, c = mis y (z r) (j + 1) → vwp E d M_X2_offRows 77 [some (sl g 9), some (wi (nI w)), some (wi (nI n)), some (wi (nI m)), some (wi (nI (rmn y z n r))), some (wi (nI r)), some (wi (nI (w + 2 + n + r * n))), some (wi (nI c)), some (wi (nI j))] [] V (zi K) := by
            intro c ec
            subst ec
            refine w_X2_offRows_77 h.1 ?_
            rw [nI_1]
            exact ihi (j + 1) (by omega)
          refine ⟨fun q => nx _ (by rw [mis, if_pos q]; rfl), fun q => ?_⟩
          rw [nI_1]
          exact nx _ (by rw [mis, if_neg q])
      exact go2 n 0 (by omega)
  refine w_X2_offRows_0 h.1 h0 (c_noteAt h (by omega) ?_)
  rw [en, show nI w + 1 = nI (w + 1) from nI_add w 1, nI_add]
  refine c_noteAt h (by omega) ?_
  rw [em]
  exact go1 m 0 (by omega)
theorem c_outOfOrder {w n : Nat} {y u : Nat → Int32} (h0 : 0 < d) (h : EV V g nn nt) (hy : Nmd V g nn nt w n y) (hu : Nmd V g nn nt (w + 1 + n) n u) (K1 : K (lxv y u n 0) V) : vMI E d M_X2_outOfOrder [sl g 9, wi (nI w)] V K := by
  obtain ⟨hn, hw, en, hv⟩ := hy
  obtain ⟨_, hw2, _, hu⟩ := hu
  have hl := h.lt
  have go : ∀ (m j : Nat), j + m = n → K (lxv y u m j) V → vwp E d M_X2_outOfOrder 8 [some (sl g 9), some (wi (nI w)), some (wi (nI n)), some (wi (nI (j + 1))), none, none] [] V (zi K) := by
    intro m
    induction m with
    | zero =>
      intro j ej k1
      refine w_X2_outOfOrder_8 h.1 h0 ⟨fun _ => ?_, fun q => absurd (nI_lt (by omega) (by omega)) q⟩
      rw [lxv] at k1; exact k1
    | succ m ih =>
      intro j ej k1
      obtain ⟨v1, l1, a1, b1⟩ := hv j (by omega)
      obtain ⟨v2, l2, a2, b2⟩ := hu j (by omega)
      refine w_X2_outOfOrder_8 h.1 h0 ⟨fun q => absurd q (nI_nlt (by omega) (by omega)), fun _ => ?_⟩
      rw [nI_add, show nI w + 1 = nI (w + 1) from nI_add w 1, nI_add, nI_add, show w + (j + 1) = w + 1 + j by omega, show w + 1 + n + (j + 1) = w + 1 + n + 1 + j by omega]
      refine c_valueAt h (by omega) a1 l1 (c_valueAt h (by omega) a2 l2 ?_)
      rw [b1, b2]
      rw [lxv] at k1
      refine ⟨fun q => ?_, fun q => ⟨fun q1 => ?_, fun q1 => ?_⟩⟩
      · rw [if_pos q] at k1
        rw [nI_1]
        exact ih (j + 1) (by omega) k1
      · rw [if_neg q, if_pos q1] at k1; exact k1
      · rw [if_neg q, if_neg q1] at k1; exact k1
  refine w_X2_outOfOrder_0 h.1 h0 (c_noteAt h (by omega) ?_)
  rw [en]
  exact go n 0 (by omega) K1
end
