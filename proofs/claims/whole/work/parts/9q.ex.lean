/-! rounds and automata -/
def rok (y : Nat → Int32) (n : Nat) : Nat → Bool
  | 0 => true
  | j + 1 => rok y n j && decide (0 ≤ y j ∧ y j < nI n)
def rmv (z : Nat → Nat) : Nat → Nat
  | 0 => 0
  | j + 1 => rmv z j + (if z j = j then 0 else 1)
def rla (z : Nat → Nat) : Nat → Nat
  | 0 => 0
  | j + 1 => if z j = j then rla z j else j
def wlk (z : Nat → Nat) (la : Nat) : Nat → Nat → Nat → Nat
  | 0, _, l => l
  | m + 1, a, l => if a = la then l else wlk z la m (z a) (l + 1)
def rgz (y : Nat → Int32) (j : Nat) : Nat := (y j).toNatClampNeg
def rgv (y : Nat → Int32) (n : Nat) : Int32 := if rok y n n = false ∨ dup y n ≠ 0 then 1 else if rmv (rgz y) n = 0 then 0 else if wlk (rgz y) (rla (rgz y) n) n (rgz y (rla (rgz y) n)) 1 = rmv (rgz y) n then 0 else 1
theorem rok_iff {y : Nat → Int32} {n : Nat} (m : Nat) : rok y n m = true ↔ ∀ j, j < m → 0 ≤ y j ∧ y j < nI n := by
  induction m with
  | zero => exact ⟨fun _ j hj => absurd hj (Nat.not_lt_zero j), fun _ => rfl⟩
  | succ m ih =>
    rw [rok, Bool.and_eq_true, ih, decide_eq_true_eq]
    constructor
    · intro ⟨h1, h2⟩ j hj
      by_cases c : j = m
      · subst c; exact h2
      · exact h1 j (by omega)
    · intro h
      exact ⟨fun j hj => h j (by omega), h m (by omega)⟩
theorem erl_iff {y : Nat → Int32} {j : Nat} (m : Nat) : erl y j m = true ↔ ∃ i, i < m ∧ y i = y j := by
  induction m with
  | zero => exact ⟨fun h => absurd (show false = true from h) (by decide), fun ⟨i, h, _⟩ => absurd h (Nat.not_lt_zero i)⟩
  | succ m ih =>
    rw [erl, Bool.or_eq_true, ih, decide_eq_true_eq]
    constructor
    · rintro (⟨i, h1, h2⟩ | h)
      · exact ⟨i, by omega, h2⟩
      · exact ⟨m, by omega, h⟩
    · intro ⟨i, h1, h2⟩
      by_cases c : i = m
      · subst c; exact Or.inr h2
      · exact Or.inl ⟨i, by omega, h2⟩
theorem dup_0 {y : Nat → Int32} (m : Nat) : dup y m = 0 ↔ ∀ j, j < m → ∀ i, i < j → y i ≠ y j := by
  induction m with
  | zero => exact ⟨fun _ j hj => absurd hj (Nat.not_lt_zero j), fun _ => rfl⟩
  | succ m ih =>
    rw [dup]
    constructor
    · intro h j hj i hi e
      by_cases c : j = m
      · subst c
        rw [if_pos ((erl_iff j).mpr ⟨i, hi, e⟩)] at h
        omega
      · exact ih.mp (by omega) j (by omega) i hi e
    · intro h
      rw [ih.mpr (fun j hj => h j (by omega)), if_neg (fun z => by
        obtain ⟨i, hi, e⟩ := (erl_iff m).mp z
        exact h m (by omega) i hi e)]
theorem rmv_le (z : Nat → Nat) (n : Nat) : rmv z n ≤ n := by
  induction n with
  | zero => exact Nat.le_refl 0
  | succ n ih => rw [rmv]; split <;> omega
theorem rla_lt {z : Nat → Nat} {n : Nat} (h : rmv z n ≠ 0) : rla z n < n := by
  induction n with
  | zero => exact absurd rfl h
  | succ n ih =>
    rw [rla]
    rw [rmv] at h
    by_cases c : z n = n
    · rw [if_pos c] at h ⊢
      have := ih h
      omega
    · rw [if_neg c]; omega
def rgl (z : Nat → Nat) (i : Nat) : Int32 := if rmv z i = 0 then -1 else nI (rla z i)
theorem rgl_st {z : Nat → Nat} {i : Nat} (h : z i = i) : rgl z (i + 1) = rgl z i ∧ rmv z (i + 1) = rmv z i := by
  unfold rgl
  rw [rmv, rla, if_pos h, if_pos h]
  exact ⟨rfl, rfl⟩
theorem rgl_mv {z : Nat → Nat} {i : Nat} (h : ¬ z i = i) : rgl z (i + 1) = nI i ∧ rmv z (i + 1) = rmv z i + 1 := by
  unfold rgl
  rw [rmv, rla, if_neg h, if_neg h, if_neg (by omega)]
  exact ⟨rfl, rfl⟩
section
variable {E : EE} {d : Nat} {V : VH} {g nn : Nat} {nt : Nat → Int32} {K : Int32 → VH → Prop}
theorem c_offRound {w n : Nat} {y : Nat → Int32} (h0 : 0 < d) (h : EV V g nn nt) (hy : Nmd V g nn nt w n y) (K1 : K (rgv y n) V) : vMI E d M_X2_offRound [sl g 9, wi (nI w)] V K := by
  obtain ⟨hn, hw, en, hv⟩ := hy
  have hl := h.lt
  have bad : (¬ ∀ j, j < n → 0 ≤ y j ∧ y j < nI n) → K 1 V := by
    intro q
    have : rok y n n = false := by
      cases hb : rok y n n with
      | false => rfl
      | true => exact absurd ((rok_iff n).mp hb) q
    unfold rgv at K1
    rw [if_pos (Or.inl this)] at K1
    exact K1
  have dpl : (∃ j, j < n ∧ ∃ i, i < j ∧ y i = y j) → K 1 V := by
    intro ⟨j, hj, i, hi, e⟩
    unfold rgv at K1
    rw [if_pos (Or.inr (fun z => (dup_0 n).mp z j hj i hi e))] at K1
    exact K1
  have go : ∀ (m i : Nat) (x : Int32), i + m = n → (∀ j, j < i → 0 ≤ y j ∧ y j < nI n) → dup y i = 0 → (∀ v, v < 32 → (tst x v = true ↔ ∃ j, j < i ∧ y j = nI v)) → vwp E d M_X2_offRound 17 [some (sl g 9), some (wi (nI w)), some (wi (nI n)), some (wi x), some (wi (nI (rmv (rgz y) i))), some (wi (rgl (rgz y) i)), some (wi (nI i)), none] [] V (zi K) := by
    intro m
    induction m with
    | zero =>
      intro i x ei r1 du tx
      have : i = n := by omega
      subst this
      have mvl := rmv_le (rgz y) i
      have k2 : K (if rmv (rgz y) i = 0 then 0 else if wlk (rgz y) (rla (rgz y) i) i (rgz y (rla (rgz y) i)) 1 = rmv (rgz y) i then 0 else 1) V := by
        have k := K1
        unfold rgv at k
        rw [if_neg (by
          rintro (z | z)
          · rw [(rok_iff i).mpr r1] at z; exact absurd z (by decide)
          · exact z du)] at k
        exact k
      refine w_X2_offRound_17 h.1 h0 ⟨fun _ => ⟨fun q => ?_, fun q => ?_⟩, fun q => absurd (nI_le (Nat.le_refl _) (by omega)) q⟩
      · have q1 : ¬ rmv (rgz y) i = 0 := fun z => q (by rw [z]; rfl)
        rw [if_neg q1] at k2
        have la := rla_lt q1
        have el : rgl (rgz y) i = nI (rla (rgz y) i) := by unfold rgl; rw [if_neg q1]
        have yz : ∀ a, a < i → y a = nI (rgz y a) ∧ rgz y a < i := by
          intro a ha
          obtain ⟨b, eb, lb⟩ := nI_of_lt (r1 a ha).1 (r1 a ha).2 (by omega)
          unfold rgz
          rw [eb, nI_clamp (show b < 2 ^ 31 by omega)]
          exact ⟨rfl, lb⟩
        rw [el]
        have go2 : ∀ (k a l : Nat), a < i → l + k = i + 1 → 1 ≤ l → K (if wlk (rgz y) (rla (rgz y) i) k a l = rmv (rgz y) i then 0 else 1) V → vwp E d M_X2_offRound 109 [some (sl g 9), some (wi (nI w)), some (wi (nI i)), some (wi x), some (wi (nI (rmv (rgz y) i))), some (wi (nI (rla (rgz y) i))), some (wi (nI l)), some (wi (nI a))] [] V (zi K) := by
          intro k
          induction k with
          | zero =>
            intro a l ha el l1 kk
            rw [wlk] at kk
            have fin : vwp E d M_X2_offRound 140 [some (sl g 9), some (wi (nI w)), some (wi (nI i)), some (wi x), some (wi (nI (rmv (rgz y) i))), some (wi (nI (rla (rgz y) i))), some (wi (nI l)), some (wi (nI a))] [] V (zi K) := by
              refine w_X2_offRound_140 h.1 ⟨fun q => ?_, fun q => ?_⟩
              · rw [if_neg (fun z => q (by rw [z]))] at kk; exact kk
              · rw [if_pos ((nI_eq (by omega) (by omega)).mp q)] at kk; exact kk
            exact w_X2_offRound_109 h.1 h0 ⟨fun _ => fin, fun _ => ⟨fun _ => fin, fun q => absurd (nI_lt (by omega) (by omega)) q⟩⟩
          | succ k ih2 =>
            intro a l ha el l1 kk
            rw [wlk] at kk
            refine w_X2_offRound_109 h.1 h0 ⟨fun q => ?_, fun q => ⟨fun q1 => absurd q1 (nI_nlt (by omega) (by omega)), fun _ => ?_⟩⟩
            · have e1 := (nI_eq (by omega) (by omega)).mp q
              rw [if_pos e1] at kk
              refine w_X2_offRound_140 h.1 ⟨fun q => ?_, fun q => ?_⟩
              · rw [if_neg (fun z => q (by rw [z]))] at kk; exact kk
              · rw [if_pos ((nI_eq (by omega) (by omega)).mp q)] at kk; exact kk
            · rw [if_neg (show ¬ a = rla (rgz y) i from fun z => q (by rw [z]))] at kk
              obtain ⟨v1, l1', a1, b1⟩ := hv a ha
              rw [show nI w + 1 = nI (w + 1) from nI_add w 1, nI_add]
              refine c_valueAt h (by omega) a1 l1' ?_
              rw [b1, (yz a ha).1, nI_1]
              exact ih2 (rgz y a) (l + 1) (yz a ha).2 (by omega) (by omega) kk
        obtain ⟨v1, l1, a1, b1⟩ := hv (rla (rgz y) i) la
        rw [show nI w + 1 = nI (w + 1) from nI_add w 1, nI_add]
        refine c_valueAt h (by omega) a1 l1 ?_
        rw [b1, (yz _ la).1]
        exact go2 i (rgz y (rla (rgz y) i)) 1 (yz _ la).2 (by omega) (by omega) k2
      · have q1 : rmv (rgz y) i = 0 := (nI_eq (b := 0) (by omega) (by decide)).mp q
        rw [if_pos q1] at k2
        exact k2
    | succ m ih =>
      intro i x ei r1 du tx
      obtain ⟨v1, l1, a1, b1⟩ := hv i (by omega)
      refine w_X2_offRound_17 h.1 h0 ⟨fun q => absurd q (nI_ge (by omega) (by omega)), fun _ => ?_⟩
      rw [show nI w + 1 = nI (w + 1) from nI_add w 1, nI_add]
      refine c_valueAt h (by omega) a1 l1 ?_
      rw [b1]
      refine ⟨fun q => bad (fun z => Int32.not_lt.mpr (z i (by omega)).1 q), fun q => ⟨fun q1 => bad (fun z => Int32.not_lt.mpr q1 (z i (by omega)).2), fun q1 => ?_⟩⟩
      have p0 : 0 ≤ y i := Int32.not_lt.mp q
      have p1 : y i < nI n := Int32.not_le.mp q1
      obtain ⟨v, ev, lv⟩ := nI_of_lt p0 p1 (by omega)
      have ez : rgz y i = v := by unfold rgz; rw [ev, nI_clamp (show v < 2 ^ 31 by omega)]
      have r2 : ∀ j, j < i + 1 → 0 ≤ y j ∧ y j < nI n := fun j hj => by
        by_cases c : j = i
        · subst c; exact ⟨p0, p1⟩
        · exact r1 j (by omega)
      rw [ev]
      refine ⟨fun q2 => ?_, fun q2 => ?_⟩
      · have t0 := (tst_0 x (show v < 32 by omega)).mp q2
        have ne : ¬ ∃ j, j < i ∧ y j = nI v := fun z => by rw [(tx v (by omega)).mpr z] at t0; exact absurd t0 (by decide)
        have du2 : dup y (i + 1) = 0 := by
          rw [dup, du, if_neg (fun z => by
            obtain ⟨j, hj, e⟩ := (erl_iff i).mp z
            exact ne ⟨j, hj, e.trans ev⟩)]
        have tx2 : ∀ u, u < 32 → (tst (x ||| (1 <<< (nI v &&& 31))) u = true ↔ ∃ j, j < i + 1 ∧ y j = nI u) := by
          intro u hu
          rw [tst_or, tst_one (by omega) hu, Bool.or_eq_true, tx u hu, decide_eq_true_eq]
          constructor
          · rintro (⟨j, hj, e⟩ | e)
            · exact ⟨j, by omega, e⟩
            · subst e; exact ⟨i, by omega, ev⟩
          · intro ⟨j, hj, e⟩
            by_cases c : j = i
            · subst c; exact Or.inr ((nI_eq (by omega) (by omega)).mp (e.symm.trans ev))
            · exact Or.inl ⟨j, by omega, e⟩
        have nx := ih (i + 1) (x ||| (1 <<< (nI v &&& 31))) (by omega) r2 du2 tx2
        refine ⟨fun q3 => ?_, fun q3 => ?_⟩
        · have z3 : ¬ rgz y i = i := fun z => q3 (by rw [← ez, z])
          rw [(rgl_mv z3).1, (rgl_mv z3).2] at nx
          rw [nI_1]
          refine w_X2_offRound_81 h.1 ?_
          rw [nI_1]
          exact nx
        · have z3 : rgz y i = i := by rw [ez]; exact (nI_eq (by omega) (by omega)).mp q3
          rw [(rgl_st z3).1, (rgl_st z3).2] at nx
          refine w_X2_offRound_81 h.1 ?_
          rw [nI_1]
          exact nx
      · obtain ⟨j, hj, e⟩ := (tx v (by omega)).mp ((tst_1 x (show v < 32 by omega)).mp q2)
        exact dpl ⟨i, by omega, j, hj, e.trans ev.symm⟩
  refine w_X2_offRound_0 h.1 h0 (c_noteAt h (by omega) ?_)
  rw [en]
  exact go n 0 0 (by omega) (fun j hj => absurd hj (Nat.not_lt_zero j)) rfl (fun v _ => ⟨fun z => by rw [tst_z] at z; exact absurd z (by decide), fun ⟨j, hj, _⟩ => absurd hj (Nat.not_lt_zero j)⟩)
end
