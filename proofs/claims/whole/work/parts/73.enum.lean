/-! going over the plans that agree with one in some vars -/
def agr (sz : Nat → Nat) (nv : Nat) (fx : Nat → Bool) (h p : Nat) : Bool := (List.range nv).all (fun v => !fx v || Dg sz nv v p == Dg sz nv v h)
theorem agr_iff {sz : Nat → Nat} {nv : Nat} {fx : Nat → Bool} {h p : Nat} : agr sz nv fx h p = true ↔ ∀ u, u < nv → fx u = true → Dg sz nv u p = Dg sz nv u h := by
  unfold agr
  rw [List.all_eq_true]
  constructor
  · intro q u hu hf
    have := q u (List.mem_range.mpr hu)
    rw [hf] at this
    simpa using this
  · intro q u hu
    have hu := List.mem_range.mp hu
    cases c : fx u
    · rfl
    · have := q u hu c
      simp [this]
/-- what becomes of a by going over all numbers below b that A has -/
def fA {α : Type} (A : Nat → Bool) (f : α → Nat → α) (a : α) : Nat → α
  | 0 => a
  | b + 1 => if A b = true then f (fA A f a b) b else fA A f a b
section
variable {α : Type} {A : Nat → Bool} {f : α → Nat → α} {a : α}
theorem fA_zero : fA A f a 0 = a := by rw [fA]
theorem fA_yes {b : Nat} (h : A b = true) : fA A f a (b + 1) = f (fA A f a b) b := by rw [fA, if_pos h]
theorem fA_no {b : Nat} (h : ¬ A b = true) : fA A f a (b + 1) = fA A f a b := by rw [fA, if_neg h]
theorem fA_gap : ∀ (k p : Nat), (∀ r, p ≤ r → r < p + k → ¬ A r = true) → fA A f a (p + k) = fA A f a p := by
  intro k
  induction k with
  | zero => intro p _; rfl
  | succ k ih =>
    intro p h
    rw [← Nat.add_assoc, fA_no (h (p + k) (by omega) (by omega))]
    exact ih p (fun r h1 h2 => h r h1 (by omega))
theorem fA_next {p q : Nat} (hp : A p = true) (hpq : p < q) (h : ∀ r, p < r → r < q → ¬ A r = true) : fA A f a q = f (fA A f a p) p := by
  rw [← fA_yes (f := f) (a := a) hp]
  have := fA_gap (A := A) (f := f) (a := a) (q - (p + 1)) (p + 1) (fun r h1 h2 => h r (by omega) (by omega))
  rw [show p + 1 + (q - (p + 1)) = q from by omega] at this
  exact this
theorem fA_first {q : Nat} (h : ∀ r, r < q → ¬ A r = true) : fA A f a q = a := by
  have := fA_gap (A := A) (f := f) (a := a) q 0 (fun r _ h2 => h r (by omega))
  rw [Nat.zero_add, fA_zero] at this
  exact this
end
section
variable {sz : Nat → Nat} {nv : Nat} {fx : Nat → Bool} {h : Nat}
/-- the first of them -/
theorem low_first (hs : ∀ v, v < nv → 0 < sz v) (hh : h < Tp sz nv 0) : low sz nv fx nv h < Tp sz nv 0 ∧ agr sz nv fx h (low sz nv fx nv h) = true ∧ ∀ r, r < low sz nv fx nv h → ¬ agr sz nv fx h r = true := by
  obtain ⟨l1, l2⟩ := low_spec hs fx h hh nv (Nat.le_refl _)
  refine ⟨l1, agr_iff.mpr (fun u hu hf => ?_), fun r hr ha => ?_⟩
  · rw [l2 u hu, if_neg (fun z => z.2 hf)]
  · have ha := agr_iff.mp ha
    obtain ⟨w, w1, w2, w3⟩ := lt_lex hs (Nat.lt_trans hr l1) l1 hr
    rw [l2 w w1] at w3
    by_cases c : fx w = true
    · rw [if_neg (fun z => z.2 c), ha w w1 c] at w3; omega
    · rw [if_pos ⟨w1, c⟩] at w3; omega
/-- the next of them -/
theorem fol_next (hs : ∀ v, v < nv → 0 < sz v) {p q : Nat} (hp : p < Tp sz nv 0) (ha : agr sz nv fx h p = true) (e : fol sz nv fx nv p = some q) : q < Tp sz nv 0 ∧ p < q ∧ agr sz nv fx h q = true ∧ ∀ r, p < r → r < q → ¬ agr sz nv fx h r = true := by
  have ha := agr_iff.mp ha
  obtain ⟨q1, q2, q3, q4⟩ := (fol_spec hs fx p hp nv p (Nat.le_refl _) hp (fun _ _ => rfl) (fun u h1 h2 => by omega)).1 q e
  refine ⟨q1, q2, agr_iff.mpr (fun u hu hf => by rw [q3 u hu hf, ha u hu hf]), fun r h1 h2 hr => ?_⟩
  have hr := agr_iff.mp hr
  have := q4 r (by omega) h1 (fun u hu hf => by rw [hr u hu hf, ha u hu hf])
  omega
theorem fol_last (hs : ∀ v, v < nv → 0 < sz v) {p : Nat} (hp : p < Tp sz nv 0) (ha : agr sz nv fx h p = true) (e : fol sz nv fx nv p = none) : ∀ r, p < r → r < Tp sz nv 0 → ¬ agr sz nv fx h r = true := by
  have ha := agr_iff.mp ha
  intro r h1 h2 hr
  have hr := agr_iff.mp hr
  exact (fol_spec hs fx p hp nv p (Nat.le_refl _) hp (fun _ _ => rfl) (fun u h1 h2 => by omega)).2 e r h2 h1 (fun u hu hf => by rw [hr u hu hf, ha u hu hf])
end
/-- THE LOOP over allowed plans: cur is the plan that is come to (or none), n how many were; R holds of what was gone over -/
theorem en_loop {α : Type} {sz : Nat → Nat} {nv : Nat} {fx : Nat → Bool} {h : Nat} {f : α → Nat → α} {a : α} (hs : ∀ v, v < nv → 0 < sz v) (hh : h < Tp sz nv 0) (L : Option Nat → Nat → α → Prop) (hend : ∀ n, L none n (fA (agr sz nv fx h) f a (Tp sz nv 0)))
    (hstep : ∀ p n s, p < Tp sz nv 0 → n ≤ p → agr sz nv fx h p = true → L (fol sz nv fx nv p) (n + 1) (f s p) → L (some p) n s) : L (some (low sz nv fx nv h)) 0 a := by
  have go : ∀ (m p n : Nat), Tp sz nv 0 ≤ p + m → p < Tp sz nv 0 → n ≤ p → agr sz nv fx h p = true → L (some p) n (fA (agr sz nv fx h) f a p) := by
    intro m
    induction m with
    | zero => intro p n h1 h2; omega
    | succ m ih =>
      intro p n h1 h2 h3 h4
      refine hstep p n _ h2 h3 h4 ?_
      cases e : fol sz nv fx nv p with
      | none =>
        have := fA_next (A := agr sz nv fx h) (f := f) (a := a) h4 h2 (fol_last hs h2 h4 e)
        rw [← this]
        exact hend _
      | some q =>
        obtain ⟨q1, q2, q3, q4⟩ := fol_next hs h2 h4 e
        rw [← fA_next (A := agr sz nv fx h) (f := f) (a := a) h4 q2 q4]
        exact ih q (n + 1) (by omega) q1 (by omega) q3
  obtain ⟨l1, l2, l3⟩ := low_first (fx := fx) hs hh
  have := go (Tp sz nv 0) (low sz nv fx nv h) 0 (by omega) l1 (Nat.zero_le _) l2
  rw [fA_first l3] at this
  exact this
