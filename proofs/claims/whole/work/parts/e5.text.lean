/-! texts that have the same bytes -/
section
variable {t t' : Nat → Int32} {n : Nat}
theorem skb_ext : ∀ (k : Nat) (r : Bool) (i : Nat), (∀ j, i ≤ j → j < i + k → bt t j = bt t' j) → skb t k r i = skb t' k r i := by
  intro k
  induction k with
  | zero => intro r i _; rfl
  | succ k ih =>
    intro r i h
    rw [skb, skb, h i (Nat.le_refl i) (by omega), ih false (i + 1) (fun j h1 h2 => h j (by omega) (by omega)), ih true (i + 1) (fun j h1 h2 => h j (by omega) (by omega)), ih r (i + 1) (fun j h1 h2 => h j (by omega) (by omega))]
theorem rnw_ext {P : Nat → Bool} : ∀ (k i : Nat), (∀ j, i ≤ j → j < i + k → bt t j = bt t' j) → rnw P t k i = rnw P t' k i := by
  intro k
  induction k with
  | zero => intro i _; rfl
  | succ k ih =>
    intro i h
    rw [rnw, rnw, h i (Nat.le_refl i) (by omega), ih (i + 1) (fun j h1 h2 => h j (by omega) (by omega))]
theorem dcn_ext {f f' : Nat → Nat} : ∀ k, (∀ j, j < k → f j = f' j) → dcn f k = dcn f' k := by
  intro k
  induction k with
  | zero => intro _; rfl
  | succ k ih => intro h; rw [dcn, dcn, ih (fun j hj => h j (by omega)), h k (by omega)]
theorem tkP_ext (h : ∀ j, j < n → bt t j = bt t' j) (p : Nat) : tkP t n p = tkP t' n p := by
  unfold tkP
  by_cases c : n ≤ p
  · rw [if_pos c, if_pos c]
  · have e0 := h p (by omega)
    have eA := rnw_ext (P := isA) (t := t) (t' := t') (n - p) p (fun j h1 h2 => h j (by omega))
    have eF := rnw_ext (P := isF) (t := t) (t' := t') (n - p) p (fun j h1 h2 => h j (by omega))
    have lA := (rnw_in isA t (n - p) p).2.1
    have lF := (rnw_in isF t (n - p) p).2.1
    have n1 : tkName t n p = tkName t' n p := by
      unfold tkName
      rw [← eA, pkb_ext (f := bf t p) (f' := bf t' p) (rnw isA t (n - p) p - p) (fun j hj => h (p + j) (by omega))]
    have n2 : tkNum t n p = tkNum t' n p := by
      unfold tkNum
      rw [← eF, dcn_ext (f := bf t p) (f' := bf t' p) (rnw isF t (n - p) p - p) (fun j hj => h (p + j) (by omega))]
    have n3 : tkSign t n p = tkSign t' n p := by
      unfold tkSign
      rw [e0]
      by_cases c1 : p + 1 < n
      · rw [if_pos c1, if_pos c1, h (p + 1) c1]
      · rw [if_neg c1, if_neg c1]
    rw [if_neg c, if_neg c, e0, n1, n2, n3]
theorem tkA_ext (h : ∀ j, j < n → bt t j = bt t' j) {i : Nat} (hi : i ≤ n) : tkA t n i = tkA t' n i := by
  unfold tkA
  rw [skb_ext (t := t) (t' := t') (n - i) false i (fun j h1 h2 => h j (by omega)), tkP_ext h]
theorem tps_n (t : Nat → Int32) (n j : Nat) : tps t n j ≤ n := by
  cases j with
  | zero => exact Nat.zero_le _
  | succ j => exact (tkT_ok t n j).2.2.2.1
theorem tps_ext (h : ∀ j, j < n → bt t j = bt t' j) : ∀ j, tps t n j = tps t' n j := by
  intro j
  induction j with
  | zero => rfl
  | succ j ih =>
    show (tkA t n (tps t n j)).e = (tkA t' n (tps t' n j)).e
    rw [← ih, tkA_ext h (tps_n t n j)]
theorem tkT_ext (h : ∀ j, j < n → bt t j = bt t' j) : tkT t n = tkT t' n := funext fun j => by
  show tkA t n (tps t n j) = tkA t' n (tps t' n j)
  rw [← tps_ext h, tkA_ext h (tps_n t n j)]
theorem tln_ext (h : ∀ j, j < n → bt t j = bt t' j) : tln t n = tln t' n := by unfold tln; rw [tkT_ext h]
end
