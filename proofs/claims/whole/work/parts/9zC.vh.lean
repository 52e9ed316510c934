/-! values of the reference: all together -/
section
variable {E : EE} {p : Nat} {T : Nat → TK} {M : MN} {L nf nv : Nat} {fa se nt : Nat → Int32}
theorem PV_zero {tag x o : Nat} : PV E p T M L nf nv fa se nt 0 tag x o := fun _ _ _ _ _ _ _ _ _ _ _ _ hf => absurd hf (Nat.not_lt_zero _)
theorem PL_zero {tag x o : Nat} : PL E p T M L nf nv fa se nt 0 tag x o := fun _ _ _ _ _ _ _ _ _ _ _ _ _ hf => absurd hf (Nat.not_lt_zero _)
theorem PV_all (hT : TL T L) (hL : L ≤ 20000) (hg : EG T M nf nv fa se) (hS : SpH E p T M L nv fa se nt) : ∀ (f o : Nat), (∀ tag, tag ≤ 6 → PV E p T M L nf nv fa se nt f tag 0 o) ∧ ∀ tag x, (tag = 11 ∨ tag = 12 ∨ tag = 14 ∨ tag = 15 ∨ tag = 17 ∨ tag = 18) → PL E p T M L nf nv fa se nt f tag x o := by
  have hT2 : ∀ j, (T j).1 < 317 := fun j => (hg.1 j).1
  intro f
  induction f with
  | zero => exact fun o => ⟨fun tag _ => PV_zero, fun tag x _ => PL_zero⟩
  | succ f ih =>
    intro o
    have a := ih o
    have b := ih (o + 1)
    refine ⟨fun tag ht => ?_, fun tag x ht => ?_⟩
    · have ht' : tag = 0 ∨ tag = 3 ∨ tag = 6 ∨ (tag = 1 ∨ tag = 2 ∨ tag = 4 ∨ tag = 5) := by omega
      rcases ht' with rfl | rfl | rfl | ht'
      · exact PV_test hT hT2 (a.1 1 (by decide)) (fun _ => b.1 0 (by decide))
      · exact PV_unit hT hL hT2 hS (fun _ => b.1 3 (by decide)) (fun _ => b.1 0 (by decide)) (a.1 4 (by decide))
      · exact PV_factor hT hL hg (fun _ => b.1 6 (by decide)) (fun _ => b.1 0 (by decide)) (fun _ => b.1 4 (by decide)) (fun _ => b.2 17 19 (by decide)) (fun _ => b.2 18 19 (by decide))
      · exact PV_q hT hT2 ht' (a.1 (tag + 1) (by omega)) (a.2 (tag + 10) 0 (by omega))
    · refine PL_loop hT ht (a.1 (lps tag) ?_) (a.2 tag (x - 1) ht)
      rcases ht with rfl | rfl | rfl | rfl | rfl | rfl <;> decide
end
