/-! cut -/
section
variable {E : EE} {d : Nat} {G : AH} {x m a : Nat} {A : Nat → Nat} {i : Int32}
/-- the heap behind Bytes.keep -/
def keepG (G : AH) (a : Nat) (n : Int32) : AH := if n < 0 then G else if gI G a 1 ≤ n then G else sI G a 1 n
theorem s_X0_keep (h1 : isO E G a 0) : wpV E d M_X0_keep [vr a, vi i] G (fun G1 => G1 = keepG G a i) := by
  refine wpM_of mk_X0_keep (Nat.le_of_ble_eq_true rfl) ?_
  refine v_X0_keep_0 ⟨fun c => ⟨rfl, by unfold keepG; rw [if_pos c]⟩, fun c => ⟨h1, fun c2 => ⟨rfl, by unfold keepG; rw [if_neg c, if_pos c2]⟩, fun c2 => ⟨rfl, by unfold keepG; rw [if_neg c, if_neg c2]⟩⟩⟩
end
