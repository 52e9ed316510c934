/-! searched -/
section
variable {E : EE} {d : Nat} {G : AH} {x m a : Nat} {A : Nat → Nat} {i : Int32}
def schF (ran t z k i : Int32) : Int32 := if ran = 0 then -1 else if i = 0 then t else if i = 1 then z else if i = 2 then k else -1
theorem s_X11_searched (h : XSh E G x A) : wpI E d M_X11_searched [vr x, vi i] G (fun r G1 => r = schF (gI G (A 16) 0) (gI G (A 16) 1) (gI G (A 16) 2) (gI G (A 16) 3) i ∧ G1 = G) := by
  refine wpM_of mk_X11_searched (Nat.le_of_ble_eq_true rfl) ?_
  refine v_X11_searched_0 ⟨h.1, ?_⟩
  rw [xl_5 h]
  refine ⟨xo_16 h, fun c => ⟨fun c1 => ⟨_, rfl, ?_, rfl⟩, fun c2 => ⟨_, rfl, ?_, rfl⟩, fun c3 => ⟨_, rfl, ?_, rfl⟩, fun c1 c2 c3 => ⟨_, rfl, ?_, rfl⟩⟩, fun c => ⟨_, rfl, ?_, rfl⟩⟩
  · unfold schF; rw [if_neg c, if_pos c1]
  · subst c2; unfold schF; rw [if_neg c, if_neg (by decide), if_pos rfl]
  · subst c3; unfold schF; rw [if_neg c, if_neg (by decide), if_neg (by decide), if_pos rfl]
  · unfold schF; rw [if_neg c, if_neg c1, if_neg c2, if_neg c3]
  · unfold schF; rw [if_pos c]
theorem s_X12_searched (h : MSh E G m) : wpI E d M_X12_searched [vr m, vi i] G (fun r G1 => r = schF (gI G m 79) (gI G m 77) (gI G m 76) (gI G m 78) i ∧ G1 = G) := by
  refine wpM_of mk_X12_searched (Nat.le_of_ble_eq_true rfl) ?_
  refine v_X12_searched_0 ⟨h.1, fun c => ⟨fun c1 => ⟨fun c2 => ⟨fun c3 => ⟨_, rfl, ?_, rfl⟩, fun c3 => ⟨_, rfl, ?_, rfl⟩⟩, fun c2 => ⟨_, rfl, ?_, rfl⟩⟩, fun c1 => ⟨_, rfl, ?_, rfl⟩⟩, fun c => ⟨_, rfl, ?_, rfl⟩⟩
  · unfold schF; rw [if_neg c, if_neg c1, if_neg c2, if_neg c3]
  · unfold schF; rw [if_neg c, if_neg c1, if_neg c2, if_pos c3]
  · unfold schF; rw [if_neg c, if_neg c1, if_pos c2]
  · unfold schF; rw [if_neg c, if_pos c1]
  · unfold schF; rw [if_pos c]
end
