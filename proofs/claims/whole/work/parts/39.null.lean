/-! where there is no problem -/
theorem vp_in_lt {p M : Int32} {n : Nat} (h0 : ¬ p < 0) (h : p < M) (hM : M.toInt = n) : vp_in p n := by
  rw [vp_in_iff]
  rw [Int32.lt_iff_toInt_lt] at h0 h
  rw [hM] at h
  exact ⟨by simpa using h0, h⟩
section
variable {E : EE} {d : Nat} {G : AH} {x m : Nat} {A : Nat → Nat}
theorem known_null {p : Int32} (h : XSh E G x A) (hn : gR G (A 9) = fun _ => 0) : wpR E d M_X11_known [vr x, vi p] G (fun r G1 => r = 0 ∧ G1 = G) := by
  refine wpM_of mk_X11_known (Nat.le_of_ble_eq_true rfl) ?_
  refine v_X11_known_0 ⟨fun _ => ⟨0, rfl, rfl, rfl⟩, fun h0 => ⟨fun h4 => ?_, fun _ => ⟨0, rfl, rfl, rfl⟩⟩⟩
  rw [xl_3 h, hn]
  exact ⟨h.1, xo_9 h, by rw [xn_9 h]; exact vp_in_lt h0 h4 (by decide), fun _ => ⟨0, rfl, rfl, rfl⟩, fun q => absurd rfl q⟩
theorem scored_null {p : Int32} (h0 : 0 < d) (h : XSh E G x A) (hn : gR G (A 9) = fun _ => 0) : wpR E d M_X11_scored [vr x, vi p] G (fun r G1 => r = 0 ∧ G1 = G) := by
  refine wpM_of mk_X11_scored (Nat.le_of_ble_eq_true rfl) ?_
  refine v_X11_scored_0 h0 ⟨h.1, wpR.mono (known_null h hn) (fun r G1 q => ?_)⟩
  obtain ⟨rfl, rfl⟩ := q
  first
    | exact ⟨fun _ => ⟨0, rfl, rfl, rfl⟩, fun q => absurd rfl q⟩
    | exact ⟨fun _ => v_X11_scored_18 ⟨0, rfl, rfl, rfl⟩, fun q => absurd rfl q⟩
theorem isProblem_null {p : Int32} (h : MSh E G m) (hn : gI G (m + 2) = fun _ => 0) : wpI E d M_X12_isProblem [vr m, vi p] G (fun r G1 => r = 0 ∧ G1 = G) := by
  obtain ⟨a1, a2, a3⟩ := mh_used h
  refine wpM_of mk_X12_isProblem (Nat.le_of_ble_eq_true rfl) ?_
  refine v_X12_isProblem_0 ⟨fun _ => ⟨0, rfl, rfl, rfl⟩, fun h0 => ⟨fun _ => ⟨0, rfl, rfl, rfl⟩, fun h4 => ?_⟩⟩
  rw [a1, hn]
  have h5 : p < 5 := by
    rw [Int32.not_le, Int32.lt_iff_toInt_lt] at h4
    rw [Int32.lt_iff_toInt_lt]
    have e4 : (4 : Int32).toInt = 4 := by decide
    have e5 : (5 : Int32).toInt = 5 := by decide
    omega
  exact ⟨h.1, a2, by rw [a3]; exact vp_in_lt h0 h5 (by decide), fun _ => ⟨0, rfl, rfl, rfl⟩, fun q => absurd rfl q⟩
end
