/-! calls that only look -/
section
variable {E : EE} {d : Nat} {G : AH} {x m a : Nat} {A : Nat → Nat} {i : Int32}
theorem vp_in_nle {p : Int32} {n : Nat} (h0 : ¬ p < 0) (h : ¬ nI n ≤ p) (hn : n < 2 ^ 31) : vp_in p n := by
  rw [Int32.not_le] at h
  exact vp_in_lt h0 h (nI_toInt hn)
/-- what Bytes.at answers -/
def atF (n : Int32) (cap : Nat) (f : Nat → Int32) (i : Int32) : Int32 := if i < 0 then -1 else if n ≤ i then -1 else if nI cap ≤ i then -1 else f i.toNatClampNeg &&& 255
theorem s_X0_at (h1 : isO E G a 0) (h2 : isO E G (gR G a 0) 13) (hN : gN G (gR G a 0) < 2 ^ 31) : wpI E d M_X0_at [vr a, vi i] G (fun r G1 => r = atF (gI G a 1) (gN G (gR G a 0)) (gI G (gR G a 0)) i ∧ G1 = G) := by
  refine wpM_of mk_X0_at (Nat.le_of_ble_eq_true rfl) ?_
  refine v_X0_at_0 ⟨fun c => ⟨_, rfl, by unfold atF; rw [if_pos c], rfl⟩, fun c => ⟨h1, fun c2 => ⟨_, rfl, by unfold atF; rw [if_neg c, if_pos c2], rfl⟩, fun c2 => ⟨h2, fun c3 => ⟨_, rfl, by unfold atF; rw [if_neg c, if_neg c2, if_pos c3], rfl⟩, fun c3 => ⟨vp_in_nle c c3 hN, ⟨_, rfl, by unfold atF; rw [if_neg c, if_neg c2, if_neg c3], rfl⟩⟩⟩⟩⟩
theorem s_X11_fault (h : isO E G x 11) : wpI E d M_X11_fault [vr x] G (fun r G1 => r = gI G x 9 ∧ G1 = G) := by
  refine wpM_of mk_X11_fault (Nat.le_of_ble_eq_true rfl) ?_
  exact v_X11_fault_0 ⟨h, _, rfl, rfl, rfl⟩
theorem s_X12_fault (h : isO E G m 12) : wpI E d M_X12_fault [vr m] G (fun r G1 => r = gI G m 4 ∧ G1 = G) := by
  refine wpM_of mk_X12_fault (Nat.le_of_ble_eq_true rfl) ?_
  exact v_X12_fault_0 ⟨h, _, rfl, rfl, rfl⟩
theorem s_X11_above (h : isO E G x 11) : wpJ E d M_X11_above [vr x] G (fun r G1 => r = gJ G x 10 ∧ G1 = G) := by
  refine wpM_of mk_X11_above (Nat.le_of_ble_eq_true rfl) ?_
  exact v_X11_above_0 ⟨h, _, rfl, rfl, rfl⟩
theorem s_X12_above (h : isO E G m 12) : wpJ E d M_X12_above [vr m] G (fun r G1 => r = gJ G m 2 ∧ G1 = G) := by
  refine wpM_of mk_X12_above (Nat.le_of_ble_eq_true rfl) ?_
  exact v_X12_above_0 ⟨h, _, rfl, rfl, rfl⟩
theorem s_X11_below (h : isO E G x 11) : wpJ E d M_X11_below [vr x] G (fun r G1 => r = gJ G x 11 ∧ G1 = G) := by
  refine wpM_of mk_X11_below (Nat.le_of_ble_eq_true rfl) ?_
  exact v_X11_below_0 ⟨h, _, rfl, rfl, rfl⟩
theorem s_X12_below (h : isO E G m 12) : wpJ E d M_X12_below [vr m] G (fun r G1 => r = gJ G m 3 ∧ G1 = G) := by
  refine wpM_of mk_X12_below (Nat.le_of_ble_eq_true rfl) ?_
  exact v_X12_below_0 ⟨h, _, rfl, rfl, rfl⟩
theorem s_X11_rows (h : XSh E G x A) : wpI E d M_X11_rows [vr x] G (fun r G1 => r = gI G (A 23) 1 ∧ G1 = G) := by
  refine wpM_of mk_X11_rows (Nat.le_of_ble_eq_true rfl) ?_
  refine v_X11_rows_0 ⟨h.1, ?_⟩
  rw [xl_7 h]
  exact ⟨xo_23 h, _, rfl, rfl, rfl⟩
theorem s_X12_rows (h : isO E G m 12) : wpI E d M_X12_rows [vr m] G (fun r G1 => r = gI G m 91 ∧ G1 = G) := by
  refine wpM_of mk_X12_rows (Nat.le_of_ble_eq_true rfl) ?_
  exact v_X12_rows_0 ⟨h, _, rfl, rfl, rfl⟩
theorem s_X11_size (h : XSh E G x A) : wpI E d M_X11_size [vr x] G (fun r G1 => r = gI G (A 24) 1 ∧ G1 = G) := by
  refine wpM_of mk_X11_size (Nat.le_of_ble_eq_true rfl) ?_
  refine v_X11_size_0 ⟨h.1, ?_⟩
  rw [xl_7 h, xl_23_0 h]
  exact ⟨xo_23 h, xo_24 h, _, rfl, rfl, rfl⟩
theorem s_X12_size (h : isO E G m 12) : wpI E d M_X12_size [vr m] G (fun r G1 => r = gI G m 89 ∧ G1 = G) := by
  refine wpM_of mk_X12_size (Nat.le_of_ble_eq_true rfl) ?_
  exact v_X12_size_0 ⟨h, _, rfl, rfl, rfl⟩
theorem s_X11_tapeAt (h0 : 0 < d) (h : XSh E G x A) (hN : gN G (A 1) < 2 ^ 31) : wpI E d M_X11_tapeAt [vr x, vi i] G (fun r G1 => r = atF (gI G (A 0) 1) (gN G (A 1)) (gI G (A 1)) i ∧ G1 = G) := by
  refine wpM_of mk_X11_tapeAt (Nat.le_of_ble_eq_true rfl) ?_
  refine v_X11_tapeAt_0 h0 ⟨h.1, ?_⟩
  rw [xl_0 h]
  refine ⟨xo_0 h, wpI.mono (s_X0_at (xo_0 h) (by rw [xl_0_0 h]; exact xo_1 h) (by rw [xl_0_0 h]; exact hN)) (fun r G1 q => ?_)⟩
  rw [xl_0_0 h] at q
  exact ⟨_, rfl, q.1, q.2⟩
end
