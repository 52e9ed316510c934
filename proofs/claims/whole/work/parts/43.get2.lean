/-! more calls that only look -/
section
variable {E : EE} {d : Nat} {G : AH} {x m a : Nat} {A : Nat → Nat} {i : Int32}
/-- what the reference answers of a byte of a row -/
def atM (n : Int32) (f : Nat → Int32) (i : Int32) : Int32 := if i < 0 then -1 else if i < n then f i.toNatClampNeg &&& 255 else -1
theorem s_X11_byteAt (h0 : 0 < d) (h : XSh E G x A) (hN : gN G (A 25) < 2 ^ 31) : wpI E d M_X11_byteAt [vr x, vi i] G (fun r G1 => r = atF (gI G (A 24) 1) (gN G (A 25)) (gI G (A 25)) i ∧ G1 = G) := by
  refine wpM_of mk_X11_byteAt (Nat.le_of_ble_eq_true rfl) ?_
  refine v_X11_byteAt_0 h0 ⟨h.1, ?_⟩
  rw [xl_7 h, xl_23_0 h]
  refine ⟨xo_23 h, xo_24 h, wpI.mono (s_X0_at (xo_24 h) (by rw [xl_24_0 h]; exact xo_25 h) (by rw [xl_24_0 h]; exact hN)) (fun r G1 q => ?_)⟩
  rw [xl_24_0 h] at q
  exact ⟨_, rfl, q.1, q.2⟩
theorem s_X12_tapeAt (h : MSh E G m) (hn : gI G m 1 ≤ 20000) : wpI E d M_X12_tapeAt [vr m, vi i] G (fun r G1 => r = atM (gI G m 1) (gI G (m + 1)) i ∧ G1 = G) := by
  obtain ⟨a1, a2, a3⟩ := mh_tape h
  refine wpM_of mk_X12_tapeAt (Nat.le_of_ble_eq_true rfl) ?_
  refine v_X12_tapeAt_0 ⟨fun c => v_X12_tapeAt_12 ⟨_, rfl, by unfold atM; rw [if_pos c], rfl⟩, fun c => ⟨h.1, fun c2 => ?_, fun c2 => v_X12_tapeAt_12 ⟨_, rfl, by unfold atM; rw [if_neg c, if_neg c2], rfl⟩⟩⟩
  rw [a1]
  exact ⟨a2, by rw [a3]; exact vp_in_lt c (Int32.lt_of_lt_of_le c2 hn) (by decide), _, rfl, by unfold atM; rw [if_neg c, if_pos c2], rfl⟩
theorem s_X12_byteAt (h : MSh E G m) (hn : gI G m 89 ≤ 20000) : wpI E d M_X12_byteAt [vr m, vi i] G (fun r G1 => r = atM (gI G m 89) (gI G (m + 59)) i ∧ G1 = G) := by
  obtain ⟨a1, a2, a3⟩ := mh_store h
  refine wpM_of mk_X12_byteAt (Nat.le_of_ble_eq_true rfl) ?_
  refine v_X12_byteAt_0 ⟨fun c => v_X12_byteAt_12 ⟨_, rfl, by unfold atM; rw [if_pos c], rfl⟩, fun c => ⟨h.1, fun c2 => ?_, fun c2 => v_X12_byteAt_12 ⟨_, rfl, by unfold atM; rw [if_neg c, if_neg c2], rfl⟩⟩⟩
  rw [a1]
  exact ⟨a2, by rw [a3]; exact vp_in_lt c (Int32.lt_of_lt_of_le c2 hn) (by decide), _, rfl, by unfold atM; rw [if_neg c, if_pos c2], rfl⟩
end
