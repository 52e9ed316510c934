/-! calls that name a problem, where there is none (by program) -/
section
variable {E : EE} {d : Nat} {G : AH} {x m : Nat} {A : Nat → Nat}
theorem n_drop {a0 : Int32} (h0 : 1 < d) (h : XSh E G x A) (hn : gR G (A 9) = fun _ => 0) : wpI E d M_X11_drop [vr x, vi a0] G (fun r G1 => r = 0 ∧ G1 = G) := by
  refine wpM_of mk_X11_drop (Nat.le_of_ble_eq_true rfl) ?_
  refine v_X11_drop_0 (by omega) ⟨h.1, wpR.mono (known_null h hn) (fun r G1 q => ?_)⟩
  obtain ⟨rfl, rfl⟩ := q
  first | exact ⟨fun _ => ⟨_, rfl, rfl, rfl⟩, fun q => absurd rfl q⟩ | exact ⟨fun q => absurd rfl q, fun _ => ⟨_, rfl, rfl, rfl⟩⟩
theorem n_count {a0 : Int32} {a1 : Int32} (h0 : 1 < d) (h : XSh E G x A) (hn : gR G (A 9) = fun _ => 0) : wpI E d M_X11_count [vr x, vi a0, vi a1] G (fun r G1 => r = (-1) ∧ G1 = G) := by
  refine wpM_of mk_X11_count (Nat.le_of_ble_eq_true rfl) ?_
  refine v_X11_count_0 (by omega) ⟨h.1, wpR.mono (known_null h hn) (fun r G1 q => ?_)⟩
  obtain ⟨rfl, rfl⟩ := q
  first | exact ⟨fun _ => ⟨_, rfl, rfl, rfl⟩, fun q => absurd rfl q⟩ | exact ⟨fun q => absurd rfl q, fun _ => ⟨_, rfl, rfl, rfl⟩⟩
theorem n_find {a0 : Int32} (h0 : 1 < d) (h : XSh E G x A) (hn : gR G (A 9) = fun _ => 0) : wpI E d M_X11_find [vr x, vi a0] G (fun r G1 => r = (-1) ∧ G1 = G) := by
  refine wpM_of mk_X11_find (Nat.le_of_ble_eq_true rfl) ?_
  refine v_X11_find_0 (by omega) ⟨h.1, wpR.mono (known_null h hn) (fun r G1 q => ?_)⟩
  obtain ⟨rfl, rfl⟩ := q
  first | exact ⟨fun _ => ⟨_, rfl, rfl, rfl⟩, fun q => absurd rfl q⟩ | exact ⟨fun q => absurd rfl q, fun _ => ⟨_, rfl, rfl, rfl⟩⟩
theorem n_letter {a0 : Int32} {a1 : Int32} {a2 : Int32} {a3 : Int32} (h0 : 1 < d) (h : XSh E G x A) (hn : gR G (A 9) = fun _ => 0) : wpI E d M_X11_letter [vr x, vi a0, vi a1, vi a2, vi a3] G (fun r G1 => r = (-1) ∧ G1 = G) := by
  refine wpM_of mk_X11_letter (Nat.le_of_ble_eq_true rfl) ?_
  refine v_X11_letter_0 (by omega) ⟨h.1, wpR.mono (known_null h hn) (fun r G1 q => ?_)⟩
  obtain ⟨rfl, rfl⟩ := q
  first | exact ⟨fun _ => ⟨_, rfl, rfl, rfl⟩, fun q => absurd rfl q⟩ | exact ⟨fun q => absurd rfl q, fun _ => ⟨_, rfl, rfl, rfl⟩⟩
theorem n_shown {a0 : Int32} {a1 : Int32} {a2 : Int32} (h0 : 1 < d) (h : XSh E G x A) (hn : gR G (A 9) = fun _ => 0) : wpI E d M_X11_shown [vr x, vi a0, vi a1, vi a2] G (fun r G1 => r = (-1) ∧ G1 = G) := by
  refine wpM_of mk_X11_shown (Nat.le_of_ble_eq_true rfl) ?_
  refine v_X11_shown_0 (by omega) ⟨h.1, wpR.mono (known_null h hn) (fun r G1 q => ?_)⟩
  obtain ⟨rfl, rfl⟩ := q
  first | exact ⟨fun _ => ⟨_, rfl, rfl, rfl⟩, fun q => absurd rfl q⟩ | exact ⟨fun q => absurd rfl q, fun _ => ⟨_, rfl, rfl, rfl⟩⟩
theorem n_range {a0 : Int32} {a1 : Int32} {a2 : Int32} (h0 : 1 < d) (h : XSh E G x A) (hn : gR G (A 9) = fun _ => 0) : wpJ E d M_X11_range [vr x, vi a0, vi a1, vi a2] G (fun r G1 => r = (-9223372036854775808) ∧ G1 = G) := by
  refine wpM_of mk_X11_range (Nat.le_of_ble_eq_true rfl) ?_
  refine v_X11_range_0 (by omega) ⟨h.1, wpR.mono (known_null h hn) (fun r G1 q => ?_)⟩
  obtain ⟨rfl, rfl⟩ := q
  first | exact ⟨fun _ => ⟨_, rfl, rfl, rfl⟩, fun q => absurd rfl q⟩ | exact ⟨fun q => absurd rfl q, fun _ => ⟨_, rfl, rfl, rfl⟩⟩
theorem n_rule {a0 : Int32} {a1 : Int32} {a2 : Int32} (h0 : 1 < d) (h : XSh E G x A) (hn : gR G (A 9) = fun _ => 0) : wpI E d M_X11_rule [vr x, vi a0, vi a1, vi a2] G (fun r G1 => r = (-1) ∧ G1 = G) := by
  refine wpM_of mk_X11_rule (Nat.le_of_ble_eq_true rfl) ?_
  refine v_X11_rule_0 (by omega) ⟨h.1, wpR.mono (known_null h hn) (fun r G1 q => ?_)⟩
  obtain ⟨rfl, rfl⟩ := q
  first | exact ⟨fun _ => ⟨_, rfl, rfl, rfl⟩, fun q => absurd rfl q⟩ | exact ⟨fun q => absurd rfl q, fun _ => ⟨_, rfl, rfl, rfl⟩⟩
theorem n_fact {a0 : Int32} {a1 : Int32} (h0 : 1 < d) (h : XSh E G x A) (hn : gR G (A 9) = fun _ => 0) : wpJ E d M_X11_fact [vr x, vi a0, vi a1] G (fun r G1 => r = (-9223372036854775808) ∧ G1 = G) := by
  refine wpM_of mk_X11_fact (Nat.le_of_ble_eq_true rfl) ?_
  refine v_X11_fact_0 (by omega) ⟨h.1, wpR.mono (known_null h hn) (fun r G1 q => ?_)⟩
  obtain ⟨rfl, rfl⟩ := q
  first | exact ⟨fun _ => v_X11_fact_18 ⟨_, rfl, rfl, rfl⟩, fun q => absurd rfl q⟩ | exact ⟨fun q => absurd rfl q, fun _ => v_X11_fact_18 ⟨_, rfl, rfl, rfl⟩⟩
theorem n_change {a0 : Int32} {a1 : Int32} {a2 : Int32} (h0 : 1 < d) (h : XSh E G x A) (hn : gR G (A 9) = fun _ => 0) : wpI E d M_X11_change [vr x, vi a0, vi a1, vi a2] G (fun r G1 => r = 0 ∧ G1 = G) := by
  refine wpM_of mk_X11_change (Nat.le_of_ble_eq_true rfl) ?_
  refine v_X11_change_0 (by omega) ⟨h.1, wpR.mono (known_null h hn) (fun r G1 q => ?_)⟩
  obtain ⟨rfl, rfl⟩ := q
  first | exact ⟨fun _ => ⟨_, rfl, rfl, rfl⟩, fun q => absurd rfl q⟩ | exact ⟨fun q => absurd rfl q, fun _ => ⟨_, rfl, rfl, rfl⟩⟩
theorem n_value {a0 : Int32} {a1 : Int32} (h0 : 1 < d) (h : XSh E G x A) (hn : gR G (A 9) = fun _ => 0) : wpJ E d M_X11_value [vr x, vi a0, vi a1] G (fun r G1 => r = (-9223372036854775808) ∧ G1 = G) := by
  refine wpM_of mk_X11_value (Nat.le_of_ble_eq_true rfl) ?_
  refine v_X11_value_0 (by omega) ⟨h.1, wpR.mono (known_null h hn) (fun r G1 q => ?_)⟩
  obtain ⟨rfl, rfl⟩ := q
  first | exact ⟨fun _ => v_X11_value_21 ⟨_, rfl, rfl, rfl⟩, fun q => absurd rfl q⟩ | exact ⟨fun q => absurd rfl q, fun _ => v_X11_value_21 ⟨_, rfl, rfl, rfl⟩⟩
theorem n_put {a0 : Int32} {a1 : Int32} {a2 : Int32} (h0 : 1 < d) (h : XSh E G x A) (hn : gR G (A 9) = fun _ => 0) : wpI E d M_X11_put [vr x, vi a0, vi a1, vi a2] G (fun r G1 => r = 0 ∧ G1 = G) := by
  refine wpM_of mk_X11_put (Nat.le_of_ble_eq_true rfl) ?_
  refine v_X11_put_0 (by omega) ⟨h.1, wpR.mono (known_null h hn) (fun r G1 q => ?_)⟩
  obtain ⟨rfl, rfl⟩ := q
  first | exact ⟨fun _ => ⟨_, rfl, rfl, rfl⟩, fun q => absurd rfl q⟩ | exact ⟨fun q => absurd rfl q, fun _ => ⟨_, rfl, rfl, rfl⟩⟩
theorem n_pin {a0 : Int32} {a1 : Int32} {a2 : Int32} (h0 : 1 < d) (h : XSh E G x A) (hn : gR G (A 9) = fun _ => 0) : wpI E d M_X11_pin [vr x, vi a0, vi a1, vi a2] G (fun r G1 => r = 0 ∧ G1 = G) := by
  refine wpM_of mk_X11_pin (Nat.le_of_ble_eq_true rfl) ?_
  refine v_X11_pin_0 (by omega) ⟨h.1, wpR.mono (known_null h hn) (fun r G1 q => ?_)⟩
  obtain ⟨rfl, rfl⟩ := q
  first | exact ⟨fun _ => ⟨_, rfl, rfl, rfl⟩, fun q => absurd rfl q⟩ | exact ⟨fun q => absurd rfl q, fun _ => ⟨_, rfl, rfl, rfl⟩⟩
theorem n_weigh {a0 : Int32} {a1 : Int32} {a2 : Int32} (h0 : 1 < d) (h : XSh E G x A) (hn : gR G (A 9) = fun _ => 0) : wpI E d M_X11_weigh [vr x, vi a0, vi a1, vi a2] G (fun r G1 => r = (-1) ∧ G1 = G) := by
  refine wpM_of mk_X11_weigh (Nat.le_of_ble_eq_true rfl) ?_
  refine v_X11_weigh_0 (by omega) ⟨h.1, wpR.mono (known_null h hn) (fun r G1 q => ?_)⟩
  obtain ⟨rfl, rfl⟩ := q
  first | exact ⟨fun _ => ⟨_, rfl, rfl, rfl⟩, fun q => absurd rfl q⟩ | exact ⟨fun q => absurd rfl q, fun _ => ⟨_, rfl, rfl, rfl⟩⟩
theorem n_broken {a0 : Int32} {a1 : Int32} (h0 : 1 < d) (h : XSh E G x A) (hn : gR G (A 9) = fun _ => 0) : wpI E d M_X11_broken [vr x, vi a0, vi a1] G (fun r G1 => r = (-1) ∧ G1 = G) := by
  refine wpM_of mk_X11_broken (Nat.le_of_ble_eq_true rfl) ?_
  refine v_X11_broken_0 (by omega) ⟨h.1, wpR.mono (known_null h hn) (fun r G1 q => ?_)⟩
  obtain ⟨rfl, rfl⟩ := q
  first | exact ⟨fun _ => ⟨_, rfl, rfl, rfl⟩, fun q => absurd rfl q⟩ | exact ⟨fun q => absurd rfl q, fun _ => ⟨_, rfl, rfl, rfl⟩⟩
theorem n_aim {a0 : Int32} {a1 : Int32} (h0 : 1 < d) (h : XSh E G x A) (hn : gR G (A 9) = fun _ => 0) : wpJ E d M_X11_aim [vr x, vi a0, vi a1] G (fun r G1 => r = (-9223372036854775808) ∧ G1 = G) := by
  refine wpM_of mk_X11_aim (Nat.le_of_ble_eq_true rfl) ?_
  refine v_X11_aim_0 (by omega) ⟨h.1, wpR.mono (known_null h hn) (fun r G1 q => ?_)⟩
  obtain ⟨rfl, rfl⟩ := q
  first | exact ⟨fun _ => ⟨_, rfl, rfl, rfl⟩, fun q => absurd rfl q⟩ | exact ⟨fun q => absurd rfl q, fun _ => ⟨_, rfl, rfl, rfl⟩⟩
theorem n_score {a0 : Int32} {a1 : Int32} (h0 : 1 < d) (h : XSh E G x A) (hn : gR G (A 9) = fun _ => 0) : wpJ E d M_X11_score [vr x, vi a0, vi a1] G (fun r G1 => r = (-9223372036854775808) ∧ G1 = G) := by
  refine wpM_of mk_X11_score (Nat.le_of_ble_eq_true rfl) ?_
  refine v_X11_score_0 (by omega) ⟨h.1, wpR.mono (known_null h hn) (fun r G1 q => ?_)⟩
  obtain ⟨rfl, rfl⟩ := q
  first | exact ⟨fun _ => ⟨_, rfl, rfl, rfl⟩, fun q => absurd rfl q⟩ | exact ⟨fun q => absurd rfl q, fun _ => ⟨_, rfl, rfl, rfl⟩⟩
theorem n_feasible {a0 : Int32} (h0 : 1 < d) (h : XSh E G x A) (hn : gR G (A 9) = fun _ => 0) : wpI E d M_X11_feasible [vr x, vi a0] G (fun r G1 => r = 0 ∧ G1 = G) := by
  refine wpM_of mk_X11_feasible (Nat.le_of_ble_eq_true rfl) ?_
  refine v_X11_feasible_0 (by omega) ⟨h.1, wpR.mono (known_null h hn) (fun r G1 q => ?_)⟩
  obtain ⟨rfl, rfl⟩ := q
  first | exact ⟨fun _ => ⟨_, rfl, rfl, rfl⟩, fun q => absurd rfl q⟩ | exact ⟨fun q => absurd rfl q, fun _ => ⟨_, rfl, rfl, rfl⟩⟩
theorem n_reach {a0 : Int32} (h0 : 1 < d) (h : XSh E G x A) (hn : gR G (A 9) = fun _ => 0) : wpI E d M_X11_reach [vr x, vi a0] G (fun r G1 => r = (-1) ∧ G1 = G) := by
  refine wpM_of mk_X11_reach (Nat.le_of_ble_eq_true rfl) ?_
  refine v_X11_reach_0 (by omega) ⟨h.1, wpR.mono (scored_null (by omega) h hn) (fun r G1 q => ?_)⟩
  obtain ⟨rfl, rfl⟩ := q
  first | exact ⟨fun _ => ⟨_, rfl, rfl, rfl⟩, fun q => absurd rfl q⟩ | exact ⟨fun q => absurd rfl q, fun _ => ⟨_, rfl, rfl, rfl⟩⟩
theorem n_isLeft {a0 : Int32} {a1 : Int32} {a2 : Int32} (h0 : 1 < d) (h : XSh E G x A) (hn : gR G (A 9) = fun _ => 0) : wpI E d M_X11_isLeft [vr x, vi a0, vi a1, vi a2] G (fun r G1 => r = 0 ∧ G1 = G) := by
  refine wpM_of mk_X11_isLeft (Nat.le_of_ble_eq_true rfl) ?_
  refine v_X11_isLeft_0 (by omega) ⟨h.1, wpR.mono (scored_null (by omega) h hn) (fun r G1 q => ?_)⟩
  obtain ⟨rfl, rfl⟩ := q
  first | exact ⟨fun _ => ⟨_, rfl, rfl, rfl⟩, fun q => absurd rfl q⟩ | exact ⟨fun q => absurd rfl q, fun _ => ⟨_, rfl, rfl, rfl⟩⟩
theorem n_hopeless {a0 : Int32} (h0 : 1 < d) (h : XSh E G x A) (hn : gR G (A 9) = fun _ => 0) : wpI E d M_X11_hopeless [vr x, vi a0] G (fun r G1 => r = (-1) ∧ G1 = G) := by
  refine wpM_of mk_X11_hopeless (Nat.le_of_ble_eq_true rfl) ?_
  refine v_X11_hopeless_0 (by omega) ⟨h.1, wpR.mono (scored_null (by omega) h hn) (fun r G1 q => ?_)⟩
  obtain ⟨rfl, rfl⟩ := q
  first | exact ⟨fun _ => ⟨_, rfl, rfl, rfl⟩, fun q => absurd rfl q⟩ | exact ⟨fun q => absurd rfl q, fun _ => ⟨_, rfl, rfl, rfl⟩⟩
theorem n_solve {a0 : Int32} (h0 : 1 < d) (h : XSh E G x A) (hn : gR G (A 9) = fun _ => 0) : wpI E d M_X11_solve [vr x, vi a0] G (fun r G1 => r = (-1) ∧ G1 = G) := by
  refine wpM_of mk_X11_solve (Nat.le_of_ble_eq_true rfl) ?_
  refine v_X11_solve_0 (by omega) ⟨h.1, wpR.mono (scored_null (by omega) h hn) (fun r G1 q => ?_)⟩
  obtain ⟨rfl, rfl⟩ := q
  first | exact ⟨fun _ => ⟨_, rfl, rfl, rfl⟩, fun q => absurd rfl q⟩ | exact ⟨fun q => absurd rfl q, fun _ => ⟨_, rfl, rfl, rfl⟩⟩
theorem n_best {a0 : Int32} {a1 : Int32} (h0 : 1 < d) (h : XSh E G x A) (hn : gR G (A 9) = fun _ => 0) : wpJ E d M_X11_best [vr x, vi a0, vi a1] G (fun r G1 => r = (-9223372036854775808) ∧ G1 = G) := by
  refine wpM_of mk_X11_best (Nat.le_of_ble_eq_true rfl) ?_
  refine v_X11_best_0 (by omega) ⟨h.1, wpR.mono (scored_null (by omega) h hn) (fun r G1 q => ?_)⟩
  obtain ⟨rfl, rfl⟩ := q
  first | exact ⟨fun _ => ⟨_, rfl, rfl, rfl⟩, fun q => absurd rfl q⟩ | exact ⟨fun q => absurd rfl q, fun _ => ⟨_, rfl, rfl, rfl⟩⟩
theorem n_bests {a0 : Int32} (h0 : 1 < d) (h : XSh E G x A) (hn : gR G (A 9) = fun _ => 0) : wpI E d M_X11_bests [vr x, vi a0] G (fun r G1 => r = (-1) ∧ G1 = G) := by
  refine wpM_of mk_X11_bests (Nat.le_of_ble_eq_true rfl) ?_
  refine v_X11_bests_0 (by omega) ⟨h.1, wpR.mono (scored_null (by omega) h hn) (fun r G1 q => ?_)⟩
  obtain ⟨rfl, rfl⟩ := q
  first | exact ⟨fun _ => ⟨_, rfl, rfl, rfl⟩, fun q => absurd rfl q⟩ | exact ⟨fun q => absurd rfl q, fun _ => ⟨_, rfl, rfl, rfl⟩⟩
theorem n_bestAt {a0 : Int32} {a1 : Int32} (h0 : 1 < d) (h : XSh E G x A) (hn : gR G (A 9) = fun _ => 0) : wpI E d M_X11_bestAt [vr x, vi a0, vi a1] G (fun r G1 => r = 0 ∧ G1 = G) := by
  refine wpM_of mk_X11_bestAt (Nat.le_of_ble_eq_true rfl) ?_
  refine v_X11_bestAt_0 (by omega) ⟨h.1, wpR.mono (scored_null (by omega) h hn) (fun r G1 q => ?_)⟩
  obtain ⟨rfl, rfl⟩ := q
  first | exact ⟨fun _ => ⟨_, rfl, rfl, rfl⟩, fun q => absurd rfl q⟩ | exact ⟨fun q => absurd rfl q, fun _ => ⟨_, rfl, rfl, rfl⟩⟩
theorem n_feasibles {a0 : Int32} (h0 : 1 < d) (h : XSh E G x A) (hn : gR G (A 9) = fun _ => 0) : wpI E d M_X11_feasibles [vr x, vi a0] G (fun r G1 => r = (-1) ∧ G1 = G) := by
  refine wpM_of mk_X11_feasibles (Nat.le_of_ble_eq_true rfl) ?_
  refine v_X11_feasibles_0 (by omega) ⟨h.1, wpR.mono (scored_null (by omega) h hn) (fun r G1 q => ?_)⟩
  obtain ⟨rfl, rfl⟩ := q
  first | exact ⟨fun _ => ⟨_, rfl, rfl, rfl⟩, fun q => absurd rfl q⟩ | exact ⟨fun q => absurd rfl q, fun _ => ⟨_, rfl, rfl, rfl⟩⟩
theorem n_feasibleAt {a0 : Int32} {a1 : Int32} (h0 : 1 < d) (h : XSh E G x A) (hn : gR G (A 9) = fun _ => 0) : wpI E d M_X11_feasibleAt [vr x, vi a0, vi a1] G (fun r G1 => r = 0 ∧ G1 = G) := by
  refine wpM_of mk_X11_feasibleAt (Nat.le_of_ble_eq_true rfl) ?_
  refine v_X11_feasibleAt_0 (by omega) ⟨h.1, wpR.mono (scored_null (by omega) h hn) (fun r G1 q => ?_)⟩
  obtain ⟨rfl, rfl⟩ := q
  first | exact ⟨fun _ => ⟨_, rfl, rfl, rfl⟩, fun q => absurd rfl q⟩ | exact ⟨fun q => absurd rfl q, fun _ => ⟨_, rfl, rfl, rfl⟩⟩
theorem n_has {a0 : Int32} {a1 : Int32} {a2 : Int32} {a3 : Int32} (h0 : 1 < d) (h : XSh E G x A) (hn : gR G (A 9) = fun _ => 0) : wpI E d M_X11_has [vr x, vi a0, vi a1, vi a2, vi a3] G (fun r G1 => r = (-1) ∧ G1 = G) := by
  refine wpM_of mk_X11_has (Nat.le_of_ble_eq_true rfl) ?_
  refine v_X11_has_0 (by omega) ⟨h.1, wpR.mono (scored_null (by omega) h hn) (fun r G1 q => ?_)⟩
  obtain ⟨rfl, rfl⟩ := q
  first | exact ⟨fun _ => ⟨_, rfl, rfl, rfl⟩, fun q => absurd rfl q⟩ | exact ⟨fun q => absurd rfl q, fun _ => ⟨_, rfl, rfl, rfl⟩⟩
theorem n_choices {a0 : Int32} {a1 : Int32} (h0 : 1 < d) (h : XSh E G x A) (hn : gR G (A 9) = fun _ => 0) : wpI E d M_X11_choices [vr x, vi a0, vi a1] G (fun r G1 => r = (-1) ∧ G1 = G) := by
  refine wpM_of mk_X11_choices (Nat.le_of_ble_eq_true rfl) ?_
  refine v_X11_choices_0 (by omega) ⟨h.1, wpR.mono (scored_null (by omega) h hn) (fun r G1 q => ?_)⟩
  obtain ⟨rfl, rfl⟩ := q
  first | exact ⟨fun _ => ⟨_, rfl, rfl, rfl⟩, fun q => absurd rfl q⟩ | exact ⟨fun q => absurd rfl q, fun _ => ⟨_, rfl, rfl, rfl⟩⟩
theorem n_mend {a0 : Int32} {a1 : Int32} (h0 : 1 < d) (h : XSh E G x A) (hn : gR G (A 9) = fun _ => 0) : wpI E d M_X11_mend [vr x, vi a0, vi a1] G (fun r G1 => r = (-1) ∧ G1 = G) := by
  refine wpM_of mk_X11_mend (Nat.le_of_ble_eq_true rfl) ?_
  refine v_X11_mend_0 (by omega) ⟨h.1, wpR.mono (scored_null (by omega) h hn) (fun r G1 q => ?_)⟩
  obtain ⟨rfl, rfl⟩ := q
  first | exact ⟨fun _ => ⟨_, rfl, rfl, rfl⟩, fun q => absurd rfl q⟩ | exact ⟨fun q => absurd rfl q, fun _ => ⟨_, rfl, rfl, rfl⟩⟩
theorem n_front {a0 : Int32} (h0 : 1 < d) (h : XSh E G x A) (hn : gR G (A 9) = fun _ => 0) : wpI E d M_X11_front [vr x, vi a0] G (fun r G1 => r = (-1) ∧ G1 = G) := by
  refine wpM_of mk_X11_front (Nat.le_of_ble_eq_true rfl) ?_
  refine v_X11_front_0 (by omega) ⟨h.1, wpR.mono (scored_null (by omega) h hn) (fun r G1 q => ?_)⟩
  obtain ⟨rfl, rfl⟩ := q
  first | exact ⟨fun _ => ⟨_, rfl, rfl, rfl⟩, fun q => absurd rfl q⟩ | exact ⟨fun q => absurd rfl q, fun _ => ⟨_, rfl, rfl, rfl⟩⟩
theorem n_frontAt {a0 : Int32} {a1 : Int32} {a2 : Int32} (h0 : 1 < d) (h : XSh E G x A) (hn : gR G (A 9) = fun _ => 0) : wpJ E d M_X11_frontAt [vr x, vi a0, vi a1, vi a2] G (fun r G1 => r = (-9223372036854775808) ∧ G1 = G) := by
  refine wpM_of mk_X11_frontAt (Nat.le_of_ble_eq_true rfl) ?_
  refine v_X11_frontAt_0 (by omega) ⟨h.1, wpR.mono (scored_null (by omega) h hn) (fun r G1 q => ?_)⟩
  obtain ⟨rfl, rfl⟩ := q
  first | exact ⟨fun _ => ⟨_, rfl, rfl, rfl⟩, fun q => absurd rfl q⟩ | exact ⟨fun q => absurd rfl q, fun _ => ⟨_, rfl, rfl, rfl⟩⟩
theorem n_frontPlan {a0 : Int32} {a1 : Int32} (h0 : 1 < d) (h : XSh E G x A) (hn : gR G (A 9) = fun _ => 0) : wpI E d M_X11_frontPlan [vr x, vi a0, vi a1] G (fun r G1 => r = 0 ∧ G1 = G) := by
  refine wpM_of mk_X11_frontPlan (Nat.le_of_ble_eq_true rfl) ?_
  refine v_X11_frontPlan_0 (by omega) ⟨h.1, wpR.mono (scored_null (by omega) h hn) (fun r G1 q => ?_)⟩
  obtain ⟨rfl, rfl⟩ := q
  first | exact ⟨fun _ => ⟨_, rfl, rfl, rfl⟩, fun q => absurd rfl q⟩ | exact ⟨fun q => absurd rfl q, fun _ => ⟨_, rfl, rfl, rfl⟩⟩
theorem n_near {a0 : Int32} {a1 : Int32} (h0 : 1 < d) (h : XSh E G x A) (hn : gR G (A 9) = fun _ => 0) : wpI E d M_X11_near [vr x, vi a0, vi a1] G (fun r G1 => r = (-1) ∧ G1 = G) := by
  refine wpM_of mk_X11_near (Nat.le_of_ble_eq_true rfl) ?_
  refine v_X11_near_0 (by omega) ⟨h.1, wpR.mono (scored_null (by omega) h hn) (fun r G1 q => ?_)⟩
  obtain ⟨rfl, rfl⟩ := q
  first | exact ⟨fun _ => ⟨_, rfl, rfl, rfl⟩, fun q => absurd rfl q⟩ | exact ⟨fun q => absurd rfl q, fun _ => ⟨_, rfl, rfl, rfl⟩⟩
theorem n_clash {a0 : Int32} (h0 : 1 < d) (h : XSh E G x A) (hn : gR G (A 9) = fun _ => 0) : wpI E d M_X11_clash [vr x, vi a0] G (fun r G1 => r = (-1) ∧ G1 = G) := by
  refine wpM_of mk_X11_clash (Nat.le_of_ble_eq_true rfl) ?_
  refine v_X11_clash_0 (by omega) ⟨h.1, wpR.mono (scored_null (by omega) h hn) (fun r G1 q => ?_)⟩
  obtain ⟨rfl, rfl⟩ := q
  first | exact ⟨fun _ => ⟨_, rfl, rfl, rfl⟩, fun q => absurd rfl q⟩ | exact ⟨fun q => absurd rfl q, fun _ => ⟨_, rfl, rfl, rfl⟩⟩
theorem n_fewest {a0 : Int32} (h0 : 1 < d) (h : XSh E G x A) (hn : gR G (A 9) = fun _ => 0) : wpI E d M_X11_fewest [vr x, vi a0] G (fun r G1 => r = (-1) ∧ G1 = G) := by
  refine wpM_of mk_X11_fewest (Nat.le_of_ble_eq_true rfl) ?_
  refine v_X11_fewest_0 (by omega) ⟨h.1, wpR.mono (scored_null (by omega) h hn) (fun r G1 q => ?_)⟩
  obtain ⟨rfl, rfl⟩ := q
  first | exact ⟨fun _ => ⟨_, rfl, rfl, rfl⟩, fun q => absurd rfl q⟩ | exact ⟨fun q => absurd rfl q, fun _ => ⟨_, rfl, rfl, rfl⟩⟩
theorem n_relax {a0 : Int32} (h0 : 1 < d) (h : XSh E G x A) (hn : gR G (A 9) = fun _ => 0) : wpI E d M_X11_relax [vr x, vi a0] G (fun r G1 => r = (-1) ∧ G1 = G) := by
  refine wpM_of mk_X11_relax (Nat.le_of_ble_eq_true rfl) ?_
  refine v_X11_relax_0 (by omega) ⟨h.1, wpR.mono (scored_null (by omega) h hn) (fun r G1 q => ?_)⟩
  obtain ⟨rfl, rfl⟩ := q
  first | exact ⟨fun _ => ⟨_, rfl, rfl, rfl⟩, fun q => absurd rfl q⟩ | exact ⟨fun q => absurd rfl q, fun _ => ⟨_, rfl, rfl, rfl⟩⟩
theorem n_without {a0 : Int32} {a1 : Int32} {a2 : Int32} (h0 : 1 < d) (h : XSh E G x A) (hn : gR G (A 9) = fun _ => 0) : wpJ E d M_X11_without [vr x, vi a0, vi a1, vi a2] G (fun r G1 => r = (-9223372036854775808) ∧ G1 = G) := by
  refine wpM_of mk_X11_without (Nat.le_of_ble_eq_true rfl) ?_
  refine v_X11_without_0 (by omega) ⟨h.1, wpR.mono (scored_null (by omega) h hn) (fun r G1 q => ?_)⟩
  obtain ⟨rfl, rfl⟩ := q
  first | exact ⟨fun _ => ⟨_, rfl, rfl, rfl⟩, fun q => absurd rfl q⟩ | exact ⟨fun q => absurd rfl q, fun _ => ⟨_, rfl, rfl, rfl⟩⟩
theorem n_whyNot {a0 : Int32} {a1 : Int32} {a2 : Int32} {a3 : Int32} (h0 : 1 < d) (h : XSh E G x A) (hn : gR G (A 9) = fun _ => 0) : wpJ E d M_X11_whyNot [vr x, vi a0, vi a1, vi a2, vi a3] G (fun r G1 => r = (-9223372036854775808) ∧ G1 = G) := by
  refine wpM_of mk_X11_whyNot (Nat.le_of_ble_eq_true rfl) ?_
  refine v_X11_whyNot_0 (by omega) ⟨h.1, wpR.mono (scored_null (by omega) h hn) (fun r G1 q => ?_)⟩
  obtain ⟨rfl, rfl⟩ := q
  first | exact ⟨fun _ => ⟨_, rfl, rfl, rfl⟩, fun q => absurd rfl q⟩ | exact ⟨fun q => absurd rfl q, fun _ => ⟨_, rfl, rfl, rfl⟩⟩
theorem n_because {a0 : Int32} {a1 : Int32} {a2 : Int32} (h0 : 1 < d) (h : XSh E G x A) (hn : gR G (A 9) = fun _ => 0) : wpI E d M_X11_because [vr x, vi a0, vi a1, vi a2] G (fun r G1 => r = (-1) ∧ G1 = G) := by
  refine wpM_of mk_X11_because (Nat.le_of_ble_eq_true rfl) ?_
  refine v_X11_because_0 (by omega) ⟨h.1, wpR.mono (scored_null (by omega) h hn) (fun r G1 q => ?_)⟩
  obtain ⟨rfl, rfl⟩ := q
  first | exact ⟨fun _ => ⟨_, rfl, rfl, rfl⟩, fun q => absurd rfl q⟩ | exact ⟨fun q => absurd rfl q, fun _ => ⟨_, rfl, rfl, rfl⟩⟩
theorem n_future {a0 : Int32} {a1 : Int32} (h0 : 1 < d) (h : XSh E G x A) (hn : gR G (A 9) = fun _ => 0) : wpI E d M_X11_future [vr x, vi a0, vi a1] G (fun r G1 => r = (-1) ∧ G1 = G) := by
  refine wpM_of mk_X11_future (Nat.le_of_ble_eq_true rfl) ?_
  refine v_X11_future_0 (by omega) ⟨h.1, wpR.mono (known_null h hn) (fun r G1 q => ?_)⟩
  obtain ⟨rfl, rfl⟩ := q
  first | exact ⟨fun _ => ⟨_, rfl, rfl, rfl⟩, fun q => absurd rfl q⟩ | exact ⟨fun q => absurd rfl q, fun _ => ⟨_, rfl, rfl, rfl⟩⟩
theorem n_told {a0 : Int32} {a1 : Int32} {a2 : Int32} {a3 : Int32} (h0 : 1 < d) (h : XSh E G x A) (hn : gR G (A 9) = fun _ => 0) : wpI E d M_X11_told [vr x, vi a0, vi a1, vi a2, vi a3] G (fun r G1 => r = 0 ∧ G1 = G) := by
  refine wpM_of mk_X11_told (Nat.le_of_ble_eq_true rfl) ?_
  refine v_X11_told_0 (by omega) ⟨h.1, wpR.mono (known_null h hn) (fun r G1 q => ?_)⟩
  obtain ⟨rfl, rfl⟩ := q
  first | exact ⟨fun _ => ⟨_, rfl, rfl, rfl⟩, fun q => absurd rfl q⟩ | exact ⟨fun q => absurd rfl q, fun _ => ⟨_, rfl, rfl, rfl⟩⟩
theorem n_unfold {a0 : Int32} (h0 : 1 < d) (h : XSh E G x A) (hn : gR G (A 9) = fun _ => 0) : wpI E d M_X11_unfold [vr x, vi a0] G (fun r G1 => r = (-1) ∧ G1 = G) := by
  refine wpM_of mk_X11_unfold (Nat.le_of_ble_eq_true rfl) ?_
  refine v_X11_unfold_0 (by omega) ⟨h.1, wpR.mono (known_null h hn) (fun r G1 q => ?_)⟩
  obtain ⟨rfl, rfl⟩ := q
  first | exact ⟨fun _ => ⟨_, rfl, rfl, rfl⟩, fun q => absurd rfl q⟩ | exact ⟨fun q => absurd rfl q, fun _ => ⟨_, rfl, rfl, rfl⟩⟩
theorem n_robust {a0 : Int32} (h0 : 1 < d) (h : XSh E G x A) (hn : gR G (A 9) = fun _ => 0) : wpI E d M_X11_robust [vr x, vi a0] G (fun r G1 => r = (-1) ∧ G1 = G) := by
  refine wpM_of mk_X11_robust (Nat.le_of_ble_eq_true rfl) ?_
  refine v_X11_robust_0 (by omega) ⟨h.1, wpR.mono (known_null h hn) (fun r G1 q => ?_)⟩
  obtain ⟨rfl, rfl⟩ := q
  first | exact ⟨fun _ => ⟨_, rfl, rfl, rfl⟩, fun q => absurd rfl q⟩ | exact ⟨fun q => absurd rfl q, fun _ => ⟨_, rfl, rfl, rfl⟩⟩
theorem n_expected {a0 : Int32} {a1 : Int32} (h0 : 1 < d) (h : XSh E G x A) (hn : gR G (A 9) = fun _ => 0) : wpJ E d M_X11_expected [vr x, vi a0, vi a1] G (fun r G1 => r = (-9223372036854775808) ∧ G1 = G) := by
  refine wpM_of mk_X11_expected (Nat.le_of_ble_eq_true rfl) ?_
  refine v_X11_expected_0 (by omega) ⟨h.1, wpR.mono (known_null h hn) (fun r G1 q => ?_)⟩
  obtain ⟨rfl, rfl⟩ := q
  first | exact ⟨fun _ => ⟨_, rfl, rfl, rfl⟩, fun q => absurd rfl q⟩ | exact ⟨fun q => absurd rfl q, fun _ => ⟨_, rfl, rfl, rfl⟩⟩
theorem n_regret {a0 : Int32} {a1 : Int32} (h0 : 1 < d) (h : XSh E G x A) (hn : gR G (A 9) = fun _ => 0) : wpJ E d M_X11_regret [vr x, vi a0, vi a1] G (fun r G1 => r = (-9223372036854775808) ∧ G1 = G) := by
  refine wpM_of mk_X11_regret (Nat.le_of_ble_eq_true rfl) ?_
  refine v_X11_regret_0 (by omega) ⟨h.1, wpR.mono (known_null h hn) (fun r G1 q => ?_)⟩
  obtain ⟨rfl, rfl⟩ := q
  first | exact ⟨fun _ => ⟨_, rfl, rfl, rfl⟩, fun q => absurd rfl q⟩ | exact ⟨fun q => absurd rfl q, fun _ => ⟨_, rfl, rfl, rfl⟩⟩
theorem n_search {a0 : Int32} {a1 : Int32} {a2 : Int32} {a3 : Int32} {a4 : Int32} (h0 : 1 < d) (h : XSh E G x A) (hn : gR G (A 9) = fun _ => 0) : wpI E d M_X11_search [vr x, vi a0, vi a1, vi a2, vi a3, vi a4] G (fun r G1 => r = (-1) ∧ G1 = G) := by
  refine wpM_of mk_X11_search (Nat.le_of_ble_eq_true rfl) ?_
  refine v_X11_search_0 (by omega) ⟨h.1, wpR.mono (known_null h hn) (fun r G1 q => ?_)⟩
  obtain ⟨rfl, rfl⟩ := q
  first | exact ⟨fun _ => ⟨_, rfl, rfl, rfl⟩, fun q => absurd rfl q⟩ | exact ⟨fun q => absurd rfl q, fun _ => ⟨_, rfl, rfl, rfl⟩⟩
theorem n_check {a0 : Int32} (h0 : 1 < d) (h : XSh E G x A) (hn : gR G (A 9) = fun _ => 0) : wpI E d M_X11_check [vr x, vi a0] G (fun r G1 => r = (-100000) ∧ G1 = G) := by
  refine wpM_of mk_X11_check (Nat.le_of_ble_eq_true rfl) ?_
  refine v_X11_check_0 (by omega) ⟨h.1, wpR.mono (scored_null (by omega) h hn) (fun r G1 q => ?_)⟩
  obtain ⟨rfl, rfl⟩ := q
  first | exact ⟨fun _ => ⟨_, rfl, rfl, rfl⟩, fun q => absurd rfl q⟩ | exact ⟨fun q => absurd rfl q, fun _ => ⟨_, rfl, rfl, rfl⟩⟩
theorem n_prove {a0 : Int32} (h0 : 1 < d) (h : XSh E G x A) (hn : gR G (A 9) = fun _ => 0) : wpI E d M_X11_prove [vr x, vi a0] G (fun r G1 => r = (-1) ∧ G1 = G) := by
  refine wpM_of mk_X11_prove (Nat.le_of_ble_eq_true rfl) ?_
  refine v_X11_prove_0 (by omega) ⟨h.1, wpR.mono (scored_null (by omega) h hn) (fun r G1 q => ?_)⟩
  obtain ⟨rfl, rfl⟩ := q
  first | exact ⟨fun _ => ⟨_, rfl, rfl, rfl⟩, fun q => absurd rfl q⟩ | exact ⟨fun q => absurd rfl q, fun _ => ⟨_, rfl, rfl, rfl⟩⟩
theorem n_save {a0 : Int32} (h0 : 1 < d) (h : XSh E G x A) (hn : gR G (A 9) = fun _ => 0) : wpI E d M_X11_save [vr x, vi a0] G (fun r G1 => r = (-1) ∧ G1 = G) := by
  refine wpM_of mk_X11_save (Nat.le_of_ble_eq_true rfl) ?_
  refine v_X11_save_0 (by omega) ⟨h.1, wpR.mono (known_null h hn) (fun r G1 q => ?_)⟩
  obtain ⟨rfl, rfl⟩ := q
  first | exact ⟨fun _ => ⟨_, rfl, rfl, rfl⟩, fun q => absurd rfl q⟩ | exact ⟨fun q => absurd rfl q, fun _ => ⟨_, rfl, rfl, rfl⟩⟩
end
