/-! the same of the reference (by program) -/
section
variable {E : EE} {d : Nat} {G : AH} {m : Nat}
theorem k_isFact {a0 : Int32} {a1 : Int32} (h0 : 1 < d) (h : MSh E G m) (hn : gI G (m + 2) = fun _ => 0) : wpI E d M_X12_isFact [vr m, vi a0, vi a1] G (fun r G1 => r = 0 ∧ G1 = G) := by
  refine wpM_of mk_X12_isFact (Nat.le_of_ble_eq_true rfl) ?_
  refine v_X12_isFact_0 (by omega) ⟨h.1, wpI.mono (isProblem_null h hn) (fun r G1 q => ?_)⟩
  obtain ⟨rfl, rfl⟩ := q
  first | exact ⟨fun _ => ⟨_, rfl, rfl, rfl⟩, fun q => absurd rfl q⟩ | exact ⟨fun q => absurd rfl q, fun _ => ⟨_, rfl, rfl, rfl⟩⟩
theorem k_isVar {a0 : Int32} {a1 : Int32} (h0 : 1 < d) (h : MSh E G m) (hn : gI G (m + 2) = fun _ => 0) : wpI E d M_X12_isVar [vr m, vi a0, vi a1] G (fun r G1 => r = 0 ∧ G1 = G) := by
  refine wpM_of mk_X12_isVar (Nat.le_of_ble_eq_true rfl) ?_
  refine v_X12_isVar_0 (by omega) ⟨h.1, wpI.mono (isProblem_null h hn) (fun r G1 q => ?_)⟩
  obtain ⟨rfl, rfl⟩ := q
  first | exact ⟨fun _ => ⟨_, rfl, rfl, rfl⟩, fun q => absurd rfl q⟩ | exact ⟨fun q => absurd rfl q, fun _ => ⟨_, rfl, rfl, rfl⟩⟩
theorem k_isRule {a0 : Int32} {a1 : Int32} (h0 : 1 < d) (h : MSh E G m) (hn : gI G (m + 2) = fun _ => 0) : wpI E d M_X12_isRule [vr m, vi a0, vi a1] G (fun r G1 => r = 0 ∧ G1 = G) := by
  refine wpM_of mk_X12_isRule (Nat.le_of_ble_eq_true rfl) ?_
  refine v_X12_isRule_0 (by omega) ⟨h.1, wpI.mono (isProblem_null h hn) (fun r G1 q => ?_)⟩
  obtain ⟨rfl, rfl⟩ := q
  first | exact ⟨fun _ => ⟨_, rfl, rfl, rfl⟩, fun q => absurd rfl q⟩ | exact ⟨fun q => absurd rfl q, fun _ => ⟨_, rfl, rfl, rfl⟩⟩
theorem k_planAt {a0 : Int32} {a1 : Int32} {a2 : Int32} (h0 : 1 < d) (h : MSh E G m) (hn : gI G (m + 2) = fun _ => 0) : wpI E d M_X12_planAt [vr m, vi a0, vi a1, vi a2] G (fun r G1 => r = 0 ∧ G1 = G) := by
  refine wpM_of mk_X12_planAt (Nat.le_of_ble_eq_true rfl) ?_
  refine v_X12_planAt_0 (by omega) ⟨h.1, wpI.mono (isProblem_null h hn) (fun r G1 q => ?_)⟩
  obtain ⟨rfl, rfl⟩ := q
  first | exact ⟨fun _ => ⟨_, rfl, rfl, rfl⟩, fun q => absurd rfl q⟩ | exact ⟨fun q => absurd rfl q, fun _ => ⟨_, rfl, rfl, rfl⟩⟩
theorem k_drop {a0 : Int32} (h0 : 1 < d) (h : MSh E G m) (hn : gI G (m + 2) = fun _ => 0) : wpI E d M_X12_drop [vr m, vi a0] G (fun r G1 => r = 0 ∧ G1 = G) := by
  refine wpM_of mk_X12_drop (Nat.le_of_ble_eq_true rfl) ?_
  refine v_X12_drop_0 (by omega) ⟨h.1, wpI.mono (isProblem_null h hn) (fun r G1 q => ?_)⟩
  obtain ⟨rfl, rfl⟩ := q
  first | exact ⟨fun _ => ⟨_, rfl, rfl, rfl⟩, fun q => absurd rfl q⟩ | exact ⟨fun q => absurd rfl q, fun _ => ⟨_, rfl, rfl, rfl⟩⟩
theorem k_count {a0 : Int32} {a1 : Int32} (h0 : 1 < d) (h : MSh E G m) (hn : gI G (m + 2) = fun _ => 0) : wpI E d M_X12_count [vr m, vi a0, vi a1] G (fun r G1 => r = (-1) ∧ G1 = G) := by
  refine wpM_of mk_X12_count (Nat.le_of_ble_eq_true rfl) ?_
  refine v_X12_count_0 (by omega) ⟨h.1, wpI.mono (isProblem_null h hn) (fun r G1 q => ?_)⟩
  obtain ⟨rfl, rfl⟩ := q
  first | exact ⟨fun _ => ⟨_, rfl, rfl, rfl⟩, fun q => absurd rfl q⟩ | exact ⟨fun q => absurd rfl q, fun _ => ⟨_, rfl, rfl, rfl⟩⟩
theorem k_find {a0 : Int32} (h0 : 1 < d) (h : MSh E G m) (hn : gI G (m + 2) = fun _ => 0) : wpI E d M_X12_find [vr m, vi a0] G (fun r G1 => r = (-1) ∧ G1 = G) := by
  refine wpM_of mk_X12_find (Nat.le_of_ble_eq_true rfl) ?_
  refine v_X12_find_0 (by omega) ⟨h.1, wpI.mono (isProblem_null h hn) (fun r G1 q => ?_)⟩
  obtain ⟨rfl, rfl⟩ := q
  first | exact ⟨fun _ => ⟨_, rfl, rfl, rfl⟩, fun q => absurd rfl q⟩ | exact ⟨fun q => absurd rfl q, fun _ => ⟨_, rfl, rfl, rfl⟩⟩
theorem k_letter {a0 : Int32} {a1 : Int32} {a2 : Int32} {a3 : Int32} (h0 : 1 < d) (h : MSh E G m) (hn : gI G (m + 2) = fun _ => 0) : wpI E d M_X12_letter [vr m, vi a0, vi a1, vi a2, vi a3] G (fun r G1 => r = (-1) ∧ G1 = G) := by
  refine wpM_of mk_X12_letter (Nat.le_of_ble_eq_true rfl) ?_
  refine v_X12_letter_0 (by omega) ⟨h.1, wpI.mono (isProblem_null h hn) (fun r G1 q => ?_)⟩
  obtain ⟨rfl, rfl⟩ := q
  first | exact ⟨fun _ => ⟨_, rfl, rfl, rfl⟩, fun q => absurd rfl q⟩ | exact ⟨fun q => absurd rfl q, fun _ => ⟨_, rfl, rfl, rfl⟩⟩
theorem k_shown {a0 : Int32} {a1 : Int32} {a2 : Int32} (h0 : 1 < d) (h : MSh E G m) (hn : gI G (m + 2) = fun _ => 0) : wpI E d M_X12_shown [vr m, vi a0, vi a1, vi a2] G (fun r G1 => r = (-1) ∧ G1 = G) := by
  refine wpM_of mk_X12_shown (Nat.le_of_ble_eq_true rfl) ?_
  refine v_X12_shown_0 (by omega) ⟨h.1, wpI.mono (isProblem_null h hn) (fun r G1 q => ?_)⟩
  obtain ⟨rfl, rfl⟩ := q
  first | exact ⟨fun _ => ⟨_, rfl, rfl, rfl⟩, fun q => absurd rfl q⟩ | exact ⟨fun q => absurd rfl q, fun _ => ⟨_, rfl, rfl, rfl⟩⟩
theorem k_range {a0 : Int32} {a1 : Int32} {a2 : Int32} (h0 : 2 < d) (h : MSh E G m) (hn : gI G (m + 2) = fun _ => 0) : wpJ E d M_X12_range [vr m, vi a0, vi a1, vi a2] G (fun r G1 => r = (-9223372036854775808) ∧ G1 = G) := by
  refine wpM_of mk_X12_range (Nat.le_of_ble_eq_true rfl) ?_
  refine v_X12_range_0 (by omega) ⟨h.1, wpI.mono (k_isVar (by omega) h hn) (fun r G1 q => ?_)⟩
  obtain ⟨rfl, rfl⟩ := q
  first | exact ⟨fun _ => v_X12_range_28 ⟨_, rfl, rfl, rfl⟩, fun q => absurd rfl q⟩ | exact ⟨fun q => absurd rfl q, fun _ => v_X12_range_28 ⟨_, rfl, rfl, rfl⟩⟩
theorem k_rule {a0 : Int32} {a1 : Int32} {a2 : Int32} (h0 : 2 < d) (h : MSh E G m) (hn : gI G (m + 2) = fun _ => 0) : wpI E d M_X12_rule [vr m, vi a0, vi a1, vi a2] G (fun r G1 => r = (-1) ∧ G1 = G) := by
  refine wpM_of mk_X12_rule (Nat.le_of_ble_eq_true rfl) ?_
  refine v_X12_rule_0 (by omega) ⟨h.1, wpI.mono (k_isRule (by omega) h hn) (fun r G1 q => ?_)⟩
  obtain ⟨rfl, rfl⟩ := q
  first | exact ⟨fun _ => ⟨_, rfl, rfl, rfl⟩, fun q => absurd rfl q⟩ | exact ⟨fun q => absurd rfl q, fun _ => ⟨_, rfl, rfl, rfl⟩⟩
theorem k_fact {a0 : Int32} {a1 : Int32} (h0 : 2 < d) (h : MSh E G m) (hn : gI G (m + 2) = fun _ => 0) : wpJ E d M_X12_fact [vr m, vi a0, vi a1] G (fun r G1 => r = (-9223372036854775808) ∧ G1 = G) := by
  refine wpM_of mk_X12_fact (Nat.le_of_ble_eq_true rfl) ?_
  refine v_X12_fact_0 (by omega) ⟨h.1, wpI.mono (k_isFact (by omega) h hn) (fun r G1 q => ?_)⟩
  obtain ⟨rfl, rfl⟩ := q
  first | exact ⟨fun _ => ⟨_, rfl, rfl, rfl⟩, fun q => absurd rfl q⟩ | exact ⟨fun q => absurd rfl q, fun _ => ⟨_, rfl, rfl, rfl⟩⟩
theorem k_change {a0 : Int32} {a1 : Int32} {a2 : Int32} (h0 : 2 < d) (h : MSh E G m) (hn : gI G (m + 2) = fun _ => 0) : wpI E d M_X12_change [vr m, vi a0, vi a1, vi a2] G (fun r G1 => r = 0 ∧ G1 = G) := by
  refine wpM_of mk_X12_change (Nat.le_of_ble_eq_true rfl) ?_
  refine v_X12_change_0 (by omega) ⟨h.1, wpI.mono (k_isFact (by omega) h hn) (fun r G1 q => ?_)⟩
  obtain ⟨rfl, rfl⟩ := q
  first | exact ⟨fun _ => ⟨_, rfl, rfl, rfl⟩, fun q => absurd rfl q⟩ | exact ⟨fun q => absurd rfl q, fun _ => ⟨_, rfl, rfl, rfl⟩⟩
theorem k_value {a0 : Int32} {a1 : Int32} (h0 : 2 < d) (h : MSh E G m) (hn : gI G (m + 2) = fun _ => 0) : wpJ E d M_X12_value [vr m, vi a0, vi a1] G (fun r G1 => r = (-9223372036854775808) ∧ G1 = G) := by
  refine wpM_of mk_X12_value (Nat.le_of_ble_eq_true rfl) ?_
  refine v_X12_value_0 (by omega) ⟨h.1, wpI.mono (k_isVar (by omega) h hn) (fun r G1 q => ?_)⟩
  obtain ⟨rfl, rfl⟩ := q
  first | exact ⟨fun _ => ⟨_, rfl, rfl, rfl⟩, fun q => absurd rfl q⟩ | exact ⟨fun q => absurd rfl q, fun _ => ⟨_, rfl, rfl, rfl⟩⟩
theorem k_put {a0 : Int32} {a1 : Int32} {a2 : Int32} (h0 : 2 < d) (h : MSh E G m) (hn : gI G (m + 2) = fun _ => 0) : wpI E d M_X12_put [vr m, vi a0, vi a1, vi a2] G (fun r G1 => r = 0 ∧ G1 = G) := by
  refine wpM_of mk_X12_put (Nat.le_of_ble_eq_true rfl) ?_
  refine v_X12_put_0 (by omega) ⟨h.1, wpI.mono (k_isVar (by omega) h hn) (fun r G1 q => ?_)⟩
  obtain ⟨rfl, rfl⟩ := q
  first | exact ⟨fun _ => ⟨_, rfl, rfl, rfl⟩, fun q => absurd rfl q⟩ | exact ⟨fun q => absurd rfl q, fun _ => ⟨_, rfl, rfl, rfl⟩⟩
theorem k_pin {a0 : Int32} {a1 : Int32} {a2 : Int32} (h0 : 2 < d) (h : MSh E G m) (hn : gI G (m + 2) = fun _ => 0) : wpI E d M_X12_pin [vr m, vi a0, vi a1, vi a2] G (fun r G1 => r = 0 ∧ G1 = G) := by
  refine wpM_of mk_X12_pin (Nat.le_of_ble_eq_true rfl) ?_
  refine v_X12_pin_0 (by omega) ⟨h.1, wpI.mono (k_isVar (by omega) h hn) (fun r G1 q => ?_)⟩
  obtain ⟨rfl, rfl⟩ := q
  first | exact ⟨fun _ => ⟨_, rfl, rfl, rfl⟩, fun q => absurd rfl q⟩ | exact ⟨fun q => absurd rfl q, fun _ => ⟨_, rfl, rfl, rfl⟩⟩
theorem k_weigh {a0 : Int32} {a1 : Int32} {a2 : Int32} (h0 : 2 < d) (h : MSh E G m) (hn : gI G (m + 2) = fun _ => 0) : wpI E d M_X12_weigh [vr m, vi a0, vi a1, vi a2] G (fun r G1 => r = (-1) ∧ G1 = G) := by
  refine wpM_of mk_X12_weigh (Nat.le_of_ble_eq_true rfl) ?_
  refine v_X12_weigh_0 (by omega) ⟨h.1, wpI.mono (k_isVar (by omega) h hn) (fun r G1 q => ?_)⟩
  obtain ⟨rfl, rfl⟩ := q
  first | exact ⟨fun _ => ⟨_, rfl, rfl, rfl⟩, fun q => absurd rfl q⟩ | exact ⟨fun q => absurd rfl q, fun _ => ⟨_, rfl, rfl, rfl⟩⟩
theorem k_broken {a0 : Int32} {a1 : Int32} (h0 : 2 < d) (h : MSh E G m) (hn : gI G (m + 2) = fun _ => 0) : wpI E d M_X12_broken [vr m, vi a0, vi a1] G (fun r G1 => r = (-1) ∧ G1 = G) := by
  refine wpM_of mk_X12_broken (Nat.le_of_ble_eq_true rfl) ?_
  refine v_X12_broken_0 (by omega) ⟨h.1, wpI.mono (k_isRule (by omega) h hn) (fun r G1 q => ?_)⟩
  obtain ⟨rfl, rfl⟩ := q
  first | exact ⟨fun _ => ⟨_, rfl, rfl, rfl⟩, fun q => absurd rfl q⟩ | exact ⟨fun q => absurd rfl q, fun _ => ⟨_, rfl, rfl, rfl⟩⟩
theorem k_aim {a0 : Int32} {a1 : Int32} (h0 : 1 < d) (h : MSh E G m) (hn : gI G (m + 2) = fun _ => 0) : wpJ E d M_X12_aim [vr m, vi a0, vi a1] G (fun r G1 => r = (-9223372036854775808) ∧ G1 = G) := by
  refine wpM_of mk_X12_aim (Nat.le_of_ble_eq_true rfl) ?_
  refine v_X12_aim_0 (by omega) ⟨h.1, wpI.mono (isProblem_null h hn) (fun r G1 q => ?_)⟩
  obtain ⟨rfl, rfl⟩ := q
  first | exact ⟨fun _ => ⟨_, rfl, rfl, rfl⟩, fun q => absurd rfl q⟩ | exact ⟨fun q => absurd rfl q, fun _ => ⟨_, rfl, rfl, rfl⟩⟩
theorem k_score {a0 : Int32} {a1 : Int32} (h0 : 1 < d) (h : MSh E G m) (hn : gI G (m + 2) = fun _ => 0) : wpJ E d M_X12_score [vr m, vi a0, vi a1] G (fun r G1 => r = (-9223372036854775808) ∧ G1 = G) := by
  refine wpM_of mk_X12_score (Nat.le_of_ble_eq_true rfl) ?_
  refine v_X12_score_0 (by omega) ⟨h.1, wpI.mono (isProblem_null h hn) (fun r G1 q => ?_)⟩
  obtain ⟨rfl, rfl⟩ := q
  first | exact ⟨fun _ => ⟨_, rfl, rfl, rfl⟩, fun q => absurd rfl q⟩ | exact ⟨fun q => absurd rfl q, fun _ => ⟨_, rfl, rfl, rfl⟩⟩
theorem k_feasible {a0 : Int32} (h0 : 1 < d) (h : MSh E G m) (hn : gI G (m + 2) = fun _ => 0) : wpI E d M_X12_feasible [vr m, vi a0] G (fun r G1 => r = 0 ∧ G1 = G) := by
  refine wpM_of mk_X12_feasible (Nat.le_of_ble_eq_true rfl) ?_
  refine v_X12_feasible_0 (by omega) ⟨h.1, wpI.mono (isProblem_null h hn) (fun r G1 q => ?_)⟩
  obtain ⟨rfl, rfl⟩ := q
  first | exact ⟨fun _ => ⟨_, rfl, rfl, rfl⟩, fun q => absurd rfl q⟩ | exact ⟨fun q => absurd rfl q, fun _ => ⟨_, rfl, rfl, rfl⟩⟩
theorem k_reach {a0 : Int32} (h0 : 1 < d) (h : MSh E G m) (hn : gI G (m + 2) = fun _ => 0) : wpI E d M_X12_reach [vr m, vi a0] G (fun r G1 => r = (-1) ∧ G1 = G) := by
  refine wpM_of mk_X12_reach (Nat.le_of_ble_eq_true rfl) ?_
  refine v_X12_reach_0 (by omega) ⟨h.1, wpI.mono (isProblem_null h hn) (fun r G1 q => ?_)⟩
  obtain ⟨rfl, rfl⟩ := q
  first | exact ⟨fun _ => ⟨_, rfl, rfl, rfl⟩, fun q => absurd rfl q⟩ | exact ⟨fun q => absurd rfl q, fun _ => ⟨_, rfl, rfl, rfl⟩⟩
theorem k_isLeft {a0 : Int32} {a1 : Int32} {a2 : Int32} (h0 : 2 < d) (h : MSh E G m) (hn : gI G (m + 2) = fun _ => 0) : wpI E d M_X12_isLeft [vr m, vi a0, vi a1, vi a2] G (fun r G1 => r = 0 ∧ G1 = G) := by
  refine wpM_of mk_X12_isLeft (Nat.le_of_ble_eq_true rfl) ?_
  refine v_X12_isLeft_0 (by omega) ⟨h.1, wpI.mono (k_isVar (by omega) h hn) (fun r G1 q => ?_)⟩
  obtain ⟨rfl, rfl⟩ := q
  first | exact ⟨fun _ => ⟨_, rfl, rfl, rfl⟩, fun q => absurd rfl q⟩ | exact ⟨fun q => absurd rfl q, fun _ => ⟨_, rfl, rfl, rfl⟩⟩
theorem k_hopeless {a0 : Int32} (h0 : 1 < d) (h : MSh E G m) (hn : gI G (m + 2) = fun _ => 0) : wpI E d M_X12_hopeless [vr m, vi a0] G (fun r G1 => r = (-1) ∧ G1 = G) := by
  refine wpM_of mk_X12_hopeless (Nat.le_of_ble_eq_true rfl) ?_
  refine v_X12_hopeless_0 (by omega) ⟨h.1, wpI.mono (isProblem_null h hn) (fun r G1 q => ?_)⟩
  obtain ⟨rfl, rfl⟩ := q
  first | exact ⟨fun _ => ⟨_, rfl, rfl, rfl⟩, fun q => absurd rfl q⟩ | exact ⟨fun q => absurd rfl q, fun _ => ⟨_, rfl, rfl, rfl⟩⟩
theorem k_solve {a0 : Int32} (h0 : 1 < d) (h : MSh E G m) (hn : gI G (m + 2) = fun _ => 0) : wpI E d M_X12_solve [vr m, vi a0] G (fun r G1 => r = (-1) ∧ G1 = G) := by
  refine wpM_of mk_X12_solve (Nat.le_of_ble_eq_true rfl) ?_
  refine v_X12_solve_0 (by omega) ⟨h.1, wpI.mono (isProblem_null h hn) (fun r G1 q => ?_)⟩
  obtain ⟨rfl, rfl⟩ := q
  first | exact ⟨fun _ => ⟨_, rfl, rfl, rfl⟩, fun q => absurd rfl q⟩ | exact ⟨fun q => absurd rfl q, fun _ => ⟨_, rfl, rfl, rfl⟩⟩
theorem k_best {a0 : Int32} {a1 : Int32} (h0 : 1 < d) (h : MSh E G m) (hn : gI G (m + 2) = fun _ => 0) : wpJ E d M_X12_best [vr m, vi a0, vi a1] G (fun r G1 => r = (-9223372036854775808) ∧ G1 = G) := by
  refine wpM_of mk_X12_best (Nat.le_of_ble_eq_true rfl) ?_
  refine v_X12_best_0 (by omega) ⟨h.1, wpI.mono (isProblem_null h hn) (fun r G1 q => ?_)⟩
  obtain ⟨rfl, rfl⟩ := q
  first | exact ⟨fun _ => ⟨_, rfl, rfl, rfl⟩, fun q => absurd rfl q⟩ | exact ⟨fun q => absurd rfl q, fun _ => ⟨_, rfl, rfl, rfl⟩⟩
theorem k_bests {a0 : Int32} (h0 : 1 < d) (h : MSh E G m) (hn : gI G (m + 2) = fun _ => 0) : wpI E d M_X12_bests [vr m, vi a0] G (fun r G1 => r = (-1) ∧ G1 = G) := by
  refine wpM_of mk_X12_bests (Nat.le_of_ble_eq_true rfl) ?_
  refine v_X12_bests_0 (by omega) ⟨h.1, wpI.mono (isProblem_null h hn) (fun r G1 q => ?_)⟩
  obtain ⟨rfl, rfl⟩ := q
  first | exact ⟨fun _ => ⟨_, rfl, rfl, rfl⟩, fun q => absurd rfl q⟩ | exact ⟨fun q => absurd rfl q, fun _ => ⟨_, rfl, rfl, rfl⟩⟩
theorem k_bestAt {a0 : Int32} {a1 : Int32} (h0 : 2 < d) (h : MSh E G m) (hn : gI G (m + 2) = fun _ => 0) : wpI E d M_X12_bestAt [vr m, vi a0, vi a1] G (fun r G1 => r = 0 ∧ G1 = G) := by
  refine wpM_of mk_X12_bestAt (Nat.le_of_ble_eq_true rfl) ?_
  refine v_X12_bestAt_0 (by omega) ⟨h.1, wpI.mono (k_planAt (by omega) h hn) (fun r G1 q => ?_)⟩
  obtain ⟨rfl, rfl⟩ := q
  exact ⟨okI_z0, ⟨_, rfl, rfl, rfl⟩⟩
theorem k_feasibles {a0 : Int32} (h0 : 1 < d) (h : MSh E G m) (hn : gI G (m + 2) = fun _ => 0) : wpI E d M_X12_feasibles [vr m, vi a0] G (fun r G1 => r = (-1) ∧ G1 = G) := by
  refine wpM_of mk_X12_feasibles (Nat.le_of_ble_eq_true rfl) ?_
  refine v_X12_feasibles_0 (by omega) ⟨h.1, wpI.mono (isProblem_null h hn) (fun r G1 q => ?_)⟩
  obtain ⟨rfl, rfl⟩ := q
  first | exact ⟨fun _ => ⟨_, rfl, rfl, rfl⟩, fun q => absurd rfl q⟩ | exact ⟨fun q => absurd rfl q, fun _ => ⟨_, rfl, rfl, rfl⟩⟩
theorem k_feasibleAt {a0 : Int32} {a1 : Int32} (h0 : 2 < d) (h : MSh E G m) (hn : gI G (m + 2) = fun _ => 0) : wpI E d M_X12_feasibleAt [vr m, vi a0, vi a1] G (fun r G1 => r = 0 ∧ G1 = G) := by
  refine wpM_of mk_X12_feasibleAt (Nat.le_of_ble_eq_true rfl) ?_
  refine v_X12_feasibleAt_0 (by omega) ⟨h.1, wpI.mono (k_planAt (by omega) h hn) (fun r G1 q => ?_)⟩
  obtain ⟨rfl, rfl⟩ := q
  exact ⟨okI_z0, ⟨_, rfl, rfl, rfl⟩⟩
theorem k_has {a0 : Int32} {a1 : Int32} {a2 : Int32} {a3 : Int32} (h0 : 2 < d) (h : MSh E G m) (hn : gI G (m + 2) = fun _ => 0) : wpI E d M_X12_has [vr m, vi a0, vi a1, vi a2, vi a3] G (fun r G1 => r = (-1) ∧ G1 = G) := by
  refine wpM_of mk_X12_has (Nat.le_of_ble_eq_true rfl) ?_
  refine v_X12_has_0 (by omega) ⟨h.1, wpI.mono (k_isVar (by omega) h hn) (fun r G1 q => ?_)⟩
  obtain ⟨rfl, rfl⟩ := q
  first | exact ⟨fun _ => ⟨_, rfl, rfl, rfl⟩, fun q => absurd rfl q⟩ | exact ⟨fun q => absurd rfl q, fun _ => ⟨_, rfl, rfl, rfl⟩⟩
theorem k_choices {a0 : Int32} {a1 : Int32} (h0 : 2 < d) (h : MSh E G m) (hn : gI G (m + 2) = fun _ => 0) : wpI E d M_X12_choices [vr m, vi a0, vi a1] G (fun r G1 => r = (-1) ∧ G1 = G) := by
  refine wpM_of mk_X12_choices (Nat.le_of_ble_eq_true rfl) ?_
  refine v_X12_choices_0 (by omega) ⟨h.1, wpI.mono (k_isVar (by omega) h hn) (fun r G1 q => ?_)⟩
  obtain ⟨rfl, rfl⟩ := q
  first | exact ⟨fun _ => ⟨_, rfl, rfl, rfl⟩, fun q => absurd rfl q⟩ | exact ⟨fun q => absurd rfl q, fun _ => ⟨_, rfl, rfl, rfl⟩⟩
theorem k_mend {a0 : Int32} {a1 : Int32} (h0 : 1 < d) (h : MSh E G m) (hn : gI G (m + 2) = fun _ => 0) : wpI E d M_X12_mend [vr m, vi a0, vi a1] G (fun r G1 => r = (-1) ∧ G1 = G) := by
  refine wpM_of mk_X12_mend (Nat.le_of_ble_eq_true rfl) ?_
  refine v_X12_mend_0 (by omega) ⟨h.1, wpI.mono (isProblem_null h hn) (fun r G1 q => ?_)⟩
  obtain ⟨rfl, rfl⟩ := q
  first | exact ⟨fun _ => ⟨_, rfl, rfl, rfl⟩, fun q => absurd rfl q⟩ | exact ⟨fun q => absurd rfl q, fun _ => ⟨_, rfl, rfl, rfl⟩⟩
theorem k_front {a0 : Int32} (h0 : 1 < d) (h : MSh E G m) (hn : gI G (m + 2) = fun _ => 0) : wpI E d M_X12_front [vr m, vi a0] G (fun r G1 => r = (-1) ∧ G1 = G) := by
  refine wpM_of mk_X12_front (Nat.le_of_ble_eq_true rfl) ?_
  refine v_X12_front_0 (by omega) ⟨h.1, wpI.mono (isProblem_null h hn) (fun r G1 q => ?_)⟩
  obtain ⟨rfl, rfl⟩ := q
  first | exact ⟨fun _ => ⟨_, rfl, rfl, rfl⟩, fun q => absurd rfl q⟩ | exact ⟨fun q => absurd rfl q, fun _ => ⟨_, rfl, rfl, rfl⟩⟩
theorem k_frontAt {a0 : Int32} {a1 : Int32} {a2 : Int32} (h0 : 1 < d) (h : MSh E G m) (hn : gI G (m + 2) = fun _ => 0) : wpJ E d M_X12_frontAt [vr m, vi a0, vi a1, vi a2] G (fun r G1 => r = (-9223372036854775808) ∧ G1 = G) := by
  refine wpM_of mk_X12_frontAt (Nat.le_of_ble_eq_true rfl) ?_
  refine v_X12_frontAt_0 (by omega) ⟨h.1, wpI.mono (isProblem_null h hn) (fun r G1 q => ?_)⟩
  obtain ⟨rfl, rfl⟩ := q
  first | exact ⟨fun _ => ⟨_, rfl, rfl, rfl⟩, fun q => absurd rfl q⟩ | exact ⟨fun q => absurd rfl q, fun _ => ⟨_, rfl, rfl, rfl⟩⟩
theorem k_frontPlan {a0 : Int32} {a1 : Int32} (h0 : 1 < d) (h : MSh E G m) (hn : gI G (m + 2) = fun _ => 0) : wpI E d M_X12_frontPlan [vr m, vi a0, vi a1] G (fun r G1 => r = 0 ∧ G1 = G) := by
  refine wpM_of mk_X12_frontPlan (Nat.le_of_ble_eq_true rfl) ?_
  refine v_X12_frontPlan_0 (by omega) ⟨h.1, wpI.mono (isProblem_null h hn) (fun r G1 q => ?_)⟩
  obtain ⟨rfl, rfl⟩ := q
  first | exact ⟨fun _ => ⟨_, rfl, rfl, rfl⟩, fun q => absurd rfl q⟩ | exact ⟨fun q => absurd rfl q, fun _ => ⟨_, rfl, rfl, rfl⟩⟩
theorem k_near {a0 : Int32} {a1 : Int32} (h0 : 1 < d) (h : MSh E G m) (hn : gI G (m + 2) = fun _ => 0) : wpI E d M_X12_near [vr m, vi a0, vi a1] G (fun r G1 => r = (-1) ∧ G1 = G) := by
  refine wpM_of mk_X12_near (Nat.le_of_ble_eq_true rfl) ?_
  refine v_X12_near_0 (by omega) ⟨h.1, wpI.mono (isProblem_null h hn) (fun r G1 q => ?_)⟩
  obtain ⟨rfl, rfl⟩ := q
  first | exact ⟨fun _ => ⟨_, rfl, rfl, rfl⟩, fun q => absurd rfl q⟩ | exact ⟨fun q => absurd rfl q, fun _ => ⟨_, rfl, rfl, rfl⟩⟩
theorem k_clash {a0 : Int32} (h0 : 1 < d) (h : MSh E G m) (hn : gI G (m + 2) = fun _ => 0) : wpI E d M_X12_clash [vr m, vi a0] G (fun r G1 => r = (-1) ∧ G1 = G) := by
  refine wpM_of mk_X12_clash (Nat.le_of_ble_eq_true rfl) ?_
  refine v_X12_clash_0 (by omega) ⟨h.1, wpI.mono (isProblem_null h hn) (fun r G1 q => ?_)⟩
  obtain ⟨rfl, rfl⟩ := q
  first | exact ⟨fun _ => ⟨_, rfl, rfl, rfl⟩, fun q => absurd rfl q⟩ | exact ⟨fun q => absurd rfl q, fun _ => ⟨_, rfl, rfl, rfl⟩⟩
theorem k_fewest {a0 : Int32} (h0 : 1 < d) (h : MSh E G m) (hn : gI G (m + 2) = fun _ => 0) : wpI E d M_X12_fewest [vr m, vi a0] G (fun r G1 => r = (-1) ∧ G1 = G) := by
  refine wpM_of mk_X12_fewest (Nat.le_of_ble_eq_true rfl) ?_
  refine v_X12_fewest_0 (by omega) ⟨h.1, wpI.mono (isProblem_null h hn) (fun r G1 q => ?_)⟩
  obtain ⟨rfl, rfl⟩ := q
  first | exact ⟨fun _ => ⟨_, rfl, rfl, rfl⟩, fun q => absurd rfl q⟩ | exact ⟨fun q => absurd rfl q, fun _ => ⟨_, rfl, rfl, rfl⟩⟩
theorem k_relax {a0 : Int32} (h0 : 1 < d) (h : MSh E G m) (hn : gI G (m + 2) = fun _ => 0) : wpI E d M_X12_relax [vr m, vi a0] G (fun r G1 => r = (-1) ∧ G1 = G) := by
  refine wpM_of mk_X12_relax (Nat.le_of_ble_eq_true rfl) ?_
  refine v_X12_relax_0 (by omega) ⟨h.1, wpI.mono (isProblem_null h hn) (fun r G1 q => ?_)⟩
  obtain ⟨rfl, rfl⟩ := q
  first | exact ⟨fun _ => ⟨_, rfl, rfl, rfl⟩, fun q => absurd rfl q⟩ | exact ⟨fun q => absurd rfl q, fun _ => ⟨_, rfl, rfl, rfl⟩⟩
theorem k_without {a0 : Int32} {a1 : Int32} {a2 : Int32} (h0 : 2 < d) (h : MSh E G m) (hn : gI G (m + 2) = fun _ => 0) : wpJ E d M_X12_without [vr m, vi a0, vi a1, vi a2] G (fun r G1 => r = (-9223372036854775808) ∧ G1 = G) := by
  refine wpM_of mk_X12_without (Nat.le_of_ble_eq_true rfl) ?_
  refine v_X12_without_0 (by omega) ⟨h.1, wpI.mono (k_isRule (by omega) h hn) (fun r G1 q => ?_)⟩
  obtain ⟨rfl, rfl⟩ := q
  first | exact ⟨fun _ => ⟨_, rfl, rfl, rfl⟩, fun q => absurd rfl q⟩ | exact ⟨fun q => absurd rfl q, fun _ => ⟨_, rfl, rfl, rfl⟩⟩
theorem k_whyNot {a0 : Int32} {a1 : Int32} {a2 : Int32} {a3 : Int32} (h0 : 2 < d) (h : MSh E G m) (hn : gI G (m + 2) = fun _ => 0) : wpJ E d M_X12_whyNot [vr m, vi a0, vi a1, vi a2, vi a3] G (fun r G1 => r = (-9223372036854775808) ∧ G1 = G) := by
  refine wpM_of mk_X12_whyNot (Nat.le_of_ble_eq_true rfl) ?_
  refine v_X12_whyNot_0 (by omega) ⟨h.1, wpI.mono (k_isVar (by omega) h hn) (fun r G1 q => ?_)⟩
  obtain ⟨rfl, rfl⟩ := q
  first | exact ⟨fun _ => ⟨_, rfl, rfl, rfl⟩, fun q => absurd rfl q⟩ | exact ⟨fun q => absurd rfl q, fun _ => ⟨_, rfl, rfl, rfl⟩⟩
theorem k_because {a0 : Int32} {a1 : Int32} {a2 : Int32} (h0 : 2 < d) (h : MSh E G m) (hn : gI G (m + 2) = fun _ => 0) : wpI E d M_X12_because [vr m, vi a0, vi a1, vi a2] G (fun r G1 => r = (-1) ∧ G1 = G) := by
  refine wpM_of mk_X12_because (Nat.le_of_ble_eq_true rfl) ?_
  refine v_X12_because_0 (by omega) ⟨h.1, wpI.mono (k_isVar (by omega) h hn) (fun r G1 q => ?_)⟩
  obtain ⟨rfl, rfl⟩ := q
  first | exact ⟨fun _ => ⟨_, rfl, rfl, rfl⟩, fun q => absurd rfl q⟩ | exact ⟨fun q => absurd rfl q, fun _ => ⟨_, rfl, rfl, rfl⟩⟩
theorem k_future {a0 : Int32} {a1 : Int32} (h0 : 1 < d) (h : MSh E G m) (hn : gI G (m + 2) = fun _ => 0) : wpI E d M_X12_future [vr m, vi a0, vi a1] G (fun r G1 => r = (-1) ∧ G1 = G) := by
  refine wpM_of mk_X12_future (Nat.le_of_ble_eq_true rfl) ?_
  refine v_X12_future_0 (by omega) ⟨h.1, wpI.mono (isProblem_null h hn) (fun r G1 q => ?_)⟩
  obtain ⟨rfl, rfl⟩ := q
  first | exact ⟨fun _ => ⟨_, rfl, rfl, rfl⟩, fun q => absurd rfl q⟩ | exact ⟨fun q => absurd rfl q, fun _ => ⟨_, rfl, rfl, rfl⟩⟩
theorem k_told {a0 : Int32} {a1 : Int32} {a2 : Int32} {a3 : Int32} (h0 : 2 < d) (h : MSh E G m) (hn : gI G (m + 2) = fun _ => 0) : wpI E d M_X12_told [vr m, vi a0, vi a1, vi a2, vi a3] G (fun r G1 => r = 0 ∧ G1 = G) := by
  refine wpM_of mk_X12_told (Nat.le_of_ble_eq_true rfl) ?_
  refine v_X12_told_0 (by omega) ⟨h.1, wpI.mono (k_isFact (by omega) h hn) (fun r G1 q => ?_)⟩
  obtain ⟨rfl, rfl⟩ := q
  first | exact ⟨fun _ => ⟨_, rfl, rfl, rfl⟩, fun q => absurd rfl q⟩ | exact ⟨fun q => absurd rfl q, fun _ => ⟨_, rfl, rfl, rfl⟩⟩
theorem k_unfold {a0 : Int32} (h0 : 1 < d) (h : MSh E G m) (hn : gI G (m + 2) = fun _ => 0) : wpI E d M_X12_unfold [vr m, vi a0] G (fun r G1 => r = (-1) ∧ G1 = G) := by
  refine wpM_of mk_X12_unfold (Nat.le_of_ble_eq_true rfl) ?_
  refine v_X12_unfold_0 (by omega) ⟨h.1, wpI.mono (isProblem_null h hn) (fun r G1 q => ?_)⟩
  obtain ⟨rfl, rfl⟩ := q
  first | exact ⟨fun _ => ⟨_, rfl, rfl, rfl⟩, fun q => absurd rfl q⟩ | exact ⟨fun q => absurd rfl q, fun _ => ⟨_, rfl, rfl, rfl⟩⟩
theorem k_robust {a0 : Int32} (h0 : 1 < d) (h : MSh E G m) (hn : gI G (m + 2) = fun _ => 0) : wpI E d M_X12_robust [vr m, vi a0] G (fun r G1 => r = (-1) ∧ G1 = G) := by
  refine wpM_of mk_X12_robust (Nat.le_of_ble_eq_true rfl) ?_
  refine v_X12_robust_0 (by omega) ⟨h.1, wpI.mono (isProblem_null h hn) (fun r G1 q => ?_)⟩
  obtain ⟨rfl, rfl⟩ := q
  first | exact ⟨fun _ => ⟨_, rfl, rfl, rfl⟩, fun q => absurd rfl q⟩ | exact ⟨fun q => absurd rfl q, fun _ => ⟨_, rfl, rfl, rfl⟩⟩
theorem k_expected {a0 : Int32} {a1 : Int32} (h0 : 1 < d) (h : MSh E G m) (hn : gI G (m + 2) = fun _ => 0) : wpJ E d M_X12_expected [vr m, vi a0, vi a1] G (fun r G1 => r = (-9223372036854775808) ∧ G1 = G) := by
  refine wpM_of mk_X12_expected (Nat.le_of_ble_eq_true rfl) ?_
  refine v_X12_expected_0 (by omega) ⟨h.1, wpI.mono (isProblem_null h hn) (fun r G1 q => ?_)⟩
  obtain ⟨rfl, rfl⟩ := q
  first | exact ⟨fun _ => ⟨_, rfl, rfl, rfl⟩, fun q => absurd rfl q⟩ | exact ⟨fun q => absurd rfl q, fun _ => ⟨_, rfl, rfl, rfl⟩⟩
theorem k_regret {a0 : Int32} {a1 : Int32} (h0 : 1 < d) (h : MSh E G m) (hn : gI G (m + 2) = fun _ => 0) : wpJ E d M_X12_regret [vr m, vi a0, vi a1] G (fun r G1 => r = (-9223372036854775808) ∧ G1 = G) := by
  refine wpM_of mk_X12_regret (Nat.le_of_ble_eq_true rfl) ?_
  refine v_X12_regret_0 (by omega) ⟨h.1, wpI.mono (isProblem_null h hn) (fun r G1 q => ?_)⟩
  obtain ⟨rfl, rfl⟩ := q
  first | exact ⟨fun _ => ⟨_, rfl, rfl, rfl⟩, fun q => absurd rfl q⟩ | exact ⟨fun q => absurd rfl q, fun _ => ⟨_, rfl, rfl, rfl⟩⟩
theorem k_search {a0 : Int32} {a1 : Int32} {a2 : Int32} {a3 : Int32} {a4 : Int32} (h0 : 1 < d) (h : MSh E G m) (hn : gI G (m + 2) = fun _ => 0) : wpI E d M_X12_search [vr m, vi a0, vi a1, vi a2, vi a3, vi a4] G (fun r G1 => r = (-1) ∧ G1 = G) := by
  refine wpM_of mk_X12_search (Nat.le_of_ble_eq_true rfl) ?_
  refine v_X12_search_0 (by omega) ⟨h.1, wpI.mono (isProblem_null h hn) (fun r G1 q => ?_)⟩
  obtain ⟨rfl, rfl⟩ := q
  first | exact ⟨fun _ => ⟨_, rfl, rfl, rfl⟩, fun q => absurd rfl q⟩ | exact ⟨fun q => absurd rfl q, fun _ => ⟨_, rfl, rfl, rfl⟩⟩
theorem k_check {a0 : Int32} (h0 : 1 < d) (h : MSh E G m) (hn : gI G (m + 2) = fun _ => 0) : wpI E d M_X12_check [vr m, vi a0] G (fun r G1 => r = (-100000) ∧ G1 = G) := by
  refine wpM_of mk_X12_check (Nat.le_of_ble_eq_true rfl) ?_
  refine v_X12_check_0 (by omega) ⟨h.1, wpI.mono (isProblem_null h hn) (fun r G1 q => ?_)⟩
  obtain ⟨rfl, rfl⟩ := q
  first | exact ⟨fun _ => ⟨_, rfl, rfl, rfl⟩, fun q => absurd rfl q⟩ | exact ⟨fun q => absurd rfl q, fun _ => ⟨_, rfl, rfl, rfl⟩⟩
theorem k_prove {a0 : Int32} (h0 : 1 < d) (h : MSh E G m) (hn : gI G (m + 2) = fun _ => 0) : wpI E d M_X12_prove [vr m, vi a0] G (fun r G1 => r = (-1) ∧ G1 = G) := by
  refine wpM_of mk_X12_prove (Nat.le_of_ble_eq_true rfl) ?_
  refine v_X12_prove_0 (by omega) ⟨h.1, wpI.mono (isProblem_null h hn) (fun r G1 q => ?_)⟩
  obtain ⟨rfl, rfl⟩ := q
  first | exact ⟨fun _ => ⟨_, rfl, rfl, rfl⟩, fun q => absurd rfl q⟩ | exact ⟨fun q => absurd rfl q, fun _ => ⟨_, rfl, rfl, rfl⟩⟩
theorem k_save {a0 : Int32} (h0 : 1 < d) (h : MSh E G m) (hn : gI G (m + 2) = fun _ => 0) : wpI E d M_X12_save [vr m, vi a0] G (fun r G1 => r = (-1) ∧ G1 = G) := by
  refine wpM_of mk_X12_save (Nat.le_of_ble_eq_true rfl) ?_
  refine v_X12_save_0 (by omega) ⟨h.1, wpI.mono (isProblem_null h hn) (fun r G1 q => ?_)⟩
  obtain ⟨rfl, rfl⟩ := q
  first | exact ⟨fun _ => ⟨_, rfl, rfl, rfl⟩, fun q => absurd rfl q⟩ | exact ⟨fun q => absurd rfl q, fun _ => ⟨_, rfl, rfl, rfl⟩⟩
end
