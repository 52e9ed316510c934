/-! the reference: where its rows lie, from its constructor on (by program) -/
/-- field, how far behind the object its row lies, kind, length -/
def mtab : List (Nat × Nat × Nat × Nat) := [(0, 0, 13, 20000), (5, 1, 16, 5), (6, 2, 13, 100000), (7, 3, 14, 5), (8, 4, 14, 100000), (9, 5, 14, 100000), (10, 6, 14, 100000), (11, 7, 14, 100000), (12, 8, 14, 5), (13, 9, 14, 320), (14, 10, 14, 5), (15, 11, 14, 480), (16, 12, 14, 480), (17, 13, 14, 20), (18, 14, 14, 80), (19, 15, 14, 60), (20, 16, 14, 60), (21, 17, 14, 1200), (22, 18, 14, 60), (23, 19, 14, 60), (24, 20, 16, 60), (25, 21, 14, 5), (26, 22, 14, 5), (27, 23, 14, 120), (28, 24, 14, 120), (29, 25, 14, 120), (30, 26, 14, 30), (31, 27, 14, 30), (32, 28, 14, 5), (33, 29, 14, 30), (34, 30, 16, 480), (35, 31, 14, 480), (36, 32, 14, 5), (49, 33, 14, 200), (52, 34, 14, 12), (53, 35, 14, 16), (55, 36, 15, 12), (56, 37, 15, 12), (58, 38, 15, 40), (59, 39, 15, 40), (60, 40, 15, 40), (61, 41, 15, 40), (64, 42, 14, 480000), (65, 43, 14, 120000), (66, 44, 15, 60000), (67, 45, 16, 240), (68, 46, 16, 240), (71, 47, 16, 4096), (72, 48, 14, 12), (74, 49, 15, 40000), (75, 50, 16, 20000), (80, 51, 14, 12), (81, 52, 14, 12), (82, 53, 14, 20), (83, 54, 14, 12), (85, 55, 15, 3), (86, 56, 15, 30), (87, 57, 13, 20001), (88, 58, 13, 20000), (90, 59, 14, 101), (94, 60, 14, 2048)]
/-- the shape of the reference at m: its rows lie behind it, for good -/
def MSh (E : EE) (G : AH) (m : Nat) : Prop := isO E G m 12 ∧ ∀ q ∈ mtab, gR G m q.1 = m + 1 + q.2.1 ∧ isO E G (m + 1 + q.2.1) q.2.2.1 ∧ gN G (m + 1 + q.2.1) = q.2.2.2
theorem MSh_sI {E : EE} {G : AH} {m a k : Nat} {v : Int32} (h : MSh E G m) : MSh E (sI G a k v) m := h
theorem MSh_sJ {E : EE} {G : AH} {m a k : Nat} {v : Int64} (h : MSh E G m) : MSh E (sJ G a k v) m := h
theorem mh_tape {E : EE} {G : AH} {m : Nat} (h : MSh E G m) : gR G m 0 = m + 1 ∧ isO E G (m + 1) 13 ∧ gN G (m + 1) = 20000 := by
  have q := h.2 (0, 0, 13, 20000) (by decide)
  rw [show m + 1 = m + 1 + 0 from by rw [Nat.add_assoc, Nat.add_comm 1 0]]
  exact q
theorem mh_used {E : EE} {G : AH} {m : Nat} (h : MSh E G m) : gR G m 5 = m + 2 ∧ isO E G (m + 2) 16 ∧ gN G (m + 2) = 5 := by
  have q := h.2 (5, 1, 16, 5) (by decide)
  rw [show m + 2 = m + 1 + 1 from by rw [Nat.add_assoc, Nat.add_comm 1 1]]
  exact q
theorem mh_text {E : EE} {G : AH} {m : Nat} (h : MSh E G m) : gR G m 6 = m + 3 ∧ isO E G (m + 3) 13 ∧ gN G (m + 3) = 100000 := by
  have q := h.2 (6, 2, 13, 100000) (by decide)
  rw [show m + 3 = m + 1 + 2 from by rw [Nat.add_assoc, Nat.add_comm 1 2]]
  exact q
theorem mh_textLength {E : EE} {G : AH} {m : Nat} (h : MSh E G m) : gR G m 7 = m + 4 ∧ isO E G (m + 4) 14 ∧ gN G (m + 4) = 5 := by
  have q := h.2 (7, 3, 14, 5) (by decide)
  rw [show m + 4 = m + 1 + 3 from by rw [Nat.add_assoc, Nat.add_comm 1 3]]
  exact q
theorem mh_kinds {E : EE} {G : AH} {m : Nat} (h : MSh E G m) : gR G m 8 = m + 5 ∧ isO E G (m + 5) 14 ∧ gN G (m + 5) = 100000 := by
  have q := h.2 (8, 4, 14, 100000) (by decide)
  rw [show m + 5 = m + 1 + 4 from by rw [Nat.add_assoc, Nat.add_comm 1 4]]
  exact q
theorem mh_numbers {E : EE} {G : AH} {m : Nat} (h : MSh E G m) : gR G m 9 = m + 6 ∧ isO E G (m + 6) 14 ∧ gN G (m + 6) = 100000 := by
  have q := h.2 (9, 5, 14, 100000) (by decide)
  rw [show m + 6 = m + 1 + 5 from by rw [Nat.add_assoc, Nat.add_comm 1 5]]
  exact q
theorem mh_froms {E : EE} {G : AH} {m : Nat} (h : MSh E G m) : gR G m 10 = m + 7 ∧ isO E G (m + 7) 14 ∧ gN G (m + 7) = 100000 := by
  have q := h.2 (10, 6, 14, 100000) (by decide)
  rw [show m + 7 = m + 1 + 6 from by rw [Nat.add_assoc, Nat.add_comm 1 6]]
  exact q
theorem mh_tos {E : EE} {G : AH} {m : Nat} (h : MSh E G m) : gR G m 11 = m + 8 ∧ isO E G (m + 8) 14 ∧ gN G (m + 8) = 100000 := by
  have q := h.2 (11, 7, 14, 100000) (by decide)
  rw [show m + 8 = m + 1 + 7 from by rw [Nat.add_assoc, Nat.add_comm 1 7]]
  exact q
theorem mh_tokens {E : EE} {G : AH} {m : Nat} (h : MSh E G m) : gR G m 12 = m + 9 ∧ isO E G (m + 9) 14 ∧ gN G (m + 9) = 5 := by
  have q := h.2 (12, 8, 14, 5) (by decide)
  rw [show m + 9 = m + 1 + 8 from by rw [Nat.add_assoc, Nat.add_comm 1 8]]
  exact q
theorem mh_statements {E : EE} {G : AH} {m : Nat} (h : MSh E G m) : gR G m 13 = m + 10 ∧ isO E G (m + 10) 14 ∧ gN G (m + 10) = 320 := by
  have q := h.2 (13, 9, 14, 320) (by decide)
  rw [show m + 10 = m + 1 + 9 from by rw [Nat.add_assoc, Nat.add_comm 1 9]]
  exact q
theorem mh_statementCount {E : EE} {G : AH} {m : Nat} (h : MSh E G m) : gR G m 14 = m + 11 ∧ isO E G (m + 11) 14 ∧ gN G (m + 11) = 5 := by
  have q := h.2 (14, 10, 14, 5) (by decide)
  rw [show m + 11 = m + 1 + 10 from by rw [Nat.add_assoc, Nat.add_comm 1 10]]
  exact q
theorem mh_nameAt {E : EE} {G : AH} {m : Nat} (h : MSh E G m) : gR G m 15 = m + 12 ∧ isO E G (m + 12) 14 ∧ gN G (m + 12) = 480 := by
  have q := h.2 (15, 11, 14, 480) (by decide)
  rw [show m + 12 = m + 1 + 11 from by rw [Nat.add_assoc, Nat.add_comm 1 11]]
  exact q
theorem mh_nameLength {E : EE} {G : AH} {m : Nat} (h : MSh E G m) : gR G m 16 = m + 13 ∧ isO E G (m + 13) 14 ∧ gN G (m + 13) = 480 := by
  have q := h.2 (16, 12, 14, 480) (by decide)
  rw [show m + 13 = m + 1 + 12 from by rw [Nat.add_assoc, Nat.add_comm 1 12]]
  exact q
theorem mh_told {E : EE} {G : AH} {m : Nat} (h : MSh E G m) : gR G m 17 = m + 14 ∧ isO E G (m + 14) 14 ∧ gN G (m + 14) = 20 := by
  have q := h.2 (17, 13, 14, 20) (by decide)
  rw [show m + 14 = m + 1 + 13 from by rw [Nat.add_assoc, Nat.add_comm 1 13]]
  exact q
theorem mh_facts {E : EE} {G : AH} {m : Nat} (h : MSh E G m) : gR G m 18 = m + 15 ∧ isO E G (m + 15) 14 ∧ gN G (m + 15) = 80 := by
  have q := h.2 (18, 14, 14, 80) (by decide)
  rw [show m + 15 = m + 1 + 14 from by rw [Nat.add_assoc, Nat.add_comm 1 14]]
  exact q
theorem mh_sizes {E : EE} {G : AH} {m : Nat} (h : MSh E G m) : gR G m 19 = m + 16 ∧ isO E G (m + 16) 14 ∧ gN G (m + 16) = 60 := by
  have q := h.2 (19, 15, 14, 60) (by decide)
  rw [show m + 16 = m + 1 + 15 from by rw [Nat.add_assoc, Nat.add_comm 1 15]]
  exact q
theorem mh_strides {E : EE} {G : AH} {m : Nat} (h : MSh E G m) : gR G m 20 = m + 17 ∧ isO E G (m + 17) 14 ∧ gN G (m + 17) = 60 := by
  have q := h.2 (20, 16, 14, 60) (by decide)
  rw [show m + 17 = m + 1 + 16 from by rw [Nat.add_assoc, Nat.add_comm 1 16]]
  exact q
theorem mh_values {E : EE} {G : AH} {m : Nat} (h : MSh E G m) : gR G m 21 = m + 18 ∧ isO E G (m + 18) 14 ∧ gN G (m + 18) = 1200 := by
  have q := h.2 (21, 17, 14, 1200) (by decide)
  rw [show m + 18 = m + 1 + 17 from by rw [Nat.add_assoc, Nat.add_comm 1 17]]
  exact q
theorem mh_places {E : EE} {G : AH} {m : Nat} (h : MSh E G m) : gR G m 22 = m + 19 ∧ isO E G (m + 19) 14 ∧ gN G (m + 19) = 60 := by
  have q := h.2 (22, 18, 14, 60) (by decide)
  rw [show m + 19 = m + 1 + 18 from by rw [Nat.add_assoc, Nat.add_comm 1 18]]
  exact q
theorem mh_costs {E : EE} {G : AH} {m : Nat} (h : MSh E G m) : gR G m 23 = m + 20 ∧ isO E G (m + 20) 14 ∧ gN G (m + 20) = 60 := by
  have q := h.2 (23, 19, 14, 60) (by decide)
  rw [show m + 20 = m + 1 + 19 from by rw [Nat.add_assoc, Nat.add_comm 1 19]]
  exact q
theorem mh_pinned {E : EE} {G : AH} {m : Nat} (h : MSh E G m) : gR G m 24 = m + 21 ∧ isO E G (m + 21) 16 ∧ gN G (m + 21) = 60 := by
  have q := h.2 (24, 20, 16, 60) (by decide)
  rw [show m + 21 = m + 1 + 20 from by rw [Nat.add_assoc, Nat.add_comm 1 20]]
  exact q
theorem mh_plans {E : EE} {G : AH} {m : Nat} (h : MSh E G m) : gR G m 25 = m + 22 ∧ isO E G (m + 22) 14 ∧ gN G (m + 22) = 5 := by
  have q := h.2 (25, 21, 14, 5) (by decide)
  rw [show m + 22 = m + 1 + 21 from by rw [Nat.add_assoc, Nat.add_comm 1 21]]
  exact q
theorem mh_hards {E : EE} {G : AH} {m : Nat} (h : MSh E G m) : gR G m 26 = m + 23 ∧ isO E G (m + 23) 14 ∧ gN G (m + 23) = 5 := by
  have q := h.2 (26, 22, 14, 5) (by decide)
  rw [show m + 23 = m + 1 + 22 from by rw [Nat.add_assoc, Nat.add_comm 1 22]]
  exact q
theorem mh_levels {E : EE} {G : AH} {m : Nat} (h : MSh E G m) : gR G m 27 = m + 24 ∧ isO E G (m + 24) 14 ∧ gN G (m + 24) = 120 := by
  have q := h.2 (27, 23, 14, 120) (by decide)
  rw [show m + 24 = m + 1 + 23 from by rw [Nat.add_assoc, Nat.add_comm 1 23]]
  exact q
theorem mh_weights {E : EE} {G : AH} {m : Nat} (h : MSh E G m) : gR G m 28 = m + 25 ∧ isO E G (m + 25) 14 ∧ gN G (m + 25) = 120 := by
  have q := h.2 (28, 24, 14, 120) (by decide)
  rw [show m + 25 = m + 1 + 24 from by rw [Nat.add_assoc, Nat.add_comm 1 24]]
  exact q
theorem mh_tests {E : EE} {G : AH} {m : Nat} (h : MSh E G m) : gR G m 29 = m + 26 ∧ isO E G (m + 26) 14 ∧ gN G (m + 26) = 120 := by
  have q := h.2 (29, 25, 14, 120) (by decide)
  rw [show m + 26 = m + 1 + 25 from by rw [Nat.add_assoc, Nat.add_comm 1 25]]
  exact q
theorem mh_aimLevels {E : EE} {G : AH} {m : Nat} (h : MSh E G m) : gR G m 30 = m + 27 ∧ isO E G (m + 27) 14 ∧ gN G (m + 27) = 30 := by
  have q := h.2 (30, 26, 14, 30) (by decide)
  rw [show m + 27 = m + 1 + 26 from by rw [Nat.add_assoc, Nat.add_comm 1 26]]
  exact q
theorem mh_aims {E : EE} {G : AH} {m : Nat} (h : MSh E G m) : gR G m 31 = m + 28 ∧ isO E G (m + 28) 14 ∧ gN G (m + 28) = 30 := by
  have q := h.2 (31, 27, 14, 30) (by decide)
  rw [show m + 28 = m + 1 + 27 from by rw [Nat.add_assoc, Nat.add_comm 1 27]]
  exact q
theorem mh_futures {E : EE} {G : AH} {m : Nat} (h : MSh E G m) : gR G m 32 = m + 29 ∧ isO E G (m + 29) 14 ∧ gN G (m + 29) = 5 := by
  have q := h.2 (32, 28, 14, 5) (by decide)
  rw [show m + 29 = m + 1 + 28 from by rw [Nat.add_assoc, Nat.add_comm 1 28]]
  exact q
theorem mh_odds {E : EE} {G : AH} {m : Nat} (h : MSh E G m) : gR G m 33 = m + 30 ∧ isO E G (m + 30) 14 ∧ gN G (m + 30) = 30 := by
  have q := h.2 (33, 29, 14, 30) (by decide)
  rw [show m + 30 = m + 1 + 29 from by rw [Nat.add_assoc, Nat.add_comm 1 29]]
  exact q
theorem mh_isTold {E : EE} {G : AH} {m : Nat} (h : MSh E G m) : gR G m 34 = m + 31 ∧ isO E G (m + 31) 16 ∧ gN G (m + 31) = 480 := by
  have q := h.2 (34, 30, 16, 480) (by decide)
  rw [show m + 31 = m + 1 + 30 from by rw [Nat.add_assoc, Nat.add_comm 1 30]]
  exact q
theorem mh_toldValue {E : EE} {G : AH} {m : Nat} (h : MSh E G m) : gR G m 35 = m + 32 ∧ isO E G (m + 32) 14 ∧ gN G (m + 32) = 480 := by
  have q := h.2 (35, 31, 14, 480) (by decide)
  rw [show m + 32 = m + 1 + 31 from by rw [Nat.add_assoc, Nat.add_comm 1 31]]
  exact q
theorem mh_stamps {E : EE} {G : AH} {m : Nat} (h : MSh E G m) : gR G m 36 = m + 33 ∧ isO E G (m + 33) 14 ∧ gN G (m + 33) = 5 := by
  have q := h.2 (36, 32, 14, 5) (by decide)
  rw [show m + 33 = m + 1 + 32 from by rw [Nat.add_assoc, Nat.add_comm 1 32]]
  exact q
theorem mh_list {E : EE} {G : AH} {m : Nat} (h : MSh E G m) : gR G m 49 = m + 34 ∧ isO E G (m + 34) 14 ∧ gN G (m + 34) = 200 := by
  have q := h.2 (49, 33, 14, 200) (by decide)
  rw [show m + 34 = m + 1 + 33 from by rw [Nat.add_assoc, Nat.add_comm 1 33]]
  exact q
theorem mh_now {E : EE} {G : AH} {m : Nat} (h : MSh E G m) : gR G m 52 = m + 35 ∧ isO E G (m + 35) 14 ∧ gN G (m + 35) = 12 := by
  have q := h.2 (52, 34, 14, 12) (by decide)
  rw [show m + 35 = m + 1 + 34 from by rw [Nat.add_assoc, Nat.add_comm 1 34]]
  exact q
theorem mh_factNow {E : EE} {G : AH} {m : Nat} (h : MSh E G m) : gR G m 53 = m + 36 ∧ isO E G (m + 36) 14 ∧ gN G (m + 36) = 16 := by
  have q := h.2 (53, 35, 14, 16) (by decide)
  rw [show m + 36 = m + 1 + 35 from by rw [Nat.add_assoc, Nat.add_comm 1 35]]
  exact q
theorem mh_row {E : EE} {G : AH} {m : Nat} (h : MSh E G m) : gR G m 55 = m + 37 ∧ isO E G (m + 37) 15 ∧ gN G (m + 37) = 12 := by
  have q := h.2 (55, 36, 15, 12) (by decide)
  rw [show m + 37 = m + 1 + 36 from by rw [Nat.add_assoc, Nat.add_comm 1 36]]
  exact q
theorem mh_other {E : EE} {G : AH} {m : Nat} (h : MSh E G m) : gR G m 56 = m + 38 ∧ isO E G (m + 38) 15 ∧ gN G (m + 38) = 12 := by
  have q := h.2 (56, 37, 15, 12) (by decide)
  rw [show m + 38 = m + 1 + 37 from by rw [Nat.add_assoc, Nat.add_comm 1 37]]
  exact q
theorem mh_begins {E : EE} {G : AH} {m : Nat} (h : MSh E G m) : gR G m 58 = m + 39 ∧ isO E G (m + 39) 15 ∧ gN G (m + 39) = 40 := by
  have q := h.2 (58, 38, 15, 40) (by decide)
  rw [show m + 39 = m + 1 + 38 from by rw [Nat.add_assoc, Nat.add_comm 1 38]]
  exact q
theorem mh_lasts {E : EE} {G : AH} {m : Nat} (h : MSh E G m) : gR G m 59 = m + 40 ∧ isO E G (m + 40) 15 ∧ gN G (m + 40) = 40 := by
  have q := h.2 (59, 39, 15, 40) (by decide)
  rw [show m + 40 = m + 1 + 39 from by rw [Nat.add_assoc, Nat.add_comm 1 39]]
  exact q
theorem mh_heights {E : EE} {G : AH} {m : Nat} (h : MSh E G m) : gR G m 60 = m + 41 ∧ isO E G (m + 41) 15 ∧ gN G (m + 41) = 40 := by
  have q := h.2 (60, 40, 15, 40) (by decide)
  rw [show m + 41 = m + 1 + 40 from by rw [Nat.add_assoc, Nat.add_comm 1 40]]
  exact q
theorem mh_wides {E : EE} {G : AH} {m : Nat} (h : MSh E G m) : gR G m 61 = m + 42 ∧ isO E G (m + 42) 15 ∧ gN G (m + 42) = 40 := by
  have q := h.2 (61, 41, 15, 40) (by decide)
  rw [show m + 42 = m + 1 + 41 from by rw [Nat.add_assoc, Nat.add_comm 1 41]]
  exact q
theorem mh_broken {E : EE} {G : AH} {m : Nat} (h : MSh E G m) : gR G m 64 = m + 43 ∧ isO E G (m + 43) 14 ∧ gN G (m + 43) = 480000 := by
  have q := h.2 (64, 42, 14, 480000) (by decide)
  rw [show m + 43 = m + 1 + 42 from by rw [Nat.add_assoc, Nat.add_comm 1 42]]
  exact q
theorem mh_aimed {E : EE} {G : AH} {m : Nat} (h : MSh E G m) : gR G m 65 = m + 44 ∧ isO E G (m + 44) 14 ∧ gN G (m + 44) = 120000 := by
  have q := h.2 (65, 43, 14, 120000) (by decide)
  rw [show m + 44 = m + 1 + 43 from by rw [Nat.add_assoc, Nat.add_comm 1 43]]
  exact q
theorem mh_scores {E : EE} {G : AH} {m : Nat} (h : MSh E G m) : gR G m 66 = m + 45 ∧ isO E G (m + 45) 15 ∧ gN G (m + 45) = 60000 := by
  have q := h.2 (66, 44, 15, 60000) (by decide)
  rw [show m + 45 = m + 1 + 44 from by rw [Nat.add_assoc, Nat.add_comm 1 44]]
  exact q
theorem mh_left {E : EE} {G : AH} {m : Nat} (h : MSh E G m) : gR G m 67 = m + 46 ∧ isO E G (m + 46) 16 ∧ gN G (m + 46) = 240 := by
  have q := h.2 (67, 45, 16, 240) (by decide)
  rw [show m + 46 = m + 1 + 45 from by rw [Nat.add_assoc, Nat.add_comm 1 45]]
  exact q
theorem mh_met {E : EE} {G : AH} {m : Nat} (h : MSh E G m) : gR G m 68 = m + 47 ∧ isO E G (m + 47) 16 ∧ gN G (m + 47) = 240 := by
  have q := h.2 (68, 46, 16, 240) (by decide)
  rw [show m + 47 = m + 1 + 46 from by rw [Nat.add_assoc, Nat.add_comm 1 46]]
  exact q
theorem mh_masks {E : EE} {G : AH} {m : Nat} (h : MSh E G m) : gR G m 71 = m + 48 ∧ isO E G (m + 48) 16 ∧ gN G (m + 48) = 4096 := by
  have q := h.2 (71, 47, 16, 4096) (by decide)
  rw [show m + 48 = m + 1 + 47 from by rw [Nat.add_assoc, Nat.add_comm 1 47]]
  exact q
theorem mh_hardRule {E : EE} {G : AH} {m : Nat} (h : MSh E G m) : gR G m 72 = m + 49 ∧ isO E G (m + 49) 14 ∧ gN G (m + 49) = 12 := by
  have q := h.2 (72, 48, 14, 12) (by decide)
  rw [show m + 49 = m + 1 + 48 from by rw [Nat.add_assoc, Nat.add_comm 1 48]]
  exact q
theorem mh_sums {E : EE} {G : AH} {m : Nat} (h : MSh E G m) : gR G m 74 = m + 50 ∧ isO E G (m + 50) 15 ∧ gN G (m + 50) = 40000 := by
  have q := h.2 (74, 49, 15, 40000) (by decide)
  rw [show m + 50 = m + 1 + 49 from by rw [Nat.add_assoc, Nat.add_comm 1 49]]
  exact q
theorem mh_always {E : EE} {G : AH} {m : Nat} (h : MSh E G m) : gR G m 75 = m + 51 ∧ isO E G (m + 51) 16 ∧ gN G (m + 51) = 20000 := by
  have q := h.2 (75, 50, 16, 20000) (by decide)
  rw [show m + 51 = m + 1 + 50 from by rw [Nat.add_assoc, Nat.add_comm 1 50]]
  exact q
theorem mh_free {E : EE} {G : AH} {m : Nat} (h : MSh E G m) : gR G m 80 = m + 52 ∧ isO E G (m + 52) 14 ∧ gN G (m + 52) = 12 := by
  have q := h.2 (80, 51, 14, 12) (by decide)
  rw [show m + 52 = m + 1 + 51 from by rw [Nat.add_assoc, Nat.add_comm 1 51]]
  exact q
theorem mh_changedIn {E : EE} {G : AH} {m : Nat} (h : MSh E G m) : gR G m 81 = m + 53 ∧ isO E G (m + 53) 14 ∧ gN G (m + 53) = 12 := by
  have q := h.2 (81, 52, 14, 12) (by decide)
  rw [show m + 53 = m + 1 + 52 from by rw [Nat.add_assoc, Nat.add_comm 1 52]]
  exact q
theorem mh_entries {E : EE} {G : AH} {m : Nat} (h : MSh E G m) : gR G m 82 = m + 54 ∧ isO E G (m + 54) 14 ∧ gN G (m + 54) = 20 := by
  have q := h.2 (82, 53, 14, 20) (by decide)
  rw [show m + 54 = m + 1 + 53 from by rw [Nat.add_assoc, Nat.add_comm 1 53]]
  exact q
theorem mh_given {E : EE} {G : AH} {m : Nat} (h : MSh E G m) : gR G m 83 = m + 55 ∧ isO E G (m + 55) 14 ∧ gN G (m + 55) = 12 := by
  have q := h.2 (83, 54, 14, 12) (by decide)
  rw [show m + 55 = m + 1 + 54 from by rw [Nat.add_assoc, Nat.add_comm 1 54]]
  exact q
theorem mh_bound {E : EE} {G : AH} {m : Nat} (h : MSh E G m) : gR G m 85 = m + 56 ∧ isO E G (m + 56) 15 ∧ gN G (m + 56) = 3 := by
  have q := h.2 (85, 55, 15, 3) (by decide)
  rw [show m + 56 = m + 1 + 55 from by rw [Nat.add_assoc, Nat.add_comm 1 55]]
  exact q
theorem mh_least {E : EE} {G : AH} {m : Nat} (h : MSh E G m) : gR G m 86 = m + 57 ∧ isO E G (m + 57) 15 ∧ gN G (m + 57) = 30 := by
  have q := h.2 (86, 56, 15, 30) (by decide)
  rw [show m + 57 = m + 1 + 56 from by rw [Nat.add_assoc, Nat.add_comm 1 56]]
  exact q
theorem mh_proof {E : EE} {G : AH} {m : Nat} (h : MSh E G m) : gR G m 87 = m + 58 ∧ isO E G (m + 58) 13 ∧ gN G (m + 58) = 20001 := by
  have q := h.2 (87, 57, 13, 20001) (by decide)
  rw [show m + 58 = m + 1 + 57 from by rw [Nat.add_assoc, Nat.add_comm 1 57]]
  exact q
theorem mh_store {E : EE} {G : AH} {m : Nat} (h : MSh E G m) : gR G m 88 = m + 59 ∧ isO E G (m + 59) 13 ∧ gN G (m + 59) = 20000 := by
  have q := h.2 (88, 58, 13, 20000) (by decide)
  rw [show m + 59 = m + 1 + 58 from by rw [Nat.add_assoc, Nat.add_comm 1 58]]
  exact q
theorem mh_rowAt {E : EE} {G : AH} {m : Nat} (h : MSh E G m) : gR G m 90 = m + 60 ∧ isO E G (m + 60) 14 ∧ gN G (m + 60) = 101 := by
  have q := h.2 (90, 59, 14, 101) (by decide)
  rw [show m + 60 = m + 1 + 59 from by rw [Nat.add_assoc, Nat.add_comm 1 59]]
  exact q
theorem mh_ends {E : EE} {G : AH} {m : Nat} (h : MSh E G m) : gR G m 94 = m + 61 ∧ isO E G (m + 61) 14 ∧ gN G (m + 61) = 2048 := by
  have q := h.2 (94, 60, 14, 2048) (by decide)
  rw [show m + 61 = m + 1 + 60 from by rw [Nat.add_assoc, Nat.add_comm 1 60]]
  exact q
set_option maxHeartbeats 20000000 in
theorem c_X12_shape {E : EE} {d : Nat} {m : Nat} {G : AH} (h0 : 0 < d) (hm : isO E G m 12) (hb : eB E ≤ gT G) (hT : gT G = m + 1) (hI : gI G m = fun _ => 0) (hJ : gJ G m = fun _ => 0) : wpV E d M_X12_init [vr m] G (fun G' => gT G' = gT G + 61 ∧ gU G' = gU G + 1291569 ∧ Pv m G G' ∧ MSh E G' m ∧
    gI G' m 1 = 0 ∧ gJ G' m 2 = 0 ∧ gJ G' m 3 = 1 ∧ gI G' m 4 = 0 ∧ gI G' m 37 = 0 ∧ gI G' m 38 = 0 ∧ gI G' m 39 = 0 ∧ gI G' m 40 = 0 ∧ gI G' m 41 = 0 ∧ gI G' m 42 = 0 ∧ gI G' m 43 = 0 ∧ gI G' m 44 = 0 ∧ gI G' m 45 = 0 ∧ gI G' m 46 = 0 ∧ gI G' m 47 = 0 ∧ gI G' m 48 = 0 ∧ gI G' m 50 = 0 ∧ gI G' m 51 = 0 ∧ gI G' m 54 = 0 ∧ gI G' m 57 = 0 ∧ gI G' m 62 = (-1) ∧ gI G' m 63 = 0 ∧ gJ G' m 69 = 0 ∧ gJ G' m 70 = 0 ∧ gI G' m 73 = 0 ∧ gI G' m 76 = 0 ∧ gI G' m 77 = 0 ∧ gI G' m 78 = (-1) ∧ gI G' m 79 = 0 ∧ gI G' m 84 = 0 ∧ gI G' m 89 = 0 ∧ gI G' m 91 = 0 ∧ gI G' m 92 = (-1) ∧ gI G' m 93 = 0 ∧ ∀ i, i < 61 → gI G' (m + 1 + i) = (fun _ => 0) ∧ gJ G' (m + 1 + i) = (fun _ => 0) ∧ gR G' (m + 1 + i) = (fun _ => 0)) := by
  refine wpV.mono (c_X12_init h0 hm hb) (fun G' f => ?_)
  rw [hI, hJ, hT] at f
  obtain ⟨f1, f2, f3, f4, f5, f6, f7, f8⟩ := f
  have hmT : m < gT G := hm.2.1
  refine ⟨f1, f2.trans rfl, ⟨by rw [f1]; exact Nat.le_add_right _ _, fun a h1 h2 => ⟨(f3 a h1).1, (f3 a h1).2, (f4 a h1 h2).1, (f4 a h1 h2).2.1, (f4 a h1 h2).2.2⟩⟩, ⟨⟨hm.1, by rw [f1]; exact Nat.lt_add_right _ hmT, (f3 m hmT).1.trans hm.2.2⟩, ?_⟩, ?_⟩
  · rw [hT] at f8 f1
    have hbb : eB E ≤ m + 1 := by rw [← hT]; exact hb
    have row : ∀ i kd n, i < 61 → gK G' (m + 1 + i) = kd → gN G' (m + 1 + i) = n → isO E G' (m + 1 + i) kd ∧ gN G' (m + 1 + i) = n := fun i kd n hi h1 h2 => ⟨⟨Nat.le_add_right_of_le hbb, by rw [f1]; exact Nat.add_lt_add_left hi _, h1⟩, h2⟩
    unfold mtab
    refine List.forall_mem_cons.mpr ⟨⟨by rw [f7]; first | done | rfl, row 0 13 20000 (by decide) (by rw [(f8 0 (by decide)).1]; first | done | rfl) (by rw [(f8 0 (by decide)).2.1]; first | done | rfl)⟩, ?_⟩
    refine List.forall_mem_cons.mpr ⟨⟨by rw [f7]; first | done | rfl, row 1 16 5 (by decide) (by rw [(f8 1 (by decide)).1]; first | done | rfl) (by rw [(f8 1 (by decide)).2.1]; first | done | rfl)⟩, ?_⟩
    refine List.forall_mem_cons.mpr ⟨⟨by rw [f7]; first | done | rfl, row 2 13 100000 (by decide) (by rw [(f8 2 (by decide)).1]; first | done | rfl) (by rw [(f8 2 (by decide)).2.1]; first | done | rfl)⟩, ?_⟩
    refine List.forall_mem_cons.mpr ⟨⟨by rw [f7]; first | done | rfl, row 3 14 5 (by decide) (by rw [(f8 3 (by decide)).1]; first | done | rfl) (by rw [(f8 3 (by decide)).2.1]; first | done | rfl)⟩, ?_⟩
    refine List.forall_mem_cons.mpr ⟨⟨by rw [f7]; first | done | rfl, row 4 14 100000 (by decide) (by rw [(f8 4 (by decide)).1]; first | done | rfl) (by rw [(f8 4 (by decide)).2.1]; first | done | rfl)⟩, ?_⟩
    refine List.forall_mem_cons.mpr ⟨⟨by rw [f7]; first | done | rfl, row 5 14 100000 (by decide) (by rw [(f8 5 (by decide)).1]; first | done | rfl) (by rw [(f8 5 (by decide)).2.1]; first | done | rfl)⟩, ?_⟩
    refine List.forall_mem_cons.mpr ⟨⟨by rw [f7]; first | done | rfl, row 6 14 100000 (by decide) (by rw [(f8 6 (by decide)).1]; first | done | rfl) (by rw [(f8 6 (by decide)).2.1]; first | done | rfl)⟩, ?_⟩
    refine List.forall_mem_cons.mpr ⟨⟨by rw [f7]; first | done | rfl, row 7 14 100000 (by decide) (by rw [(f8 7 (by decide)).1]; first | done | rfl) (by rw [(f8 7 (by decide)).2.1]; first | done | rfl)⟩, ?_⟩
    refine List.forall_mem_cons.mpr ⟨⟨by rw [f7]; first | done | rfl, row 8 14 5 (by decide) (by rw [(f8 8 (by decide)).1]; first | done | rfl) (by rw [(f8 8 (by decide)).2.1]; first | done | rfl)⟩, ?_⟩
    refine List.forall_mem_cons.mpr ⟨⟨by rw [f7]; first | done | rfl, row 9 14 320 (by decide) (by rw [(f8 9 (by decide)).1]; first | done | rfl) (by rw [(f8 9 (by decide)).2.1]; first | done | rfl)⟩, ?_⟩
    refine List.forall_mem_cons.mpr ⟨⟨by rw [f7]; first | done | rfl, row 10 14 5 (by decide) (by rw [(f8 10 (by decide)).1]; first | done | rfl) (by rw [(f8 10 (by decide)).2.1]; first | done | rfl)⟩, ?_⟩
    refine List.forall_mem_cons.mpr ⟨⟨by rw [f7]; first | done | rfl, row 11 14 480 (by decide) (by rw [(f8 11 (by decide)).1]; first | done | rfl) (by rw [(f8 11 (by decide)).2.1]; first | done | rfl)⟩, ?_⟩
    refine List.forall_mem_cons.mpr ⟨⟨by rw [f7]; first | done | rfl, row 12 14 480 (by decide) (by rw [(f8 12 (by decide)).1]; first | done | rfl) (by rw [(f8 12 (by decide)).2.1]; first | done | rfl)⟩, ?_⟩
    refine List.forall_mem_cons.mpr ⟨⟨by rw [f7]; first | done | rfl, row 13 14 20 (by decide) (by rw [(f8 13 (by decide)).1]; first | done | rfl) (by rw [(f8 13 (by decide)).2.1]; first | done | rfl)⟩, ?_⟩
    refine List.forall_mem_cons.mpr ⟨⟨by rw [f7]; first | done | rfl, row 14 14 80 (by decide) (by rw [(f8 14 (by decide)).1]; first | done | rfl) (by rw [(f8 14 (by decide)).2.1]; first | done | rfl)⟩, ?_⟩
    refine List.forall_mem_cons.mpr ⟨⟨by rw [f7]; first | done | rfl, row 15 14 60 (by decide) (by rw [(f8 15 (by decide)).1]; first | done | rfl) (by rw [(f8 15 (by decide)).2.1]; first | done | rfl)⟩, ?_⟩
    refine List.forall_mem_cons.mpr ⟨⟨by rw [f7]; first | done | rfl, row 16 14 60 (by decide) (by rw [(f8 16 (by decide)).1]; first | done | rfl) (by rw [(f8 16 (by decide)).2.1]; first | done | rfl)⟩, ?_⟩
    refine List.forall_mem_cons.mpr ⟨⟨by rw [f7]; first | done | rfl, row 17 14 1200 (by decide) (by rw [(f8 17 (by decide)).1]; first | done | rfl) (by rw [(f8 17 (by decide)).2.1]; first | done | rfl)⟩, ?_⟩
    refine List.forall_mem_cons.mpr ⟨⟨by rw [f7]; first | done | rfl, row 18 14 60 (by decide) (by rw [(f8 18 (by decide)).1]; first | done | rfl) (by rw [(f8 18 (by decide)).2.1]; first | done | rfl)⟩, ?_⟩
    refine List.forall_mem_cons.mpr ⟨⟨by rw [f7]; first | done | rfl, row 19 14 60 (by decide) (by rw [(f8 19 (by decide)).1]; first | done | rfl) (by rw [(f8 19 (by decide)).2.1]; first | done | rfl)⟩, ?_⟩
    refine List.forall_mem_cons.mpr ⟨⟨by rw [f7]; first | done | rfl, row 20 16 60 (by decide) (by rw [(f8 20 (by decide)).1]; first | done | rfl) (by rw [(f8 20 (by decide)).2.1]; first | done | rfl)⟩, ?_⟩
    refine List.forall_mem_cons.mpr ⟨⟨by rw [f7]; first | done | rfl, row 21 14 5 (by decide) (by rw [(f8 21 (by decide)).1]; first | done | rfl) (by rw [(f8 21 (by decide)).2.1]; first | done | rfl)⟩, ?_⟩
    refine List.forall_mem_cons.mpr ⟨⟨by rw [f7]; first | done | rfl, row 22 14 5 (by decide) (by rw [(f8 22 (by decide)).1]; first | done | rfl) (by rw [(f8 22 (by decide)).2.1]; first | done | rfl)⟩, ?_⟩
    refine List.forall_mem_cons.mpr ⟨⟨by rw [f7]; first | done | rfl, row 23 14 120 (by decide) (by rw [(f8 23 (by decide)).1]; first | done | rfl) (by rw [(f8 23 (by decide)).2.1]; first | done | rfl)⟩, ?_⟩
    refine List.forall_mem_cons.mpr ⟨⟨by rw [f7]; first | done | rfl, row 24 14 120 (by decide) (by rw [(f8 24 (by decide)).1]; first | done | rfl) (by rw [(f8 24 (by decide)).2.1]; first | done | rfl)⟩, ?_⟩
    refine List.forall_mem_cons.mpr ⟨⟨by rw [f7]; first | done | rfl, row 25 14 120 (by decide) (by rw [(f8 25 (by decide)).1]; first | done | rfl) (by rw [(f8 25 (by decide)).2.1]; first | done | rfl)⟩, ?_⟩
    refine List.forall_mem_cons.mpr ⟨⟨by rw [f7]; first | done | rfl, row 26 14 30 (by decide) (by rw [(f8 26 (by decide)).1]; first | done | rfl) (by rw [(f8 26 (by decide)).2.1]; first | done | rfl)⟩, ?_⟩
    refine List.forall_mem_cons.mpr ⟨⟨by rw [f7]; first | done | rfl, row 27 14 30 (by decide) (by rw [(f8 27 (by decide)).1]; first | done | rfl) (by rw [(f8 27 (by decide)).2.1]; first | done | rfl)⟩, ?_⟩
    refine List.forall_mem_cons.mpr ⟨⟨by rw [f7]; first | done | rfl, row 28 14 5 (by decide) (by rw [(f8 28 (by decide)).1]; first | done | rfl) (by rw [(f8 28 (by decide)).2.1]; first | done | rfl)⟩, ?_⟩
    refine List.forall_mem_cons.mpr ⟨⟨by rw [f7]; first | done | rfl, row 29 14 30 (by decide) (by rw [(f8 29 (by decide)).1]; first | done | rfl) (by rw [(f8 29 (by decide)).2.1]; first | done | rfl)⟩, ?_⟩
    refine List.forall_mem_cons.mpr ⟨⟨by rw [f7]; first | done | rfl, row 30 16 480 (by decide) (by rw [(f8 30 (by decide)).1]; first | done | rfl) (by rw [(f8 30 (by decide)).2.1]; first | done | rfl)⟩, ?_⟩
    refine List.forall_mem_cons.mpr ⟨⟨by rw [f7]; first | done | rfl, row 31 14 480 (by decide) (by rw [(f8 31 (by decide)).1]; first | done | rfl) (by rw [(f8 31 (by decide)).2.1]; first | done | rfl)⟩, ?_⟩
    refine List.forall_mem_cons.mpr ⟨⟨by rw [f7]; first | done | rfl, row 32 14 5 (by decide) (by rw [(f8 32 (by decide)).1]; first | done | rfl) (by rw [(f8 32 (by decide)).2.1]; first | done | rfl)⟩, ?_⟩
    refine List.forall_mem_cons.mpr ⟨⟨by rw [f7]; first | done | rfl, row 33 14 200 (by decide) (by rw [(f8 33 (by decide)).1]; first | done | rfl) (by rw [(f8 33 (by decide)).2.1]; first | done | rfl)⟩, ?_⟩
    refine List.forall_mem_cons.mpr ⟨⟨by rw [f7]; first | done | rfl, row 34 14 12 (by decide) (by rw [(f8 34 (by decide)).1]; first | done | rfl) (by rw [(f8 34 (by decide)).2.1]; first | done | rfl)⟩, ?_⟩
    refine List.forall_mem_cons.mpr ⟨⟨by rw [f7]; first | done | rfl, row 35 14 16 (by decide) (by rw [(f8 35 (by decide)).1]; first | done | rfl) (by rw [(f8 35 (by decide)).2.1]; first | done | rfl)⟩, ?_⟩
    refine List.forall_mem_cons.mpr ⟨⟨by rw [f7]; first | done | rfl, row 36 15 12 (by decide) (by rw [(f8 36 (by decide)).1]; first | done | rfl) (by rw [(f8 36 (by decide)).2.1]; first | done | rfl)⟩, ?_⟩
    refine List.forall_mem_cons.mpr ⟨⟨by rw [f7]; first | done | rfl, row 37 15 12 (by decide) (by rw [(f8 37 (by decide)).1]; first | done | rfl) (by rw [(f8 37 (by decide)).2.1]; first | done | rfl)⟩, ?_⟩
    refine List.forall_mem_cons.mpr ⟨⟨by rw [f7]; first | done | rfl, row 38 15 40 (by decide) (by rw [(f8 38 (by decide)).1]; first | done | rfl) (by rw [(f8 38 (by decide)).2.1]; first | done | rfl)⟩, ?_⟩
    refine List.forall_mem_cons.mpr ⟨⟨by rw [f7]; first | done | rfl, row 39 15 40 (by decide) (by rw [(f8 39 (by decide)).1]; first | done | rfl) (by rw [(f8 39 (by decide)).2.1]; first | done | rfl)⟩, ?_⟩
    refine List.forall_mem_cons.mpr ⟨⟨by rw [f7]; first | done | rfl, row 40 15 40 (by decide) (by rw [(f8 40 (by decide)).1]; first | done | rfl) (by rw [(f8 40 (by decide)).2.1]; first | done | rfl)⟩, ?_⟩
    refine List.forall_mem_cons.mpr ⟨⟨by rw [f7]; first | done | rfl, row 41 15 40 (by decide) (by rw [(f8 41 (by decide)).1]; first | done | rfl) (by rw [(f8 41 (by decide)).2.1]; first | done | rfl)⟩, ?_⟩
    refine List.forall_mem_cons.mpr ⟨⟨by rw [f7]; first | done | rfl, row 42 14 480000 (by decide) (by rw [(f8 42 (by decide)).1]; first | done | rfl) (by rw [(f8 42 (by decide)).2.1]; first | done | rfl)⟩, ?_⟩
    refine List.forall_mem_cons.mpr ⟨⟨by rw [f7]; first | done | rfl, row 43 14 120000 (by decide) (by rw [(f8 43 (by decide)).1]; first | done | rfl) (by rw [(f8 43 (by decide)).2.1]; first | done | rfl)⟩, ?_⟩
    refine List.forall_mem_cons.mpr ⟨⟨by rw [f7]; first | done | rfl, row 44 15 60000 (by decide) (by rw [(f8 44 (by decide)).1]; first | done | rfl) (by rw [(f8 44 (by decide)).2.1]; first | done | rfl)⟩, ?_⟩
    refine List.forall_mem_cons.mpr ⟨⟨by rw [f7]; first | done | rfl, row 45 16 240 (by decide) (by rw [(f8 45 (by decide)).1]; first | done | rfl) (by rw [(f8 45 (by decide)).2.1]; first | done | rfl)⟩, ?_⟩
    refine List.forall_mem_cons.mpr ⟨⟨by rw [f7]; first | done | rfl, row 46 16 240 (by decide) (by rw [(f8 46 (by decide)).1]; first | done | rfl) (by rw [(f8 46 (by decide)).2.1]; first | done | rfl)⟩, ?_⟩
    refine List.forall_mem_cons.mpr ⟨⟨by rw [f7]; first | done | rfl, row 47 16 4096 (by decide) (by rw [(f8 47 (by decide)).1]; first | done | rfl) (by rw [(f8 47 (by decide)).2.1]; first | done | rfl)⟩, ?_⟩
    refine List.forall_mem_cons.mpr ⟨⟨by rw [f7]; first | done | rfl, row 48 14 12 (by decide) (by rw [(f8 48 (by decide)).1]; first | done | rfl) (by rw [(f8 48 (by decide)).2.1]; first | done | rfl)⟩, ?_⟩
    refine List.forall_mem_cons.mpr ⟨⟨by rw [f7]; first | done | rfl, row 49 15 40000 (by decide) (by rw [(f8 49 (by decide)).1]; first | done | rfl) (by rw [(f8 49 (by decide)).2.1]; first | done | rfl)⟩, ?_⟩
    refine List.forall_mem_cons.mpr ⟨⟨by rw [f7]; first | done | rfl, row 50 16 20000 (by decide) (by rw [(f8 50 (by decide)).1]; first | done | rfl) (by rw [(f8 50 (by decide)).2.1]; first | done | rfl)⟩, ?_⟩
    refine List.forall_mem_cons.mpr ⟨⟨by rw [f7]; first | done | rfl, row 51 14 12 (by decide) (by rw [(f8 51 (by decide)).1]; first | done | rfl) (by rw [(f8 51 (by decide)).2.1]; first | done | rfl)⟩, ?_⟩
    refine List.forall_mem_cons.mpr ⟨⟨by rw [f7]; first | done | rfl, row 52 14 12 (by decide) (by rw [(f8 52 (by decide)).1]; first | done | rfl) (by rw [(f8 52 (by decide)).2.1]; first | done | rfl)⟩, ?_⟩
    refine List.forall_mem_cons.mpr ⟨⟨by rw [f7]; first | done | rfl, row 53 14 20 (by decide) (by rw [(f8 53 (by decide)).1]; first | done | rfl) (by rw [(f8 53 (by decide)).2.1]; first | done | rfl)⟩, ?_⟩
    refine List.forall_mem_cons.mpr ⟨⟨by rw [f7]; first | done | rfl, row 54 14 12 (by decide) (by rw [(f8 54 (by decide)).1]; first | done | rfl) (by rw [(f8 54 (by decide)).2.1]; first | done | rfl)⟩, ?_⟩
    refine List.forall_mem_cons.mpr ⟨⟨by rw [f7]; first | done | rfl, row 55 15 3 (by decide) (by rw [(f8 55 (by decide)).1]; first | done | rfl) (by rw [(f8 55 (by decide)).2.1]; first | done | rfl)⟩, ?_⟩
    refine List.forall_mem_cons.mpr ⟨⟨by rw [f7]; first | done | rfl, row 56 15 30 (by decide) (by rw [(f8 56 (by decide)).1]; first | done | rfl) (by rw [(f8 56 (by decide)).2.1]; first | done | rfl)⟩, ?_⟩
    refine List.forall_mem_cons.mpr ⟨⟨by rw [f7]; first | done | rfl, row 57 13 20001 (by decide) (by rw [(f8 57 (by decide)).1]; first | done | rfl) (by rw [(f8 57 (by decide)).2.1]; first | done | rfl)⟩, ?_⟩
    refine List.forall_mem_cons.mpr ⟨⟨by rw [f7]; first | done | rfl, row 58 13 20000 (by decide) (by rw [(f8 58 (by decide)).1]; first | done | rfl) (by rw [(f8 58 (by decide)).2.1]; first | done | rfl)⟩, ?_⟩
    refine List.forall_mem_cons.mpr ⟨⟨by rw [f7]; first | done | rfl, row 59 14 101 (by decide) (by rw [(f8 59 (by decide)).1]; first | done | rfl) (by rw [(f8 59 (by decide)).2.1]; first | done | rfl)⟩, ?_⟩
    refine List.forall_mem_cons.mpr ⟨⟨by rw [f7]; first | done | rfl, row 60 14 2048 (by decide) (by rw [(f8 60 (by decide)).1]; first | done | rfl) (by rw [(f8 60 (by decide)).2.1]; first | done | rfl)⟩, ?_⟩
    exact fun _ h => absurd h List.not_mem_nil
  refine And.intro (by rw [f5]; first | done | rfl) ?_
  refine And.intro (by rw [f6]; first | done | rfl) ?_
  refine And.intro (by rw [f6]; first | done | rfl) ?_
  refine And.intro (by rw [f5]; first | done | rfl) ?_
  refine And.intro (by rw [f5]; first | done | rfl) ?_
  refine And.intro (by rw [f5]; first | done | rfl) ?_
  refine And.intro (by rw [f5]; first | done | rfl) ?_
  refine And.intro (by rw [f5]; first | done | rfl) ?_
  refine And.intro (by rw [f5]; first | done | rfl) ?_
  refine And.intro (by rw [f5]; first | done | rfl) ?_
  refine And.intro (by rw [f5]; first | done | rfl) ?_
  refine And.intro (by rw [f5]; first | done | rfl) ?_
  refine And.intro (by rw [f5]; first | done | rfl) ?_
  refine And.intro (by rw [f5]; first | done | rfl) ?_
  refine And.intro (by rw [f5]; first | done | rfl) ?_
  refine And.intro (by rw [f5]; first | done | rfl) ?_
  refine And.intro (by rw [f5]; first | done | rfl) ?_
  refine And.intro (by rw [f5]; first | done | rfl) ?_
  refine And.intro (by rw [f5]; first | done | rfl) ?_
  refine And.intro (by rw [f5]; first | done | rfl) ?_
  refine And.intro (by rw [f5]; first | done | rfl) ?_
  refine And.intro (by rw [f5]; first | done | rfl) ?_
  refine And.intro (by rw [f6]; first | done | rfl) ?_
  refine And.intro (by rw [f6]; first | done | rfl) ?_
  refine And.intro (by rw [f5]; first | done | rfl) ?_
  refine And.intro (by rw [f5]; first | done | rfl) ?_
  refine And.intro (by rw [f5]; first | done | rfl) ?_
  refine And.intro (by rw [f5]; first | done | rfl) ?_
  refine And.intro (by rw [f5]; first | done | rfl) ?_
  refine And.intro (by rw [f5]; first | done | rfl) ?_
  refine And.intro (by rw [f5]; first | done | rfl) ?_
  refine And.intro (by rw [f5]; first | done | rfl) ?_
  refine And.intro (by rw [f5]; first | done | rfl) ?_
  refine And.intro (by rw [f5]; first | done | rfl) ?_
  intro i hi
  have q := f8 i hi
  rw [hT] at q
  exact ⟨q.2.2.1, q.2.2.2.1, q.2.2.2.2⟩
