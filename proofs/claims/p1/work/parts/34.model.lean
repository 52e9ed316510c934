/-! the reference: where its rows lie, from its constructor on (by program) -/
/-- field, how far behind the object its row lies, kind, length -/
def mtab : List (Nat × Nat × Nat × Nat) := [(0, 0, 13, 20000), (5, 1, 16, 5), (6, 2, 13, 100000), (7, 3, 14, 5), (8, 4, 14, 100000), (9, 5, 14, 100000), (10, 6, 14, 100000), (11, 7, 14, 100000), (12, 8, 14, 5), (13, 9, 14, 320), (14, 10, 14, 5), (15, 11, 14, 480), (16, 12, 14, 480), (17, 13, 14, 20), (18, 14, 14, 80), (19, 15, 14, 60), (20, 16, 14, 60), (21, 17, 14, 1200), (22, 18, 14, 60), (23, 19, 14, 60), (24, 20, 16, 60), (25, 21, 14, 5), (26, 22, 14, 5), (27, 23, 14, 120), (28, 24, 14, 120), (29, 25, 14, 120), (30, 26, 14, 30), (31, 27, 14, 30), (32, 28, 14, 5), (33, 29, 14, 30), (34, 30, 16, 480), (35, 31, 14, 480), (36, 32, 14, 5), (49, 33, 14, 200), (52, 34, 14, 12), (53, 35, 14, 16), (55, 36, 15, 12), (56, 37, 15, 12), (58, 38, 15, 40), (59, 39, 15, 40), (60, 40, 15, 40), (61, 41, 15, 40), (64, 42, 14, 480000), (65, 43, 14, 120000), (66, 44, 15, 60000), (67, 45, 16, 240), (68, 46, 16, 240), (71, 47, 16, 4096), (72, 48, 14, 12), (74, 49, 15, 40000), (75, 50, 16, 20000), (80, 51, 14, 12), (81, 52, 14, 12), (82, 53, 14, 20), (83, 54, 14, 12), (85, 55, 15, 3), (86, 56, 15, 30), (87, 57, 13, 20001), (88, 58, 13, 20000), (90, 59, 14, 101), (94, 60, 14, 2048)]
/-- the shape of the reference at m: its rows lie behind it, for good -/
def MSh (E : EE) (G : AH) (m : Nat) : Prop := isO E G m 12 ∧ ∀ q ∈ mtab, gR G m q.1 = m + 1 + q.2.1 ∧ isO E G (m + 1 + q.2.1) q.2.2.1 ∧ gN G (m + 1 + q.2.1) = q.2.2.2
set_option maxHeartbeats 20000000 in
theorem c_X12_shape {E : EE} {d : Nat} {m : Nat} {G : AH} (h0 : 0 < d) (hm : isO E G m 12) (hb : eB E ≤ gT G) (hT : gT G = m + 1) (hI : gI G m = fun _ => 0) (hJ : gJ G m = fun _ => 0) : wpV E d M_X12_init [vr m] G (fun G' => gT G' = gT G + 61 ∧ gU G' = gU G + 1291569 ∧ Pv m G G' ∧ MSh E G' m ∧
    gI G' m 1 = 0 ∧ gJ G' m 2 = 0 ∧ gJ G' m 3 = 1 ∧ gI G' m 4 = 0 ∧ gI G' m 37 = 0 ∧ gI G' m 38 = 0 ∧ gI G' m 39 = 0 ∧ gI G' m 40 = 0 ∧ gI G' m 41 = 0 ∧ gI G' m 42 = 0 ∧ gI G' m 43 = 0 ∧ gI G' m 44 = 0 ∧ gI G' m 45 = 0 ∧ gI G' m 46 = 0 ∧ gI G' m 47 = 0 ∧ gI G' m 48 = 0 ∧ gI G' m 50 = 0 ∧ gI G' m 51 = 0 ∧ gI G' m 54 = 0 ∧ gI G' m 57 = 0 ∧ gI G' m 62 = (-1) ∧ gI G' m 63 = 0 ∧ gJ G' m 69 = 0 ∧ gJ G' m 70 = 0 ∧ gI G' m 73 = 0 ∧ gI G' m 76 = 0 ∧ gI G' m 77 = 0 ∧ gI G' m 78 = (-1) ∧ gI G' m 79 = 0 ∧ gI G' m 84 = 0 ∧ gI G' m 89 = 0 ∧ gI G' m 91 = 0 ∧ gI G' m 92 = (-1) ∧ gI G' m 93 = 0 ∧ ∀ i, i < 61 → gI G' (m + 1 + i) = (fun _ => 0) ∧ gJ G' (m + 1 + i) = (fun _ => 0) ∧ gR G' (m + 1 + i) = (fun _ => 0)) := by
  refine wpV.mono (c_X12_init h0 hm hb) (fun G' f => ?_)
  rw [hI, hJ, hT] at f
  obtain ⟨f1, f2, f3, f4, f5, f6, f7, f8⟩ := f
  have hmT : m < gT G := hm.2.1
  refine ⟨f1, f2.trans rfl, ⟨by rw [f1]; exact Nat.le_add_right _ _, fun a h1 h2 => ⟨(f3 a h1).1, (f3 a h1).2, (f4 a h1 h2).1, (f4 a h1 h2).2.1, (f4 a h1 h2).2.2⟩⟩, ⟨⟨hm.1, by rw [f1]; exact Nat.lt_add_right _ hmT, (f3 m hmT).1.trans hm.2.2⟩, ?_⟩, ?_⟩
  · rw [hT] at f8 f1
    have hbb : eB E ≤ m + 1 := by rw [← hT]; exact hb
    have row : ∀ i kd n, i < 61 → gK G' (m + 1 + i) = kd → gN G' (m + 1 + i) = n → isO E G' (m + 1 + i) kd ∧ gN G' (m + 1 + i) = n := fun i kd n hi h1 h2 => ⟨⟨Nat.le_add_right_of_le hbb, by rw [f1]; exact Nat.add_lt_add_left hi _, h1⟩, h2⟩
    unfold mtab
    refine List.forall_mem_cons.mpr ⟨⟨by rw [f7]; first | done | rfl, row 0 13 20000 (by decide) (by rw [(f8 0 (by decide)).1]; first | done | rfl) (by rw [(f8 0 (by decide)).2.1]; first | done | rfl)⟩, ?_⟩
    refine List.forall_mem_cons.mpr ⟨⟨by rw [f7]; first | done | rfl, row 1 16 5 (by decide) (by rw [(f8 1 (by decide)).1]; first | done | rfl) (by rw [(f8 1 (by decide)).2.1]; first | done | rfl)⟩, ?_⟩
    refine List.forall_mem_cons.mpr ⟨⟨by rw [f7]; first | done | rfl, row 2 13 100000 (by decide) (by rw [(f8 2 (by decide)).1]; first | done | rfl) (by rw [(f8 2 (by decide)).2.1]; first | done | rfl)⟩, ?_⟩
    refine List.forall_mem_cons.mpr ⟨⟨by rw [f7]; first | done | rfl, row 3 14 5 (by decide) (by rw [(f8 3 (by decide)).1]; first | done | rfl) (by rw [(f8 3 (by decide)).2.1]; first | done | rfl)⟩, ?_⟩
    refine List.forall_mem_cons.mpr ⟨⟨by rw [f7]; first | done | rfl, row 4 14 100000 (by decide) (by rw [(f8 4 (by decide)).1]; first | done | rfl) (by rw [(f8 4 (by decide)).2.1]; first | done | rfl)⟩, ?_⟩
    refine List.forall_mem_cons.mpr ⟨⟨by rw [f7]; first | done | rfl, row 5 14 100000 (by decide) (by rw [(f8 5 (by decide)).1]; first | done | rfl) (by rw [(f8 5 (by decide)).2.1]; first | done | rfl)⟩, ?_⟩
    refine List.forall_mem_cons.mpr ⟨⟨by rw [f7]; first | done | rfl, row 6 14 100000 (by decide) (by rw [(f8 6 (by decide)).1]; first | done | rfl) (by rw [(f8 6 (by decide)).2.1]; first | done | rfl)⟩, ?_⟩
    refine List.forall_mem_cons.mpr ⟨⟨by rw [f7]; first | done | rfl, row 7 14 100000 (by decide) (by rw [(f8 7 (by decide)).1]; first | done | rfl) (by rw [(f8 7 (by decide)).2.1]; first | done | rfl)⟩, ?_⟩
    refine List.forall_mem_cons.mpr ⟨⟨by rw [f7]; first | done | rfl, row 8 14 5 (by decide) (by rw [(f8 8 (by decide)).1]; first | done | rfl) (by rw [(f8 8 (by decide)).2.1]; first | done | rfl)⟩, ?_⟩
    refine List.forall_mem_cons.mpr ⟨⟨by rw [f7]; first | done | rfl, row 9 14 320 (by decide) (by rw [(f8 9 (by decide)).1]; first | done | rfl) (by rw [(f8 9 (by decide)).2.1]; first | done | rfl)⟩, ?_⟩
    refine List.forall_mem_cons.mpr ⟨⟨by rw [f7]; first | done | rfl, row 10 14 5 (by decide) (by rw [(f8 10 (by decide)).1]; first | done | rfl) (by rw [(f8 10 (by decide)).2.1]; first | done | rfl)⟩, ?_⟩
    refine List.forall_mem_cons.mpr ⟨⟨by rw [f7]; first | done | rfl, row 11 14 480 (by decide) (by rw [(f8 11 (by decide)).1]; first | done | rfl) (by rw [(f8 11 (by decide)).2.1]; first | done | rfl)⟩, ?_⟩
    refine List.forall_mem_cons.mpr ⟨⟨by rw [f7]; first | done | rfl, row 12 14 480 (by decide) (by rw [(f8 12 (by decide)).1]; first | done | rfl) (by rw [(f8 12 (by decide)).2.1]; first | done | rfl)⟩, ?_⟩
    refine List.forall_mem_cons.mpr ⟨⟨by rw [f7]; first | done | rfl, row 13 14 20 (by decide) (by rw [(f8 13 (by decide)).1]; first | done | rfl) (by rw [(f8 13 (by decide)).2.1]; first | done | rfl)⟩, ?_⟩
    refine List.forall_mem_cons.mpr ⟨⟨by rw [f7]; first | done | rfl, row 14 14 80 (by decide) (by rw [(f8 14 (by decide)).1]; first | done | rfl) (by rw [(f8 14 (by decide)).2.1]; first | done | rfl)⟩, ?_⟩
    refine List.forall_mem_cons.mpr ⟨⟨by rw [f7]; first | done | rfl, row 15 14 60 (by decide) (by rw [(f8 15 (by decide)).1]; first | done | rfl) (by rw [(f8 15 (by decide)).2.1]; first | done | rfl)⟩, ?_⟩
    refine List.forall_mem_cons.mpr ⟨⟨by rw [f7]; first | done | rfl, row 16 14 60 (by decide) (by rw [(f8 16 (by decide)).1]; first | done | rfl) (by rw [(f8 16 (by decide)).2.1]; first | done | rfl)⟩, ?_⟩
    refine List.forall_mem_cons.mpr ⟨⟨by rw [f7]; first | done | rfl, row 17 14 1200 (by decide) (by rw [(f8 17 (by decide)).1]; first | done | rfl) (by rw [(f8 17 (by decide)).2.1]; first | done | rfl)⟩, ?_⟩
    refine List.forall_mem_cons.mpr ⟨⟨by rw [f7]; first | done | rfl, row 18 14 60 (by decide) (by rw [(f8 18 (by decide)).1]; first | done | rfl) (by rw [(f8 18 (by decide)).2.1]; first | done | rfl)⟩, ?_⟩
    refine List.forall_mem_cons.mpr ⟨⟨by rw [f7]; first | done | rfl, row 19 14 60 (by decide) (by rw [(f8 19 (by decide)).1]; first | done | rfl) (by rw [(f8 19 (by decide)).2.1]; first | done | rfl)⟩, ?_⟩
    refine List.forall_mem_cons.mpr ⟨⟨by rw [f7]; first | done | rfl, row 20 16 60 (by decide) (by rw [(f8 20 (by decide)).1]; first | done | rfl) (by rw [(f8 20 (by decide)).2.1]; first | done | rfl)⟩, ?_⟩
    refine List.forall_mem_cons.mpr ⟨⟨by rw [f7]; first | done | rfl, row 21 14 5 (by decide) (by rw [(f8 21 (by decide)).1]; first | done | rfl) (by rw [(f8 21 (by decide)).2.1]; first | done | rfl)⟩, ?_⟩
    refine List.forall_mem_cons.mpr ⟨⟨by rw [f7]; first | done | rfl, row 22 14 5 (by decide) (by rw [(f8 22 (by decide)).1]; first | done | rfl) (by rw [(f8 22 (by decide)).2.1]; first | done | rfl)⟩, ?_⟩
    refine List.forall_mem_cons.mpr ⟨⟨by rw [f7]; first | done | rfl, row 23 14 120 (by decide) (by rw [(f8 23 (by decide)).1]; first | done | rfl) (by rw [(f8 23 (by decide)).2.1]; first | done | rfl)⟩, ?_⟩
    refine List.forall_mem_cons.mpr ⟨⟨by rw [f7]; first | done | rfl, row 24 14 120 (by decide) (by rw [(f8 24 (by decide)).1]; first | done | rfl) (by rw [(f8 24 (by decide)).2.1]; first | done | rfl)⟩, ?_⟩
    refine List.forall_mem_cons.mpr ⟨⟨by rw [f7]; first | done | rfl, row 25 14 120 (by decide) (by rw [(f8 25 (by decide)).1]; first | done | rfl) (by rw [(f8 25 (by decide)).2.1]; first | done | rfl)⟩, ?_⟩
    refine List.forall_mem_cons.mpr ⟨⟨by rw [f7]; first | done | rfl, row 26 14 30 (by decide) (by rw [(f8 26 (by decide)).1]; first | done | rfl) (by rw [(f8 26 (by decide)).2.1]; first | done | rfl)⟩, ?_⟩
    refine List.forall_mem_cons.mpr ⟨⟨by rw [f7]; first | done | rfl, row 27 14 30 (by decide) (by rw [(f8 27 (by decide)).1]; first | done | rfl) (by rw [(f8 27 (by decide)).2.1]; first | done | rfl)⟩, ?_⟩
    refine List.forall_mem_cons.mpr ⟨⟨by rw [f7]; first | done | rfl, row 28 14 5 (by decide) (by rw [(f8 28 (by decide)).1]; first | done | rfl) (by rw [(f8 28 (by decide)).2.1]; first | done | rfl)⟩, ?_⟩
    refine List.forall_mem_cons.mpr ⟨⟨by rw [f7]; first | done | rfl, row 29 14 30 (by decide) (by rw [(f8 29 (by decide)).1]; first | done | rfl) (by rw [(f8 29 (by decide)).2.1]; first | done | rfl)⟩, ?_⟩
    refine List.forall_mem_cons.mpr ⟨⟨by rw [f7]; first | done | rfl, row 30 16 480 (by decide) (by rw [(f8 30 (by decide)).1]; first | done | rfl) (by rw [(f8 30 (by decide)).2.1]; first | done | rfl)⟩, ?_⟩
    refine List.forall_mem_cons.mpr ⟨⟨by rw [f7]; first | done | rfl, row 31 14 480 (by decide) (by rw [(f8 31 (by decide)).1]; first | done | rfl) (by rw [(f8 31 (by decide)).2.1]; first | done | rfl)⟩, ?_⟩
    refine List.forall_mem_cons.mpr ⟨⟨by rw [f7]; first | done | rfl, row 32 14 5 (by decide) (by rw [(f8 32 (by decide)).1]; first | done | rfl) (by rw [(f8 32 (by decide)).2.1]; first | done | rfl)⟩, ?_⟩
    refine List.forall_mem_cons.mpr ⟨⟨by rw [f7]; first | done | rfl, row 33 14 200 (by decide) (by rw [(f8 33 (by decide)).1]; first | done | rfl) (by rw [(f8 33 (by decide)).2.1]; first | done | rfl)⟩, ?_⟩
    refine List.forall_mem_cons.mpr ⟨⟨by rw [f7]; first | done | rfl, row 34 14 12 (by decide) (by rw [(f8 34 (by decide)).1]; first | done | rfl) (by rw [(f8 34 (by decide)).2.1]; first | done | rfl)⟩, ?_⟩
    refine List.forall_mem_cons.mpr ⟨⟨by rw [f7]; first | done | rfl, row 35 14 16 (by decide) (by rw [(f8 35 (by decide)).1]; first | done | rfl) (by rw [(f8 35 (by decide)).2.1]; first | done | rfl)⟩, ?_⟩
    refine List.forall_mem_cons.mpr ⟨⟨by rw [f7]; first | done | rfl, row 36 15 12 (by decide) (by rw [(f8 36 (by decide)).1]; first | done | rfl) (by rw [(f8 36 (by decide)).2.1]; first | done | rfl)⟩, ?_⟩
    refine List.forall_mem_cons.mpr ⟨⟨by rw [f7]; first | done | rfl, row 37 15 12 (by decide) (by rw [(f8 37 (by decide)).1]; first | done | rfl) (by rw [(f8 37 (by decide)).2.1]; first | done | rfl)⟩, ?_⟩
    refine List.forall_mem_cons.mpr ⟨⟨by rw [f7]; first | done | rfl, row 38 15 40 (by decide) (by rw [(f8 38 (by decide)).1]; first | done | rfl) (by rw [(f8 38 (by decide)).2.1]; first | done | rfl)⟩, ?_⟩
    refine List.forall_mem_cons.mpr ⟨⟨by rw [f7]; first | done | rfl, row 39 15 40 (by decide) (by rw [(f8 39 (by decide)).1]; first | done | rfl) (by rw [(f8 39 (by decide)).2.1]; first | done | rfl)⟩, ?_⟩
    refine List.forall_mem_cons.mpr ⟨⟨by rw [f7]; first | done | rfl, row 40 15 40 (by decide) (by rw [(f8 40 (by decide)).1]; first | done | rfl) (by rw [(f8 40 (by decide)).2.1]; first | done | rfl)⟩, ?_⟩
    refine List.forall_mem_cons.mpr ⟨⟨by rw [f7]; first | done | rfl, row 41 15 40 (by decide) (by rw [(f8 41 (by decide)).1]; first | done | rfl) (by rw [(f8 41 (by decide)).2.1]; first | done | rfl)⟩, ?_⟩
    refine List.forall_mem_cons.mpr ⟨⟨by rw [f7]; first | done | rfl, row 42 14 480000 (by decide) (by rw [(f8 42 (by decide)).1]; first | done | rfl) (by rw [(f8 42 (by decide)).2.1]; first | done | rfl)⟩, ?_⟩
    refine List.forall_mem_cons.mpr ⟨⟨by rw [f7]; first | done | rfl, row 43 14 120000 (by decide) (by rw [(f8 43 (by decide)).1]; first | done | rfl) (by rw [(f8 43 (by decide)).2.1]; first | done | rfl)⟩, ?_⟩
    refine List.forall_mem_cons.mpr ⟨⟨by rw [f7]; first | done | rfl, row 44 15 60000 (by decide) (by rw [(f8 44 (by decide)).1]; first | done | rfl) (by rw [(f8 44 (by decide)).2.1]; first | done | rfl)⟩, ?_⟩
    refine List.forall_mem_cons.mpr ⟨⟨by rw [f7]; first | done | rfl, row 45 16 240 (by decide) (by rw [(f8 45 (by decide)).1]; first | done | rfl) (by rw [(f8 45 (by decide)).2.1]; first | done | rfl)⟩, ?_⟩
    refine List.forall_mem_cons.mpr ⟨⟨by rw [f7]; first | done | rfl, row 46 16 240 (by decide) (by rw [(f8 46 (by decide)).1]; first | done | rfl) (by rw [(f8 46 (by decide)).2.1]; first | done | rfl)⟩, ?_⟩
    refine List.forall_mem_cons.mpr ⟨⟨by rw [f7]; first | done | rfl, row 47 16 4096 (by decide) (by rw [(f8 47 (by decide)).1]; first | done | rfl) (by rw [(f8 47 (by decide)).2.1]; first | done | rfl)⟩, ?_⟩
    refine List.forall_mem_cons.mpr ⟨⟨by rw [f7]; first | done | rfl, row 48 14 12 (by decide) (by rw [(f8 48 (by decide)).1]; first | done | rfl) (by rw [(f8 48 (by decide)).2.1]; first | done | rfl)⟩, ?_⟩
    refine List.forall_mem_cons.mpr ⟨⟨by rw [f7]; first | done | rfl, row 49 15 40000 (by decide) (by rw [(f8 49 (by decide)).1]; first | done | rfl) (by rw [(f8 49 (by decide)).2.1]; first | done | rfl)⟩, ?_⟩
    refine List.forall_mem_cons.mpr ⟨⟨by rw [f7]; first | done | rfl, row 50 16 20000 (by decide) (by rw [(f8 50 (by decide)).1]; first | done | rfl) (by rw [(f8 50 (by decide)).2.1]; first | done | rfl)⟩, ?_⟩
    refine List.forall_mem_cons.mpr ⟨⟨by rw [f7]; first | done | rfl, row 51 14 12 (by decide) (by rw [(f8 51 (by decide)).1]; first | done | rfl) (by rw [(f8 51 (by decide)).2.1]; first | done | rfl)⟩, ?_⟩
    refine List.forall_mem_cons.mpr ⟨⟨by rw [f7]; first | done | rfl, row 52 14 12 (by decide) (by rw [(f8 52 (by decide)).1]; first | done | rfl) (by rw [(f8 52 (by decide)).2.1]; first | done | rfl)⟩, ?_⟩
    refine List.forall_mem_cons.mpr ⟨⟨by rw [f7]; first | done | rfl, row 53 14 20 (by decide) (by rw [(f8 53 (by decide)).1]; first | done | rfl) (by rw [(f8 53 (by decide)).2.1]; first | done | rfl)⟩, ?_⟩
    refine List.forall_mem_cons.mpr ⟨⟨by rw [f7]; first | done | rfl, row 54 14 12 (by decide) (by rw [(f8 54 (by decide)).1]; first | done | rfl) (by rw [(f8 54 (by decide)).2.1]; first | done | rfl)⟩, ?_⟩
    refine List.forall_mem_cons.mpr ⟨⟨by rw [f7]; first | done | rfl, row 55 15 3 (by decide) (by rw [(f8 55 (by decide)).1]; first | done | rfl) (by rw [(f8 55 (by decide)).2.1]; first | done | rfl)⟩, ?_⟩
    refine List.forall_mem_cons.mpr ⟨⟨by rw [f7]; first | done | rfl, row 56 15 30 (by decide) (by rw [(f8 56 (by decide)).1]; first | done | rfl) (by rw [(f8 56 (by decide)).2.1]; first | done | rfl)⟩, ?_⟩
    refine List.forall_mem_cons.mpr ⟨⟨by rw [f7]; first | done | rfl, row 57 13 20001 (by decide) (by rw [(f8 57 (by decide)).1]; first | done | rfl) (by rw [(f8 57 (by decide)).2.1]; first | done | rfl)⟩, ?_⟩
    refine List.forall_mem_cons.mpr ⟨⟨by rw [f7]; first | done | rfl, row 58 13 20000 (by decide) (by rw [(f8 58 (by decide)).1]; first | done | rfl) (by rw [(f8 58 (by decide)).2.1]; first | done | rfl)⟩, ?_⟩
    refine List.forall_mem_cons.mpr ⟨⟨by rw [f7]; first | done | rfl, row 59 14 101 (by decide) (by rw [(f8 59 (by decide)).1]; first | done | rfl) (by rw [(f8 59 (by decide)).2.1]; first | done | rfl)⟩, ?_⟩
    refine List.forall_mem_cons.mpr ⟨⟨by rw [f7]; first | done | rfl, row 60 14 2048 (by decide) (by rw [(f8 60 (by decide)).1]; first | done | rfl) (by rw [(f8 60 (by decide)).2.1]; first | done | rfl)⟩, ?_⟩
    exact fun _ h => absurd h List.not_mem_nil
  refine And.intro (by rw [f5]; first | done | rfl) ?_
  refine And.intro (by rw [f6]; first | done | rfl) ?_
  refine And.intro (by rw [f6]; first | done | rfl) ?_
  refine And.intro (by rw [f5]; first | done | rfl) ?_
  refine And.intro (by rw [f5]; first | done | rfl) ?_
  refine And.intro (by rw [f5]; first | done | rfl) ?_
  refine And.intro (by rw [f5]; first | done | rfl) ?_
  refine And.intro (by rw [f5]; first | done | rfl) ?_
  refine And.intro (by rw [f5]; first | done | rfl) ?_
  refine And.intro (by rw [f5]; first | done | rfl) ?_
  refine And.intro (by rw [f5]; first | done | rfl) ?_
  refine And.intro (by rw [f5]; first | done | rfl) ?_
  refine And.intro (by rw [f5]; first | done | rfl) ?_
  refine And.intro (by rw [f5]; first | done | rfl) ?_
  refine And.intro (by rw [f5]; first | done | rfl) ?_
  refine And.intro (by rw [f5]; first | done | rfl) ?_
  refine And.intro (by rw [f5]; first | done | rfl) ?_
  refine And.intro (by rw [f5]; first | done | rfl) ?_
  refine And.intro (by rw [f5]; first | done | rfl) ?_
  refine And.intro (by rw [f5]; first | done | rfl) ?_
  refine And.intro (by rw [f5]; first | done | rfl) ?_
  refine And.intro (by rw [f5]; first | done | rfl) ?_
  refine And.intro (by rw [f6]; first | done | rfl) ?_
  refine And.intro (by rw [f6]; first | done | rfl) ?_
  refine And.intro (by rw [f5]; first | done | rfl) ?_
  refine And.intro (by rw [f5]; first | done | rfl) ?_
  refine And.intro (by rw [f5]; first | done | rfl) ?_
  refine And.intro (by rw [f5]; first | done | rfl) ?_
  refine And.intro (by rw [f5]; first | done | rfl) ?_
  refine And.intro (by rw [f5]; first | done | rfl) ?_
  refine And.intro (by rw [f5]; first | done | rfl) ?_
  refine And.intro (by rw [f5]; first | done | rfl) ?_
  refine And.intro (by rw [f5]; first | done | rfl) ?_
  refine And.intro (by rw [f5]; first | done | rfl) ?_
  intro i hi
  have q := f8 i hi
  rw [hT] at q
  exact ⟨q.2.2.1, q.2.2.2.1, q.2.2.2.2⟩

