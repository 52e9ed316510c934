/-! the class: where its cells lie, by number (by program) -/
theorem ne_add3 {x r : Nat} (h : x + 1 + r = x) : False := by omega
def xobj : List (Nat × Nat) := [(0, 0), (1, 13), (2, 10), (3, 14), (4, 15), (5, 14), (6, 14), (7, 5), (8, 14), (9, 17), (10, 1), (11, 14), (12, 14), (13, 14), (14, 14), (15, 16), (16, 6), (17, 14), (18, 14), (19, 14), (20, 4), (21, 14), (22, 15), (23, 8), (24, 0), (25, 13), (26, 14), (27, 14)]
def xlk0 : List (Nat × Nat) := [(0, 0), (1, 2), (2, 7), (3, 9), (4, 10), (5, 16), (6, 20), (7, 23)]
def xlnk : List (Nat × Nat × Nat) := [(0, 0, 1), (2, 0, 3), (2, 1, 4), (2, 2, 5), (2, 3, 6), (7, 0, 2), (7, 9, 8), (10, 0, 11), (10, 1, 12), (10, 2, 13), (10, 3, 14), (10, 5, 15), (16, 4, 17), (16, 6, 18), (16, 7, 19), (20, 0, 2), (20, 1, 21), (20, 2, 22), (23, 0, 24), (23, 2, 26), (23, 3, 27), (24, 0, 25)]
def xlen : List (Nat × Nat) := [(8, 199), (9, 4), (11, 12), (12, 288), (13, 12), (14, 12), (17, 12), (18, 20), (19, 12), (21, 30), (22, 3), (26, 100), (27, 100)]
/-- the shape of the class at x: cell number r lies at A r. 0 tape, 1 its row; 2 tokens, 3-6 kinds keys places ends; 7 reader, 8 listing; 9 problems; 10 hard, 11-15 left supported places rules suffices; 16 search, 17-19 free late barred; 20 proof, 21 22 least bound; 23 store, 24 its bytes, 25 their row, 26 27 ends broughtEnds -/
def XSh (E : EE) (G : AH) (x : Nat) (A : Nat → Nat) : Prop := isO E G x 11 ∧ (∀ q ∈ xobj, isO E G (A q.1) q.2) ∧ (∀ q ∈ xlk0, gR G x q.1 = A q.2) ∧ (∀ q ∈ xlnk, gR G (A q.1) q.2.1 = A q.2.2) ∧ (∀ q ∈ xlen, gN G (A q.1) = q.2) ∧ (∀ r s, r < 28 → s < 28 → A r = A s → r = s) ∧ ∀ r, r < 28 → A r ≠ x
section
variable {E : EE} {G : AH} {x : Nat} {A : Nat → Nat}
end
set_option maxHeartbeats 20000000 in
theorem xs_of {E : EE} {G : AH} {x : Nat} (hx : isO E G x 11) (hb : eB E ≤ x + 1) (hT : x + 29 ≤ gT G) (h : cs_X11_init x (x + 1) G) : XSh E G x (fun r => x + 1 + r) := by
  unfold cs_X11_init at h
  obtain ⟨h0, h1, h2, h3, h4, h5, h6, h7, h8, h9, h10, h11, h12, h13, h14, h15, h16, h17, h18, h19, h20, h21, h22, h23, h24, h25, h26, h27, h28, h29, h30, h31, h32, h33, h34, h35, h36, h37, h38, h39, h40, h41, h42, h43, h44, h45, h46, h47, h48, h49, h50, h51, h52, h53, h54, h55, h56, h57, h58, h59, h60, h61, h62, h63, h64, h65, h66, h67, h68, h69, h70, h71, h72, h73, h74, h75, h76, h77, h78, h79, h80, h81, h82, h83, h84, h85, h86, h87, h88, h89, h90, h91, h92, h93, h94, h95, h96, h97, h98, h99, h100, h101, h102, h103, h104, h105, h106, h107, h108, h109, h110, h111, h112, h113, h114, h115, h116, h117, h118, h119, h120, h121, h122, h123, h124, h125, h126, h127, h128, h129, h130, h131, h132, h133, h134, h135, h136, h137, h138, h139, h140, h141, h142, h143, h144, h145, h146, h147, h148, h149, h150, h151, h152, h153, h154, h155, h156, h157, h158, h159, h160, h161, h162, h163, h164, h165, h166, h167, h168, h169, h170, h171, h172, h173, h174⟩ := h
  have io : ∀ r k, r < 28 → gK G (x + 1 + r) = k → isO E G (x + 1 + r) k := fun r k hr hk => ⟨Nat.le_add_right_of_le hb, Nat.lt_of_lt_of_le (by rw [Nat.add_assoc]; exact Nat.add_lt_add_left (by omega) _) hT, hk⟩
  refine ⟨hx, ?_, ?_, ?_, ?_, ?_, ?_⟩
  · unfold xobj
    refine List.forall_mem_cons.mpr ⟨io 0 0 (by decide) h12, ?_⟩
    refine List.forall_mem_cons.mpr ⟨io 1 13 (by decide) h15, ?_⟩
    refine List.forall_mem_cons.mpr ⟨io 2 10 (by decide) h20, ?_⟩
    refine List.forall_mem_cons.mpr ⟨io 3 14 (by decide) h33, ?_⟩
    refine List.forall_mem_cons.mpr ⟨io 4 15 (by decide) h38, ?_⟩
    refine List.forall_mem_cons.mpr ⟨io 5 14 (by decide) h43, ?_⟩
    refine List.forall_mem_cons.mpr ⟨io 6 14 (by decide) h48, ?_⟩
    refine List.forall_mem_cons.mpr ⟨io 7 5 (by decide) h53, ?_⟩
    refine List.forall_mem_cons.mpr ⟨io 8 14 (by decide) h65, ?_⟩
    refine List.forall_mem_cons.mpr ⟨io 9 17 (by decide) h170, ?_⟩
    refine List.forall_mem_cons.mpr ⟨io 10 1 (by decide) h70, ?_⟩
    refine List.forall_mem_cons.mpr ⟨io 11 14 (by decide) h77, ?_⟩
    refine List.forall_mem_cons.mpr ⟨io 12 14 (by decide) h82, ?_⟩
    refine List.forall_mem_cons.mpr ⟨io 13 14 (by decide) h87, ?_⟩
    refine List.forall_mem_cons.mpr ⟨io 14 14 (by decide) h92, ?_⟩
    refine List.forall_mem_cons.mpr ⟨io 15 16 (by decide) h97, ?_⟩
    refine List.forall_mem_cons.mpr ⟨io 16 6 (by decide) h102, ?_⟩
    refine List.forall_mem_cons.mpr ⟨io 17 14 (by decide) h117, ?_⟩
    refine List.forall_mem_cons.mpr ⟨io 18 14 (by decide) h122, ?_⟩
    refine List.forall_mem_cons.mpr ⟨io 19 14 (by decide) h127, ?_⟩
    refine List.forall_mem_cons.mpr ⟨io 20 4 (by decide) h132, ?_⟩
    refine List.forall_mem_cons.mpr ⟨io 21 14 (by decide) h136, ?_⟩
    refine List.forall_mem_cons.mpr ⟨io 22 15 (by decide) h141, ?_⟩
    refine List.forall_mem_cons.mpr ⟨io 23 8 (by decide) h146, ?_⟩
    refine List.forall_mem_cons.mpr ⟨io 24 0 (by decide) h152, ?_⟩
    refine List.forall_mem_cons.mpr ⟨io 25 13 (by decide) h155, ?_⟩
    refine List.forall_mem_cons.mpr ⟨io 26 14 (by decide) h160, ?_⟩
    refine List.forall_mem_cons.mpr ⟨io 27 14 (by decide) h165, ?_⟩
    exact fun _ h => absurd h List.not_mem_nil
  · unfold xlk0
    refine List.forall_mem_cons.mpr ⟨h3, ?_⟩
    refine List.forall_mem_cons.mpr ⟨h4, ?_⟩
    refine List.forall_mem_cons.mpr ⟨h5, ?_⟩
    refine List.forall_mem_cons.mpr ⟨h6, ?_⟩
    refine List.forall_mem_cons.mpr ⟨h7, ?_⟩
    refine List.forall_mem_cons.mpr ⟨h8, ?_⟩
    refine List.forall_mem_cons.mpr ⟨h9, ?_⟩
    refine List.forall_mem_cons.mpr ⟨h10, ?_⟩
    exact fun _ h => absurd h List.not_mem_nil
  · unfold xlnk
    refine List.forall_mem_cons.mpr ⟨h14, ?_⟩
    refine List.forall_mem_cons.mpr ⟨h29, ?_⟩
    refine List.forall_mem_cons.mpr ⟨h30, ?_⟩
    refine List.forall_mem_cons.mpr ⟨h31, ?_⟩
    refine List.forall_mem_cons.mpr ⟨h32, ?_⟩
    refine List.forall_mem_cons.mpr ⟨h61, ?_⟩
    refine List.forall_mem_cons.mpr ⟨h64, ?_⟩
    refine List.forall_mem_cons.mpr ⟨h72, ?_⟩
    refine List.forall_mem_cons.mpr ⟨h73, ?_⟩
    refine List.forall_mem_cons.mpr ⟨h74, ?_⟩
    refine List.forall_mem_cons.mpr ⟨h75, ?_⟩
    refine List.forall_mem_cons.mpr ⟨h76, ?_⟩
    refine List.forall_mem_cons.mpr ⟨h114, ?_⟩
    refine List.forall_mem_cons.mpr ⟨h115, ?_⟩
    refine List.forall_mem_cons.mpr ⟨h116, ?_⟩
    refine List.forall_mem_cons.mpr ⟨h133, ?_⟩
    refine List.forall_mem_cons.mpr ⟨h134, ?_⟩
    refine List.forall_mem_cons.mpr ⟨h135, ?_⟩
    refine List.forall_mem_cons.mpr ⟨h149, ?_⟩
    refine List.forall_mem_cons.mpr ⟨h150, ?_⟩
    refine List.forall_mem_cons.mpr ⟨h151, ?_⟩
    refine List.forall_mem_cons.mpr ⟨h154, ?_⟩
    exact fun _ h => absurd h List.not_mem_nil
  · unfold xlen
    refine List.forall_mem_cons.mpr ⟨h66, ?_⟩
    refine List.forall_mem_cons.mpr ⟨h171, ?_⟩
    refine List.forall_mem_cons.mpr ⟨h78, ?_⟩
    refine List.forall_mem_cons.mpr ⟨h83, ?_⟩
    refine List.forall_mem_cons.mpr ⟨h88, ?_⟩
    refine List.forall_mem_cons.mpr ⟨h93, ?_⟩
    refine List.forall_mem_cons.mpr ⟨h118, ?_⟩
    refine List.forall_mem_cons.mpr ⟨h123, ?_⟩
    refine List.forall_mem_cons.mpr ⟨h128, ?_⟩
    refine List.forall_mem_cons.mpr ⟨h137, ?_⟩
    refine List.forall_mem_cons.mpr ⟨h142, ?_⟩
    refine List.forall_mem_cons.mpr ⟨h161, ?_⟩
    refine List.forall_mem_cons.mpr ⟨h166, ?_⟩
    exact fun _ h => absurd h List.not_mem_nil
  · intro r s _ _ h; exact Nat.add_left_cancel h
  · intro r _ h; exact ne_add3 h

