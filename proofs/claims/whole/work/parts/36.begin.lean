/-! the law up to its loop -/
theorem XSh_keep {E : EE} {G G' : AH} {x B : Nat} {A : Nat → Nat} (h : XSh E G x A) (hx : x < B) (hA : ∀ r, r < 28 → A r < B) (hs : ∀ a, a < B → Sm G G' a) (hT : gT G ≤ gT G') : XSh E G' x A := by
  obtain ⟨h1, h2, h3, h4, h5, h6, h7⟩ := h
  have o1 : ∀ q ∈ xobj, q.1 < 28 := by decide
  have o2 : ∀ q ∈ xlnk, q.1 < 28 := by decide
  have o3 : ∀ q ∈ xlen, q.1 < 28 := by decide
  refine ⟨⟨h1.1, Nat.lt_of_lt_of_le h1.2.1 hT, (hs x hx).1.trans h1.2.2⟩, fun q hq => ?_, fun q hq => ?_, fun q hq => ?_, fun q hq => ?_, h6, h7⟩
  · have z := h2 q hq
    exact ⟨z.1, Nat.lt_of_lt_of_le z.2.1 hT, (hs _ (hA _ (o1 q hq))).1.trans z.2.2⟩
  · rw [(hs x hx).2.2.2.2]; exact h3 q hq
  · rw [(hs _ (hA _ (o2 q hq))).2.2.2.2]; exact h4 q hq
  · rw [(hs _ (hA _ (o3 q hq))).2.1]; exact h5 q hq
/-- class at x and reference at m as they are made -/
def Fresh (E : EE) (G : AH) (x m : Nat) : Prop := XSh E G x (fun r => x + 1 + r) ∧ MSh E G m ∧ m = x + 29 ∧ eB E ≤ x ∧ gT G = x + 91 ∧ gU G = 1293303 ∧ gI G (x + 1 + 0) 1 = 0 ∧ gN G (x + 1 + 1) = 256 ∧ gI G (x + 1 + 1) = (fun _ => 0) ∧ gN G (x + 1 + 3) = 64 ∧ gN G (x + 1 + 4) = 64 ∧ gN G (x + 1 + 5) = 64 ∧ gN G (x + 1 + 6) = 64 ∧ gR G (x + 1 + 9) = (fun _ => 0) ∧ gR G x 8 = 0 ∧ gI G x 9 = 0 ∧ gJ G x 10 = 0 ∧ gJ G x 11 = 1 ∧ gI G (x + 1 + 16) 0 = 0 ∧ gI G (x + 1 + 23) 1 = 0 ∧ gI G (x + 1 + 23) 4 = (-1) ∧ gI G (x + 1 + 24) 1 = 0 ∧ gN G (x + 1 + 25) = 256 ∧ gN G (x + 1 + 15) = 0 ∧ gI G (x + 1 + 15) = (fun _ => 0) ∧ gI G (x + 1 + 25) = (fun _ => 0) ∧ gR G (x + 1 + 7) 1 = 0 ∧ gR G (x + 1 + 7) 2 = 0 ∧ gI G m 1 = 0 ∧ gJ G m 2 = 0 ∧ gJ G m 3 = 1 ∧ gI G m 4 = 0 ∧ gI G m 79 = 0 ∧ gI G m 89 = 0 ∧ gI G m 91 = 0 ∧ gI G m 92 = (-1) ∧ gI G m 37 = 0 ∧ gI G m 93 = 0 ∧ gI G m 62 = (-1) ∧ gI G m 63 = 0 ∧ ∀ i, i < 61 → gI G (m + 1 + i) = (fun _ => 0) ∧ gJ G (m + 1 + i) = (fun _ => 0) ∧ gR G (m + 1 + i) = (fun _ => 0)
set_option maxHeartbeats 20000000 in
theorem law_begin {N : Nat} (hloop : ∀ (E : EE) (G : AH) (x m : Nat), (eS E).2.1 ≤ N → (eS E).1 < eB E → eFr E → Fresh E G x m → wp E 1300 M_L_law 18 [some (vs (eS E).1), some (vr x), some (vr m), some (vi 0)] [] G (fun r G' => r = some (vi 1) ∧ gT G' ≤ x + 600000 ∧ gU G' ≤ 7302250)) : LawOk N := by
  intro E G hN hS hFr hT hU
  have hb : eB E ≤ gT G := Nat.le_of_eq hT.symm
  refine v_L_law_0 (by decide) ⟨hb, ?_⟩
  intro G4 e4
  have e4T : gT G4 = gT G + 1 := by rw [e4]; rfl
  have e4U : gU G4 = 12 := by rw [e4]; show gU G + 12 = 12; rw [hU]
  refine wpV.mono (c_X11_init (by decide) (isO_newE e4 hb) (base_nwE e4 hb)) (fun G7 q => ?_)
  obtain ⟨hT7, hU7, hK7, hP7, hc⟩ := q
  rw [e4T] at hT7 hc
  rw [e4U] at hU7
  have hb7 : eB E ≤ gT G7 := by rw [hT7]; exact Nat.le_add_right_of_le (Nat.le_add_right_of_le hb)
  have hx7 : isO E G7 (gT G) 11 := ⟨hb, by rw [hT7]; omega, hK7⟩
  refine ⟨hb7, ?_⟩
  have hX7 := xs_of hx7 (Nat.le_add_right_of_le hb) (by rw [hT7]; exact Nat.le_refl _) hc
  intro G11 e11
  have hI11 : gI G11 (gT G7) = fun _ => 0 := by rw [e11]; exact if_pos rfl
  have hJ11 : gJ G11 (gT G7) = fun _ => 0 := by rw [e11]; exact if_pos rfl
  have hT11 : gT G11 = gT G7 + 1 := by rw [e11]; rfl
  have hU11 : gU G11 = gU G7 + 95 := by rw [e11]; rfl
  refine wpV.mono (c_X12_shape (by decide) (isO_newE e11 hb7) (base_nwE e11 hb7) hT11 hI11 hJ11) (fun G14 q => ?_)
  obtain ⟨hT14, hU14, hP14, hM, hrest⟩ := q
  have hm : gT G7 = gT G + 29 := by rw [hT7]
  have sm : ∀ a, a < gT G + 29 → Sm G7 G14 a := fun a ha => by
    have h1 := (Pv_nw (x := gT G7) e11).2 a (by rw [hm]; exact ha) (by rw [hm]; exact Nat.ne_of_lt ha)
    have h2 := hP14.2 a (by rw [hT11, hm]; exact Nat.lt_succ_of_lt ha) (by rw [hm]; exact Nat.ne_of_lt ha)
    exact h1.trans h2
  have hTT : gT G7 ≤ gT G14 := by rw [hT14, hT11]; omega
  refine hloop E G14 (gT G) (gT G7) hN hS hFr ?_
  have hxl : gT G < gT G + 29 := by omega
  have ho : ∀ o, o < 28 → gT G + 1 + o < gT G + 29 := fun o h => by omega
  refine ⟨XSh_keep hX7 hxl ho sm hTT, hM, hm, hb, by rw [hT14, hT11, hm], by rw [hU14, hU11, hU7], ?_⟩
  unfold cs_X11_init at hc
  obtain ⟨h0, h1, h2, h3, h4, h5, h6, h7, h8, h9, h10, h11, h12, h13, h14, h15, h16, h17, h18, h19, h20, h21, h22, h23, h24, h25, h26, h27, h28, h29, h30, h31, h32, h33, h34, h35, h36, h37, h38, h39, h40, h41, h42, h43, h44, h45, h46, h47, h48, h49, h50, h51, h52, h53, h54, h55, h56, h57, h58, h59, h60, h61, h62, h63, h64, h65, h66, h67, h68, h69, h70, h71, h72, h73, h74, h75, h76, h77, h78, h79, h80, h81, h82, h83, h84, h85, h86, h87, h88, h89, h90, h91, h92, h93, h94, h95, h96, h97, h98, h99, h100, h101, h102, h103, h104, h105, h106, h107, h108, h109, h110, h111, h112, h113, h114, h115, h116, h117, h118, h119, h120, h121, h122, h123, h124, h125, h126, h127, h128, h129, h130, h131, h132, h133, h134, h135, h136, h137, h138, h139, h140, h141, h142, h143, h144, h145, h146, h147, h148, h149, h150, h151, h152, h153, h154, h155, h156, h157, h158, h159, h160, h161, h162, h163, h164, h165, h166, h167, h168, h169, h170, h171, h172, h173, h174⟩ := hc
  generalize gT G = x at *
  refine And.intro (by rw [(sm (x + 1 + 0) (ho 0 (by decide))).2.2.1]; exact h13) ?_
  refine And.intro (by rw [(sm (x + 1 + 1) (ho 1 (by decide))).2.1]; exact h16) ?_
  refine And.intro (by rw [(sm (x + 1 + 1) (ho 1 (by decide))).2.2.1]; exact h17) ?_
  refine And.intro (by rw [(sm (x + 1 + 3) (ho 3 (by decide))).2.1]; exact h34) ?_
  refine And.intro (by rw [(sm (x + 1 + 4) (ho 4 (by decide))).2.1]; exact h39) ?_
  refine And.intro (by rw [(sm (x + 1 + 5) (ho 5 (by decide))).2.1]; exact h44) ?_
  refine And.intro (by rw [(sm (x + 1 + 6) (ho 6 (by decide))).2.1]; exact h49) ?_
  refine And.intro (by rw [(sm (x + 1 + 9) (ho 9 (by decide))).2.2.2.2]; exact h174) ?_
  refine And.intro (by rw [(sm x hxl).2.2.2.2]; exact h11) ?_
  refine And.intro (by rw [(sm x hxl).2.2.1]; exact h0) ?_
  refine And.intro (by rw [(sm x hxl).2.2.2.1]; exact h1) ?_
  refine And.intro (by rw [(sm x hxl).2.2.2.1]; exact h2) ?_
  refine And.intro (by rw [(sm (x + 1 + 16) (ho 16 (by decide))).2.2.1]; exact h103) ?_
  refine And.intro (by rw [(sm (x + 1 + 23) (ho 23 (by decide))).2.2.1]; exact h147) ?_
  refine And.intro (by rw [(sm (x + 1 + 23) (ho 23 (by decide))).2.2.1]; exact h148) ?_
  refine And.intro (by rw [(sm (x + 1 + 24) (ho 24 (by decide))).2.2.1]; exact h153) ?_
  refine And.intro (by rw [(sm (x + 1 + 25) (ho 25 (by decide))).2.1]; exact h156) ?_
  refine And.intro (by rw [(sm (x + 1 + 15) (ho 15 (by decide))).2.1]; exact h98) ?_
  refine And.intro (by rw [(sm (x + 1 + 15) (ho 15 (by decide))).2.2.1]; exact h99) ?_
  refine And.intro (by rw [(sm (x + 1 + 25) (ho 25 (by decide))).2.2.1]; exact h157) ?_
  refine And.intro (by rw [(sm (x + 1 + 7) (ho 7 (by decide))).2.2.2.2]; exact h62) ?_
  refine And.intro (by rw [(sm (x + 1 + 7) (ho 7 (by decide))).2.2.2.2]; exact h63) ?_
  refine And.intro hrest.1 ?_
  refine And.intro hrest.2.1 ?_
  refine And.intro hrest.2.2.1 ?_
  refine And.intro hrest.2.2.2.1 ?_
  refine And.intro hrest.2.2.2.2.2.2.2.2.2.2.2.2.2.2.2.2.2.2.2.2.2.2.2.2.2.2.2.2.1 ?_
  refine And.intro hrest.2.2.2.2.2.2.2.2.2.2.2.2.2.2.2.2.2.2.2.2.2.2.2.2.2.2.2.2.2.2.1 ?_
  refine And.intro hrest.2.2.2.2.2.2.2.2.2.2.2.2.2.2.2.2.2.2.2.2.2.2.2.2.2.2.2.2.2.2.2.1 ?_
  refine And.intro hrest.2.2.2.2.2.2.2.2.2.2.2.2.2.2.2.2.2.2.2.2.2.2.2.2.2.2.2.2.2.2.2.2.1 ?_
  refine And.intro hrest.2.2.2.2.1 ?_
  refine And.intro hrest.2.2.2.2.2.2.2.2.2.2.2.2.2.2.2.2.2.2.2.2.2.2.2.2.2.2.2.2.2.2.2.2.2.1 ?_
  refine And.intro hrest.2.2.2.2.2.2.2.2.2.2.2.2.2.2.2.2.2.2.2.2.1 ?_
  refine And.intro hrest.2.2.2.2.2.2.2.2.2.2.2.2.2.2.2.2.2.2.2.2.2.1 ?_
  exact hrest.2.2.2.2.2.2.2.2.2.2.2.2.2.2.2.2.2.2.2.2.2.2.2.2.2.2.2.2.2.2.2.2.2.2
