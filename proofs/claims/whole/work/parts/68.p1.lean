/-! one call on a fresh object -/
theorem vupI {E : EE} {d : Nat} {N : MD} {as : List WV} {V : VH} {K K' : Int32 → VH → Prop} (h : vMI E d N as V K') (k : ∀ x V', K' x V' → WF V' → Xl V V' → K x V') : vMI E d N as V K := vMI.mono (vMI.up h) (fun x V' q => k x V' q.1 q.2.1 q.2.2)
theorem CapOK.fr {V V' : VH} {S : Nat → Nat → Prop} (h : CapOK V) (k : Fn V V' S) (q : ∀ g f, S g f → vN V' g f ≤ capT g f) : CapOK V' := fun g f h1 h2 h3 => by
  by_cases c : S g f
  · exact q g f c
  · rw [k.2 g f c]; rw [k.1] at h1; exact h g f h1 h2 h3
theorem wf0 {V : VH} {f n : Nat} (h : WF V) (hq : (f, n) ∈ LN0) : vN V 0 f = n := h.2.1 0 h.1.1 (f, n) hq
theorem CapOK.bytes {V V' : VH} {n : Nat} (h : CapOK V) (k : Fr V V' (bR 0 0)) (y : Byt V' 0 0 n) (w : WF V') : CapOK V' := h.fr (k.fn (fun a f z => z)) (fun g f z => by
  obtain ⟨rfl, rfl | rfl⟩ := z
  · rw [wf0 w (show (0, 0) ∈ LN0 by decide)]; exact Nat.zero_le _
  · exact y.2.2.2.2)
section
variable {E : EE} {d : Nat} {V : VH} {x : Nat}
def P0 (x : Nat) (V : VH) : Prop := WF V ∧ FreshV V x
def P1 (x : Nat) (V : VH) : Prop := Room x V ∧ CapOK V
theorem P0.p1 (h : P0 x V) : P1 x V := ⟨fresh_room h.2, fresh_cap h.1 h.2⟩
theorem P0.noP (h : P0 x V) (p : Int32) : ¬ isP V p := fun ⟨q, h1, _, h3, _⟩ => by
  rw [h.2.1] at h3
  have := of_decide_eq_true h3
  omega
theorem P0.row6 (h : P0 x V) {f : Nat} (h1 : 0 < f) (h2 : f < 62) : vI V 6 f = fun _ => 0 := (h.2.2.2.2.2.2.2.2.2.2.2.2.2.2.2.2.2 f h1 h2).1
theorem P0.noM (h : P0 x V) (p : Int32) : ¬ isM V p := fun ⟨q, h1, _, h3⟩ => h3 (by rw [h.row6 (by decide) (by decide)])
theorem P0.tape (h : P0 x V) : Byt V 0 0 0 := by
  obtain ⟨hW, _, _, _, _, _, ⟨i0, n1, _⟩, _⟩ := h
  exact ⟨bs_tape hW.1.1, i0, Nat.zero_le _, by show 64 ≤ vN V 0 1; rw [n1]; decide, by show vN V 0 1 ≤ 60000; rw [n1]; decide⟩
theorem P0.store (h : P0 x V) : Byt V 0 24 0 := by
  obtain ⟨hW, _, _, _, _, _, ⟨_, _, _, _, _, _, _, _, _, _, _, _, i24, n25, _⟩, _⟩ := h
  exact ⟨bs_store hW.1.1, i24, Nat.zero_le _, by show 64 ≤ vN V 0 25; rw [n25]; decide, by show vN V 0 25 ≤ 60000; rw [n25]; decide⟩
theorem P0.tokens (h : P0 x V) : TkN V 64 := by
  obtain ⟨hW, _, _, _, _, _, ⟨_, _, n3, n4, n5, n6, _⟩, _⟩ := h
  exact ⟨n3, n4, n5, n6, by decide, by decide⟩
theorem P0.c (h : P0 x V) : vI V 0 28 9 = 0 ∧ vJ V 0 28 10 = 0 ∧ vJ V 0 28 11 = 1 ∧ vI V 0 16 0 = 0 ∧ vI V 0 23 1 = 0 ∧ vI V 0 23 4 = (-1) ∧ vI V 0 24 1 = 0 := by
  obtain ⟨hW, _, _, _, _, _, ⟨_, _, _, _, _, _, a, b, c, d, e, f, g, _⟩, _⟩ := h
  exact ⟨a, b, c, d, e, f, g⟩
theorem P0.m (h : P0 x V) : vI V 6 0 1 = 0 ∧ vJ V 6 0 2 = 0 ∧ vJ V 6 0 3 = 1 ∧ vI V 6 0 4 = 0 ∧ vI V 6 0 79 = 0 ∧ vI V 6 0 89 = 0 ∧ vI V 6 0 91 = 0 ∧ vI V 6 0 92 = (-1) := by
  obtain ⟨hW, _, _, _, _, _, _, a, b, c, d, e, f, g, k, _⟩ := h
  exact ⟨a, b, c, d, e, f, g, k⟩
theorem P0.tpm (h : P0 x V) : TpM V 0 := ⟨h.m.1, by decide⟩
theorem P0.stm (h : P0 x V) : StM V 0 := ⟨h.m.2.2.2.2.2.1, by decide⟩
theorem fr6 {V V' : VH} {b c : Nat} (h : Fr V V' (bR b c)) (hb : b ≠ 6) (f : Nat) : vI V' 6 f = vI V 6 f := h.i (fun z => hb z.1.symm)
/-- what of a run behind the class's call is wanted -/
theorem p1_m {V1 V2 : VH} {S : Nat → Nat → Nat → Prop} (r : Room x V1) (c : CapOK V1) (f : Fc V1 V2 S) : P1 x V2 := ⟨f.room r, f.cap c⟩
theorem f_type (h0 : 5 < d) : VO_type E d (P0 x) (P1 x) := by
  intro V w k hJ
  have r0 := hJ.p1
  refine vupI (K' := fun r V1 => ((∀ j, 1 ≤ j → j ≤ 8 → k ≠ nI j) ∧ r = -1 ∧ V1 = V) ∨ ∃ j, 1 ≤ j ∧ j ≤ 8 ∧ k = nI j ∧ r = nI (0 + j) ∧ Bex V V1 0 0 0 (0 + j)) (c_X11_type (by omega) hJ.tape (by omega) (fun q => Or.inl ⟨q, rfl, rfl⟩) (fun j h1 h2 e q => by omega) (fun j h1 h2 e q V' b _ => Or.inr ⟨j, h1, h2, e, rfl, b⟩)) (fun r V1 q hW hX => ?_)
  rcases q with ⟨q, rfl, rfl⟩ | ⟨j, h1, h2, rfl, rfl, b⟩
  · exact c_X12_type hJ.tpm (fun _ => ⟨rfl, r0⟩) (fun j h1 h2 e _ => absurd e (q j h1 h2)) (fun j h1 h2 e _ => absurd e (q j h1 h2))
  · have t1 : TpM V1 0 := ⟨by rw [fr6 b.1 (by decide)]; exact hJ.tpm.1, by decide⟩
    refine c_X12_type t1 (fun q => absurd rfl (q j h1 h2)) (fun j' _ _ _ q => by omega) (fun j' k1 k2 e k3 V2 f _ _ => ?_)
    have : j = j' := (nI_eq (by omega) (by omega)).mp e
    subst this
    exact ⟨rfl, p1_m (r0.1.up hX) (r0.2.bytes b.1 b.2.1 hW) f⟩
theorem f_cut (h0 : 5 < d) : VO_cut E d (P0 x) (P1 x) := by
  intro V k hJ
  have r0 := hJ.p1
  have lx : vI V 0 0 1 = 0 := hJ.tape.2.1
  have lm : vI V 6 0 1 = 0 := hJ.tpm.1
  have z : ∀ k : Int32, ¬ k < 0 → k ≤ 0 → k = 0 := fun k a b => Int32.le_antisymm b (Int32.not_lt.mp a)
  refine vupI (K' := fun r V1 => (¬ k = 0 ∧ r = -1 ∧ V1 = V) ∨ (k = 0 ∧ r = 0 ∧ Fr V V1 (bR 0 0) ∧ Byt V1 0 0 0)) (w_X11_cut_0 (by omega) ⟨fun q => Or.inl ⟨fun e => by subst e; exact absurd q (by decide), rfl, rfl⟩, fun q => ⟨fun q2 => ?_, fun q2 => Or.inl ⟨fun e => q2 (by rw [e, lx]; decide), rfl, rfl⟩⟩⟩) (fun r V1 q hW hX => ?_)
  · rw [lx] at q2 ⊢
    have e := z k q q2
    rw [e]
    exact c_keep (m := 0) hJ.tape (Nat.le_refl _) (fun V1 f1 b1 => Or.inr ⟨rfl, rfl, f1.mono (fun a f z => ⟨z.1, Or.inl z.2⟩), b1⟩)
  · rcases q with ⟨hk, rfl, rfl⟩ | ⟨rfl, rfl, f1, b1⟩
    · exact w_X12_cut_0 ⟨fun _ => ⟨rfl, r0⟩, fun q => ⟨fun q2 => absurd (z k q (by rw [lm] at q2; exact q2)) hk, fun _ => ⟨rfl, r0⟩⟩⟩
    · have l1 : vI V1 6 0 1 = 0 := by rw [fr6 f1 (by decide)]; exact lm
      refine w_X12_cut_0 ⟨fun q => absurd q (by decide), fun _ => ⟨fun _ V2 e2 => ⟨l1.symm, ?_⟩, fun q => absurd (by rw [l1]; decide) q⟩⟩
      exact p1_m (S := fun _ _ _ => True) (r0.1.up hX) (r0.2.bytes f1 b1 hW) (by rw [e2]; exact Fc_wrI trivial)
theorem f_spoil (h0 : 5 < d) : VO_spoil E d (P0 x) (P1 x) := by
  intro V i by_ hJ
  have r0 := hJ.p1
  have lx : vI V 0 0 1 = 0 := hJ.tape.2.1
  have lm : vI V 6 0 1 = 0 := hJ.tpm.1
  have hm : vMI E d M_X12_spoil [sl 6 0, wi i, wi by_] V (fun r' V2 => -1 = r' ∧ P1 x V2) := w_X12_spoil_0 ⟨fun _ => ⟨rfl, r0⟩, fun q => ⟨fun q2 => absurd (by rw [lm] at q2; exact q2) q, fun _ => ⟨rfl, r0⟩⟩⟩
  exact w_X11_spoil_0 (by omega) ⟨fun _ => hm, fun q => ⟨fun q2 => absurd (by rw [lx] at q2; exact q2) q, fun _ => hm⟩⟩
theorem f_tapeAt (h0 : 5 < d) : VO_tapeAt E d (P0 x) (P1 x) := by
  intro V i hJ
  have r0 := hJ.p1
  have lm : vI V 6 0 1 = 0 := hJ.tpm.1
  refine w_X11_tapeAt_0 (by omega) (c_at_out hJ.tape (fun j hj => absurd hj (Nat.not_lt_zero j)) ?_)
  exact w_X12_tapeAt_0 ⟨fun _ => w_X12_tapeAt_12 ⟨rfl, r0⟩, fun q => ⟨fun q2 => absurd (by rw [lm] at q2; exact q2) q, fun _ => w_X12_tapeAt_12 ⟨rfl, r0⟩⟩⟩
theorem f_byteAt (h0 : 5 < d) : VO_byteAt E d (P0 x) (P1 x) := by
  intro V i hJ
  have r0 := hJ.p1
  have lm : vI V 6 0 89 = 0 := hJ.stm.1
  refine w_X11_byteAt_0 (by omega) (c_at_out hJ.store (fun j hj => absurd hj (Nat.not_lt_zero j)) ?_)
  exact w_X12_byteAt_0 ⟨fun _ => w_X12_byteAt_12 ⟨rfl, r0⟩, fun q => ⟨fun q2 => absurd (by rw [lm] at q2; exact q2) q, fun _ => w_X12_byteAt_12 ⟨rfl, r0⟩⟩⟩
theorem f_fault : VO_fault E d (P0 x) (P1 x) := fun V hJ => w_X11_fault_0 (w_X12_fault_0 ⟨by rw [hJ.c.1, hJ.m.2.2.2.1], hJ.p1⟩)
theorem f_above : VO_above E d (P0 x) (P1 x) := fun V hJ => w_X11_above_0 (w_X12_above_0 ⟨by rw [hJ.c.2.1, hJ.m.2.1], hJ.p1⟩)
theorem f_below : VO_below E d (P0 x) (P1 x) := fun V hJ => w_X11_below_0 (w_X12_below_0 ⟨by rw [hJ.c.2.2.1, hJ.m.2.2.1], hJ.p1⟩)
theorem f_rows : VO_rows E d (P0 x) (P1 x) := fun V hJ => w_X11_rows_0 (w_X12_rows_0 ⟨by rw [hJ.c.2.2.2.2.1, hJ.m.2.2.2.2.2.2.1], hJ.p1⟩)
theorem f_size : VO_size E d (P0 x) (P1 x) := fun V hJ => w_X11_size_0 (w_X12_size_0 ⟨by rw [hJ.c.2.2.2.2.2.2, hJ.m.2.2.2.2.2.1], hJ.p1⟩)
theorem f_searched : VO_searched E d (P0 x) (P1 x) := fun V k hJ => w_X11_searched_0 ⟨fun q => absurd hJ.c.2.2.2.1 q, fun _ => w_X12_searched_0 ⟨fun q => absurd hJ.m.2.2.2.2.1 q, fun _ => ⟨rfl, hJ.p1⟩⟩⟩
theorem f_crash (h0 : 5 < d) : VO_crash E d (P0 x) (P1 x) := by
  intro V n hJ
  have r0 := hJ.p1
  have c1 := hJ.c.2.2.2.2.1
  have c4 := hJ.c.2.2.2.2.2.1
  have m91 := hJ.m.2.2.2.2.2.2.1
  have m92 := hJ.m.2.2.2.2.2.2.2
  refine w_X11_crash_0 (by omega) ⟨fun q => w_X8_lose_0 ⟨fun q2 => absurd (by rw [c4] at q2; exact q2) (by decide), fun _ => ?_⟩, fun q => w_X12_crash_0 ⟨fun q' => absurd q' q, fun _ => ⟨rfl, r0⟩⟩⟩
  refine w_X12_crash_0 ⟨fun _ => ⟨fun _ => w_X12_crash_84 ⟨by rw [c1, m91], r0⟩, fun q2 => absurd (by rw [m92]; decide) q2⟩, fun q' => absurd q q'⟩
theorem f_load (h0 : 5 < d) : VO_load E d (P0 x) (P1 x) := by
  intro V k hJ
  have r0 := hJ.p1
  have c1 := hJ.c.2.2.2.2.1
  have m91 := hJ.m.2.2.2.2.2.2.1
  have hm : vMI E d M_X12_load [sl 6 0, wi k] V (fun r' V2 => -1 = r' ∧ P1 x V2) := w_X12_load_0 (by omega) ⟨fun _ => ⟨rfl, r0⟩, fun q => ⟨fun q2 => absurd (by rw [m91] at q2; exact q2) q, fun _ => ⟨rfl, r0⟩⟩⟩
  refine w_X11_load_0 (by omega) (w_X8_start_0 ⟨fun _ => ⟨fun q => absurd q (by decide), fun _ => hm⟩, fun q => ⟨fun _ => ⟨fun q => absurd q (by decide), fun _ => hm⟩, fun q2 => absurd (by rw [c1]; exact Int32.not_lt.mp q) q2⟩⟩)
theorem f_bring (h0 : 5 < d) : VO_bring E d (P0 x) (P1 x) := by
  intro V hJ
  have r0 := hJ.p1
  have lx : vI V 0 0 1 = 0 := hJ.tape.2.1
  have lm : vI V 6 0 1 = 0 := hJ.tpm.1
  refine w_X11_bring_0 (by omega) (w_X8_announced_0 hJ.tape.1 (by omega) ⟨fun _ => ⟨fun _ => ?_, fun q => absurd q (by decide)⟩, fun q => absurd (by rw [lx]; decide) q⟩)
  exact w_X12_bring_0 (by omega) ⟨fun q => absurd (by rw [lm] at q; exact q) (by decide), fun _ => ⟨rfl, r0⟩⟩
theorem f_take (h0 : 6 < d) : VO_take E d (P0 x) (P1 x) := by
  intro V hJ
  have r0 := hJ.p1
  refine vupI (K' := fun r V1 => r = nI (2 + 0 + 8) ∧ Bex V V1 0 0 0 (2 + 0 + 8)) (w_X11_take_0 (by omega) (c_X8_export (s := 0) (cnt := 0) (by omega) hJ.tape hJ.store (by omega) hJ.c.2.2.2.2.1 (fun V' b _ _ _ => ⟨b.2.1.2.1, b⟩))) (fun r V1 q hW hX => ?_)
  obtain ⟨rfl, b⟩ := q
  have t1 : StM V1 0 := ⟨by rw [fr6 b.1 (by decide)]; exact hJ.stm.1, by decide⟩
  exact c_X12_take (by omega) t1 (fun V2 f _ _ _ _ _ => ⟨rfl, p1_m (r0.1.up hX) (r0.2.bytes b.1 b.2.1 hW) f⟩)
/-- as c_become, whatever the length was -/
theorem c_become2 {b c b1 c1 n1 s m : Nat} {K : VH → Prop} (h0 : 3 < d) (hB : BS (vL V) b c) (h3 : 64 ≤ vN V b (c + 1)) (h4 : vN V b (c + 1) ≤ 60000) (h1 : Byt V b1 c1 n1) (hne : ¬ (b1 = b ∧ c1 = c)) (hs : s + m ≤ n1) (hn : m ≤ 30000) (hk : ∀ V', Bex V V' b c 0 m → (∀ j, j < m → vI V' b (c + 1) j = vI V b1 (c1 + 1) (s + j)) → K V') : vMV E d M_X0_become [sl b c, sl b1 c1, wi (nI s), wi (nI m)] V K := by
  refine w_X0_become_0 hB h1.1 (by omega) (fun V1 e1 => ?_)
  have f1 : Fr V V1 (bR b c) := by subst e1; exact Fr_wrI ⟨rfl, Or.inl rfl⟩
  have hr : ¬ bR b c b1 c1 := fun z => by
    obtain ⟨_, ⟨z1, z2⟩ | ⟨z1, z2, z3⟩⟩ := h1.1 <;> obtain ⟨_, ⟨w1, w2⟩ | ⟨w1, w2, w3⟩⟩ := hB <;> obtain ⟨y1, y2⟩ := z <;> omega
  have hr2 : ¬ bR b c b1 (c1 + 1) := fun z => by
    obtain ⟨_, ⟨z1, z2⟩ | ⟨z1, z2, z3⟩⟩ := h1.1 <;> obtain ⟨_, ⟨w1, w2⟩ | ⟨w1, w2, w3⟩⟩ := hB <;> obtain ⟨y1, y2⟩ := z <;> omega
  have y1 : Byt V1 b c 0 := by subst e1; exact ⟨hB, wrI_at, Nat.zero_le _, h3, h4⟩
  refine c_addAll (by omega) y1 (h1.fr f1 hr hr2) hne hs (by omega) (fun V2 q2 r2 => ?_)
  rw [Nat.zero_add] at q2
  refine hk V2 ⟨f1.trans q2.1, q2.2.1, fun j hj => absurd hj (Nat.not_lt_zero j)⟩ (fun j hj => ?_)
  have := r2 j hj
  rw [Nat.zero_add] at this
  rw [this, f1.i hr2]
theorem f_problem (h0 : 6 < d) : VO_problem E d (P0 x) (P1 x) := by
  intro V hJ
  have r0 := hJ.p1
  have hL := hJ.2.1
  have n1 : ¬ vL V 1 = true := by rw [hL]; decide
  refine vupI (K' := fun r V1 => r = -1 ∧ vL V1 = (fun a => if a = 1 then true else vL V a) ∧ (vN V1 0 1 ≤ 60000 ∧ vN V1 0 3 ≤ 50000 ∧ vN V1 0 4 ≤ 50000 ∧ vN V1 0 5 ≤ 50000 ∧ vN V1 0 6 ≤ 50000 ∧ vN V1 0 15 ≤ 4096 ∧ vN V1 0 25 ≤ 60000) ∧ (vN V1 1 2 ≤ 60000 ∧ vN V1 1 15 ≤ 200000 ∧ vN V1 1 16 ≤ 100000 ∧ vN V1 1 20 ≤ 20000 ∧ vN V1 1 21 ≤ 60000 ∧ vN V1 1 22 ≤ 20000) ∧ ∀ f, vI V1 6 f = vI V 6 f) ?_ (fun r V1 q hW hX => ?_)
  · refine w_X11_problem_0 (by omega) (w_X11_freeNumber_0 (w_X11_freeNumber_2 ⟨fun q => absurd q (by decide), fun _ => ⟨by unfold vp_in; decide, fun _ => ⟨fun _ => ?_, fun q => absurd (by decide) q⟩, fun q => absurd q n1⟩⟩))
    have hv : vP V = 7 ∧ vQ V = 7 := ⟨hJ.2.2.1, hJ.2.2.2.1⟩
    refine w_X11_roomFor (p := 0) (by omega) (by decide) (fun _ => by rw [hv.1, hv.2]; decide) (fun q => absurd q n1) (fun _ V3 hN => ?_)
    obtain ⟨l3, _, _, o3, _, _, m3, _⟩ := id hN
    have L3 : vL V3 1 = true := by rw [l3]; rfl
    have pg : PG (vL V3) 1 := ⟨L3, by decide, by decide⟩
    have L0 : vL V3 0 = true := by rw [l3]; show (if 0 = 1 then true else vL V 0) = true; rw [if_neg (by decide)]; exact hJ.1.1.1
    have T3 : Byt V3 0 0 0 := ⟨bs_tape L0, by rw [(o3 0 0 (by decide)).2.1]; exact hJ.tape.2.1, Nat.zero_le _, by rw [(o3 0 (0 + 1) (by decide)).1]; exact hJ.tape.2.2.2.1, by rw [(o3 0 (0 + 1) (by decide)).1]; exact hJ.tape.2.2.2.2⟩
    refine ⟨pg, ?_⟩
    rw [show vI V3 0 0 1 = nI 0 from T3.2.1]
    have m2 : vN V3 1 (1 + 1) = 256 := m3 2 (by decide)
    refine c_become2 (s := 0) (m := 0) (by omega) (bs_text pg) (by rw [m2]; decide) (by rw [m2]; decide) T3 (by decide) (by decide) (by decide) (fun V6 b6 _ => ?_)
    have T6 : Byt V6 0 0 0 := T3.fr b6.1 (fun z => by have := z.1; omega) (fun z => by have := z.1; omega)
    refine c_keep (m := 0) T6 (Nat.le_refl _) (fun V10 f10 b10 => ?_)
    have pg10 : PG (vL V10) 1 := by rw [f10.1, b6.1.1]; exact pg
    have t10 : Byt V10 1 1 0 := b6.2.1.fr f10 (fun z => by have := z.1; omega) (fun z => by have := z.1; omega)
    have nn : ∀ a f, ¬ (a = 0 ∧ f = 0) → ¬ bR 1 1 a f → vN V10 a f = vN V3 a f := fun a f c q => by rw [f10.n c, b6.1.n q]
    have k10 : TkN V10 64 := by
      have t := hJ.tokens
      refine ⟨?_, ?_, ?_, ?_, by decide, by decide⟩
      · rw [nn 0 3 (by decide) (fun z => by have := z.1; omega), (o3 0 3 (by decide)).1]; exact t.1
      · rw [nn 0 4 (by decide) (fun z => by have := z.1; omega), (o3 0 4 (by decide)).1]; exact t.2.1
      · rw [nn 0 5 (by decide) (fun z => by have := z.1; omega), (o3 0 5 (by decide)).1]; exact t.2.2.1
      · rw [nn 0 6 (by decide) (fun z => by have := z.1; omega), (o3 0 6 (by decide)).1]; exact t.2.2.2.1
    have nb : ∀ f, f ≠ 1 → f ≠ 2 → ¬ bR 1 1 1 f := fun f h1 h2 z => by have := z.2; omega
    have p1n : ∀ f, f < 32 → f ≠ 1 → f ≠ 2 → vN V10 1 f = PN.getD f 0 := fun f hf h1 h2 => by rw [nn 1 f (by omega) (nb f h1 h2)]; exact m3 f hf
    refine c_read_empty (by omega) pg10 t10 k10 (p1n 4 (by decide) (by decide) (by decide)) (p1n 24 (by decide) (by decide) (by decide)) (fun V14 cap' f14 k14 c14 d14 g14 => ?_)
    refine ⟨Or.inl rfl, fun V19 e19 V20 e20 => ?_⟩
    have i1 : vI V19 0 2 10 = 2 := by rw [e19, wrI_ne (fun z => by have := z.1; omega)]; exact c14
    rw [i1] at e20
    have live : vI V20 1 0 0 = 0 := by rw [e20, wrI_ne (fun z => by have := z.1; omega), e19]; exact wrI_at
    have i2 : vI V20 0 2 11 = 0 := by rw [e20, wrI_ne (fun z => by have := z.2.1; omega), e19, wrI_ne (fun z => by have := z.1; omega)]; exact d14
    refine ⟨fun _ => ?_, fun q => absurd live q⟩
    have n20 : vN V20 = vN V14 := by rw [e20, e19]; rfl
    have l20 : vL V20 = vL V14 := by rw [e20, e19]; rfl
    have q14 : ∀ a f, ¬ tkR2 a f → ¬ (a = 0 ∧ f = 0) → ¬ bR 1 1 a f → vN V20 a f = vN V3 a f := fun a f h1 h2 h3 => by rw [n20, f14.2 a f h1, nn a f h2 h3]
    have w1 : ∀ f, f < 32 → f ≠ 1 → f ≠ 2 → vN V20 1 f = PN.getD f 0 := fun f hf h1 h2 => by rw [q14 1 f (fun z => by have := z.1; omega) (by omega) (nb f h1 h2)]; exact m3 f hf
    have w0 : ∀ f, f ≠ 0 → f ≠ 2 → f ≠ 3 → f ≠ 4 → f ≠ 5 → f ≠ 6 → vN V20 0 f = vN V 0 f := fun f h0 h2 h3 h4 h5 h6 => by rw [q14 0 f (fun z => by have := z.2; omega) (by omega) (fun z => by have := z.1; omega), (o3 0 f (by decide)).1]
    have cap := fresh_cap hJ.1 hJ.2
    have z1 := cap 0 1 hJ.1.1.1 (by decide) (by decide)
    have z15 := cap 0 15 hJ.1.1.1 (by decide) (by decide)
    have z25 := cap 0 25 hJ.1.1.1 (by decide) (by decide)
    refine ⟨by rw [i2]; decide, by rw [l20, f14.1, f10.1, b6.1.1]; exact l3, ⟨?_, ?_, ?_, ?_, ?_, ?_, ?_⟩, ⟨?_, ?_, ?_, ?_, ?_, ?_⟩, fun f => ?_⟩
    · rw [w0 1 (by decide) (by decide) (by decide) (by decide) (by decide) (by decide)]; exact z1
    · rw [n20, k14.1]; exact k14.2.2.2.2.2
    · rw [n20, k14.2.1]; exact k14.2.2.2.2.2
    · rw [n20, k14.2.2.1]; exact k14.2.2.2.2.2
    · rw [n20, k14.2.2.2.1]; exact k14.2.2.2.2.2
    · rw [w0 15 (by decide) (by decide) (by decide) (by decide) (by decide) (by decide)]; exact z15
    · rw [w0 25 (by decide) (by decide) (by decide) (by decide) (by decide) (by decide)]; exact z25
    · rw [n20, f14.2 1 2 (fun z => by have := z.1; omega)]; exact t10.2.2.2.2
    · rw [w1 15 (by decide) (by decide) (by decide)]; decide
    · rw [w1 16 (by decide) (by decide) (by decide)]; decide
    · rw [w1 20 (by decide) (by decide) (by decide)]; decide
    · rw [w1 21 (by decide) (by decide) (by decide)]; decide
    · rw [w1 22 (by decide) (by decide) (by decide)]; decide
    · have e6 : vI V20 6 f = vI V14 6 f := by
        refine funext fun j => ?_
        rw [e20, wrI_ne (fun z => by have := z.1; omega), e19, wrI_ne (fun z => by have := z.1; omega)]
      rw [e6, g14 f, f10.i (fun z => by have := z.1; omega), b6.1.i (fun z => by have := z.1; omega), (o3 6 f (by decide)).2.1]
  · obtain ⟨rfl, hl, hc0, hc1, h6⟩ := q
    have cap : CapOK V1 := CapOK.of hW hc0 (fun g h1 h2 h3 => by
      rw [hl, hL] at h3
      by_cases c : g = 1
      · subst c; exact hc1
      · have h3 : (if g = 1 then true else decide (g = 0 ∨ g = 6)) = true := h3
        rw [if_neg c] at h3
        have := of_decide_eq_true h3
        omega)
    have m1 : vI V1 6 0 1 = 0 := by rw [h6]; exact hJ.m.1
    have u0 : vI V1 6 2 0 = 0 := by rw [h6, hJ.row6 (by decide) (by decide)]
    refine w_X12_problem_0 (by omega) (w_X12_freeSlot_0 (w_X12_freeSlot_2 ⟨fun q => absurd q (by decide), fun _ => ⟨by unfold vp_in; decide, fun _ => ⟨fun _ => ?_, fun q => absurd q (by decide)⟩, fun q => absurd u0 q⟩⟩))
    refine w_X12_problem_15 (by omega) ⟨fun _ => ⟨by unfold vp_in; decide, fun V2 e2 V3 e3 => ?_⟩, fun q => absurd (by rw [m1]; decide) q⟩
    have t3 : vI V3 6 4 0 = 0 := by rw [e3, wrI_ne (fun z => by have := z.2.1; omega), e2]; exact wrI_at.trans m1
    refine c_readProblem_empty (p := 0) (by omega) (by decide) t3 (fun V4 f4 w4 p4 V6 e6 => ?_)
    have f6 : Fc V1 V6 (fun a _ _ => a = 6) := by
      have g3 : Fc V1 V3 (fun a _ _ => a = 6) := by rw [e3, e2]; exact (Fc_wrI rfl).trans (Fc_wrI rfl)
      have g6 : Fc V4 V6 (fun a _ _ => a = 6) := by rw [e6]; exact Fc_wrI rfl
      exact (g3.trans f4).trans g6
    have p6 : vI V6 6 0 46 = 0 := by rw [e6, wrI_ne (fun z => by have := z.2.2; omega)]; exact p4
    exact ⟨fun q => absurd rfl q, fun _ => ⟨by rw [p6]; decide, p1_m (r0.1.up hX) cap f6⟩⟩
end
