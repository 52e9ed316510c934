/-! the claim's start out of the law's wp -/
def R_law : String := "PlanningHouseLaw"
def lw_P (b : Addr) (xs : List Int32) (args : Array Value) (s : State) : Prop := args = #[.ref b] ∧ s.IntsAt b xs ∧ xs.length ≤ 3072 ∧ (Jvm.Cond.and given_1 narrow_1).before args s = true
def lw_Q (_ : Array Value) (s : State) (o : Outcome) (t : State) : Prop := o = .returned (some (.int 1)) ∧ Framed s o t [] 600000 7302250
def lw_Z (below : List Frame) (a : Array Value) (s : State) : State → Prop := fun t => ∃ o, t.status = .running ∧ Ended t below o ∧ lw_Q a s o t
def lw_At (p : Program) (s : State) (m : MethodId) (meth : Method) (c : Code) (b L : Nat) (xs : Nat → Int32) : Prop :=
  p.tables.exec = Jvm.exec ∧ c.code = code ∧ meth.sig.returnType = ret ∧ c.maxLocals = 4 ∧ s.vm.findClass R_law = some m.cls ∧ (∀ w ∈ lw_tbl, w.before #[Value.ref b] s = true) ∧ va_X b L xs s s.heap ∧ b < s.heap.size ∧ meth.locks = false ∧ (Jvm.Cond.and given_1 narrow_1).before #[Value.ref b] s = true ∧ meth.name = "law"
/-- what is to be shown of the law, for scripts of at most N ints -/
def LawOk (N : Nat) : Prop := ∀ (E : EE) (G : AH), (eS E).2.1 ≤ N → (eS E).1 < eB E → eFr E → gT G = eB E → gU G = 0 → wp E 1300 M_L_law 0 [some (vs (eS E).1), none, none, none] [] G (fun r G' => r = some (vi 1) ∧ gT G' ≤ gT G + 600000 ∧ gU G' ≤ 7302250)
theorem start_of {N : Nat} (hlaw : LawOk N) {p : Program} {e : Env} {s : State} {m : MethodId} {below : List Frame} {meth : Method} {c : Code} (l : Launch) {b L : Nat} {xs : Nat → Int32} (hL : L ≤ N) (C0 : lw_At p s m meth c b L xs) : W p l e room_1 s m #[Value.ref b] below meth c s.heap [] 0 0 (lw_Z below #[Value.ref b] s) (entryFrame m ([Value.ref b] : List Value).toArray 4) := by
  obtain ⟨hx, hb, hr, hml, hown, hts, hX, hbl, hlocks, hgv, hnm⟩ := C0
  obtain ⟨E, hE, hB, hSc, hRO, hK, hFr⟩ := env_of l hts hX hbl hgv
  subst hE
  obtain ⟨G, gt, gu⟩ : ∃ G : AH, gT G = s.heap.size ∧ gU G = 0 := ⟨((s.heap.size, 0), fun _ => 0, fun _ => 0, fun _ _ => 0, fun _ _ => 0, fun _ _ => 0), rfl, rfl⟩
  obtain ⟨r, G', ⟨h1, h2, h3⟩, rfl, hT, hU⟩ := hlaw E G (by rw [hSc]; exact hL) (by rw [hSc, hB]; exact hbl) hFr (by rw [gt, hB]) gu
  have hl := lv_entry ([vs b].map cv) (n := 4) (Nat.le_of_ble_eq_true rfl)
  have eb : (eS E).1 = b := by rw [hSc]
  rw [lg_entry_eq]
  have q := h3 p e s m #[Value.ref b] below meth c s.heap.size 0 s.heap [] _ ⟨hx, hb, hml, hr, hlocks, hown, fun w hw => hts w (List.mem_filter.mp hw).1, hK, hRO, hnm⟩ (by omega) (Nat.zero_le _) ⟨gt.symm, fun a g1 g2 => absurd g2 (by rw [gt]; rw [hB] at g1; omega)⟩ va_S.rf ⟨hl.1, hl.2.1, fun i v hi => ?_⟩
  · rw [gt, gu, Nat.sub_self, Nat.sub_zero] at q
    refine W_room (R := rmm 1300 (gT G' - s.heap.size) (gU G' - 0)) q (by show 1300 ≤ 2048; decide) ?_ ?_ (by show 64 * 1300 ≤ 84000; decide) ?_
    · show gT G' - s.heap.size ≤ 600000
      omega
    · show gU G' - 0 ≤ 7302250
      omega
    · rintro t ⟨o, a1, a2, ⟨a3, -, -⟩, L', ⟨⟨v, b1⟩, b2, b3⟩, b4⟩
      refine ⟨o, a1, a2, a3, ⟨v, b1⟩, b2, ?_⟩
      refine State.sameButNew.weaken b3 (fun y hy hlt => ?_) ?_ ?_
      · have := b4 y hy
        unfold eA at this
        rw [hB] at this
        exact absurd hlt (Nat.not_lt.mpr this)
      · omega
      · omega
  · rw [eb] at hi
    have h4 := entL_args [vs b] 0 i v (lvp (n := 3) hi)
    rw [Nat.zero_add] at h4
    exact hl.2.2 (i, cv v) h4
