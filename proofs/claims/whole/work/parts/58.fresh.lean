/-! the view as class and reference are made -/
theorem okT0 (t : Nat) : okT t 0 := by
  unfold okT
  split
  · rfl
  · split
    · exact Or.inl rfl
    · exact trivial
theorem tyk_0 {c k : Nat} (h : c ≠ 13 ∧ c ≠ 16 ∧ c ≠ 3 ∧ c ≠ 9 ∧ c ≠ 6 ∧ c ≠ 12) : tyk c k = 0 := by
  unfold tyk
  rw [if_neg h.1, if_neg h.2.1, if_neg (fun q => by omega), if_neg (fun q => by omega)]
def FreshV (V : VH) (x : Nat) : Prop := vL V = (fun a => decide (a = 0 ∨ a = 6)) ∧ vP V = 7 ∧ vQ V = 7 ∧ vT V = x + 91 ∧ vU V = 1293303 ∧
  (vI V 0 0 1 = 0 ∧ vN V 0 1 = 256 ∧ vN V 0 3 = 64 ∧ vN V 0 4 = 64 ∧ vN V 0 5 = 64 ∧ vN V 0 6 = 64 ∧ vI V 0 28 9 = 0 ∧ vJ V 0 28 10 = 0 ∧ vJ V 0 28 11 = 1 ∧ vI V 0 16 0 = 0 ∧ vI V 0 23 1 = 0 ∧ vI V 0 23 4 = (-1) ∧ vI V 0 24 1 = 0 ∧ vN V 0 25 = 256 ∧ vN V 0 15 = 0) ∧
  (vI V 6 0 1 = 0 ∧ vJ V 6 0 2 = 0 ∧ vJ V 6 0 3 = 1 ∧ vI V 6 0 4 = 0 ∧ vI V 6 0 79 = 0 ∧ vI V 6 0 89 = 0 ∧ vI V 6 0 91 = 0 ∧ vI V 6 0 92 = (-1) ∧ vI V 6 0 62 = (-1) ∧ vI V 6 0 63 = 0 ∧ ∀ f, 0 < f → f < 62 → vI V 6 f = (fun _ => 0) ∧ vJ V 6 f = (fun _ => 0))
def freshA (x : Nat) : Nat → Nat → Nat := fun a b => if a = 0 then (if b < 28 then x + 1 + b else if b = 28 then x else 0) else if a = 6 then (if b < 62 then x + 29 + b else 0) else 0
theorem fA0 {x b : Nat} (h : b < 28) : freshA x 0 b = x + 1 + b := by unfold freshA; rw [if_pos rfl, if_pos h]
theorem fA28 {x : Nat} : freshA x 0 28 = x := by unfold freshA; rw [if_pos rfl, if_neg (by decide), if_pos rfl]
theorem fA6 {x b : Nat} (h : b < 62) : freshA x 6 b = x + 29 + b := by unfold freshA; rw [if_neg (by decide), if_pos rfl, if_pos h]
theorem fAn {x a b : Nat} (h0 : a ≠ 0) (h6 : a ≠ 6) : freshA x a b = 0 := by unfold freshA; rw [if_neg h0, if_neg h6]
set_option maxHeartbeats 4000000 in
theorem fresh_view {E : EE} {G : AH} {x m : Nat} (h0 : 0 < eB E) (h : Fresh E G x m) : ∃ (A : Nat → Nat → Nat) (V : VH), Rp E (nmz G) A V ∧ A 0 28 = x ∧ A 6 0 = m ∧ FreshV V x := by
  obtain ⟨hX, hM, hm, hb, hT, hU, i0, n1, i1, n3, n4, n5, n6, r9, rx8, ix9, jx10, jx11, i16, i23, i234, i24, n25, n15, i15, i25, r71, r72, m1, m2, m3, m4, m79, m89, m91, m92, m37, m93, m62, m63, hz⟩ := h
  subst hm
  obtain ⟨x1, x2, x3, x4, x5, x6, x7⟩ := id hX
  have kk : ∀ b, b < 28 → gK G (x + 1 + b) = K0.getD b 99 := fun b hb => by
    have q : ∀ b, b < 28 → (b, K0.getD b 99) ∈ xobj := by decide
    exact (x2 _ (q b hb)).2.2
  have aN : ∀ a c, gK G a = c → 13 ≤ c → gN (nmz G) a = gN G a := fun a c hk hc => if_neg (by rw [hk]; omega)
  have oN : ∀ a c, gK G a = c → c < 13 → gN (nmz G) a = 0 := fun a c hk hc => if_pos (by rw [hk]; exact hc)
  have row6 : ∀ o, o < 61 → ∃ t ∈ mtab, t.2.1 = o ∧ t.2.2.1 = K6.getD (o + 1) 99 := by decide +kernel
  have S : Sh E (nmz G) (freshA x) (fun a => decide (a = 0 ∨ a = 6)) (7, 7) := by
    have lv : ∀ a, decide (a = 0 ∨ a = 6) = true → a = 0 ∨ a = 6 := fun a q => of_decide_eq_true q
    refine ⟨⟨rfl, rfl, fun a ha => decide_eq_false (by omega)⟩, fun a b ha hb => ?_, fun a b a' b' ha hb ha' hb' q => ?_, fun a b q => ?_, fun a ha q hq => ?_, ⟨fun p hp => ?_, ?_, ?_, ?_⟩, fun a ha q hq => ?_, fun a b j ha hb => ?_, h0, ?_⟩
    · rcases lv a ha with rfl | rfl
      · have hb : b < 29 := hb
        by_cases c : b < 28
        · rw [fA0 c]
          have q : ∀ b, b < 28 → (b, K0.getD b 99) ∈ xobj := by decide
          exact x2 _ (q b c)
        · have : b = 28 := by omega
          subst this
          rw [fA28]; exact x1
      · have hb : b < 62 := hb
        rw [fA6 hb]
        by_cases c : b = 0
        · subst c; exact hM.1
        · obtain ⟨t, ht, e1, e2⟩ := row6 (b - 1) (by omega)
          have q := (hM.2 t ht).2.1
          rw [e1, e2, show x + 29 + 1 + (b - 1) = x + 29 + b from by omega, show b - 1 + 1 = b from by omega] at q
          exact q
    · rcases lv a ha with rfl | rfl <;> rcases lv a' ha' with rfl | rfl
      · have hb : b < 29 := hb
        have hb' : b' < 29 := hb'
        refine ⟨rfl, ?_⟩
        by_cases c : b < 28 <;> by_cases c' : b' < 28
        · rw [fA0 c, fA0 c'] at q; omega
        · have e : b' = 28 := by omega
          subst e; rw [fA0 c, fA28] at q; omega
        · have e : b = 28 := by omega
          subst e; rw [fA0 c', fA28] at q; omega
        · omega
      · have hb : b < 29 := hb
        have hb' : b' < 62 := hb'
        rw [fA6 hb'] at q
        by_cases c : b < 28
        · rw [fA0 c] at q; omega
        · have e : b = 28 := by omega
          subst e; rw [fA28] at q; omega
      · have hb : b < 62 := hb
        have hb' : b' < 29 := hb'
        rw [fA6 hb] at q
        by_cases c : b' < 28
        · rw [fA0 c] at q; omega
        · have e : b' = 28 := by omega
          subst e; rw [fA28] at q; omega
      · have hb : b < 62 := hb
        have hb' : b' < 62 := hb'
        rw [fA6 hb, fA6 hb'] at q
        exact ⟨rfl, by omega⟩
    · unfold freshA
      by_cases c : a = 0
      · have : ¬ b < 29 := fun w => q ⟨decide_eq_true (Or.inl c), by rw [c]; exact w⟩
        rw [if_pos c, if_neg (by omega), if_neg (by omega)]
      · rw [if_neg c]
        by_cases c6 : a = 6
        · have : ¬ b < 62 := fun w => q ⟨decide_eq_true (Or.inr c6), by rw [c6]; exact w⟩
          rw [if_pos c6, if_neg this]
        · rw [if_neg c6]
    · rcases lv a ha with rfl | rfl
      · have w : ∀ q ∈ LK0, (q ∈ xlnk ∧ q.1 < 28 ∧ q.2.2 < 28) ∨ (q.1 = 28 ∧ (q.2.1, q.2.2) ∈ xlk0 ∧ q.2.2 < 28) := by decide
        rcases w q hq with ⟨w1, w2, w3⟩ | ⟨w1, w2, w3⟩
        · rw [fA0 w2, fA0 w3]; exact x4 q w1
        · rw [w1, fA28, fA0 w3]; exact x3 _ w2
      · have w : ∀ q ∈ LK6, q.1 = 0 ∧ q.2.2 < 62 ∧ ∃ t ∈ mtab, t.1 = q.2.1 ∧ t.2.1 + 1 = q.2.2 := by decide +kernel
        obtain ⟨w1, w2, t, ht, e1, e2⟩ := w q hq
        have z := (hM.2 t ht).1
        rw [w1, fA6 (by decide), fA6 w2, ← e1, ← e2]
        show gR G (x + 29 + 0) t.1 = _
        rw [show x + 29 + 0 = x + 29 from rfl, z]
        omega
    · rw [fA0 (by decide), fAn (by omega) (by omega)]; show gR G (x + 1 + 9) p = 0; rw [r9]
    · rw [fA28, fAn (by decide) (by decide)]; exact rx8
    · rw [fA0 (by decide), fAn (by decide) (by decide)]; exact r71
    · rw [fA0 (by decide), fAn (by decide) (by decide)]; exact r72
    · rcases lv a ha with rfl | rfl
      · have w : ∀ q ∈ LN0, (q ∈ xlen ∧ 13 ≤ K0.getD q.1 99 ∧ q.1 < 28) ∨ (q.2 = 0 ∧ K0.getD q.1 99 < 13 ∧ q.1 < 28) ∨ q = (28, 0) := by decide
        rcases w q hq with ⟨w1, w2, w3⟩ | ⟨w1, w2, w3⟩ | rfl
        · rw [fA0 w3, aN _ _ (kk _ w3) w2]; exact x5 q w1
        · rw [fA0 w3, oN _ _ (kk _ w3) w2, w1]
        · rw [fA28]; exact oN _ _ x1.2.2 (by decide)
      · have w : ∀ q ∈ LN6, q = (0, 0) ∨ (q.1 < 62 ∧ ∃ t ∈ mtab, t.2.1 + 1 = q.1 ∧ t.2.2.2 = q.2 ∧ 13 ≤ t.2.2.1) := by decide +kernel
        rcases w q hq with rfl | ⟨w1, t, ht, e1, e2, e3⟩
        · rw [fA6 (by decide)]; exact oN _ _ hM.1.2.2 (by decide)
        · have z := hM.2 t ht
          rw [fA6 w1, ← e1, show x + 29 + (t.2.1 + 1) = x + 29 + 1 + t.2.1 from by omega, aN _ _ z.2.1.2.2 e3, z.2.2, e2]
    · rcases lv a ha with rfl | rfl
      · have hb : b < 29 := hb
        show okT (tyk (kd 0 b) j) (gI G (freshA x 0 b) j)
        by_cases c : b = 1 ∨ b = 15 ∨ b = 25
        · rcases c with rfl | rfl | rfl
          · rw [fA0 (by decide), i1]; exact okT0 _
          · rw [fA0 (by decide), i15]; exact okT0 _
          · rw [fA0 (by decide), i25]; exact okT0 _
        · by_cases c16 : b = 16
          · subst c16
            by_cases cj : j = 0
            · subst cj; rw [fA0 (by decide), i16]; exact okT0 _
            · have : tyk (kd 0 16) j = 0 := by
                show tyk 6 j = 0
                unfold tyk
                rw [if_neg (by decide), if_neg (by decide), if_neg (fun q => cj q.2), if_neg (fun w => by have := w.1; revert this; decide)]
              exact okT_0 this
          · have w : ∀ b, b < 29 → (b = 1 ∨ b = 15 ∨ b = 25 ∨ b = 16) ∨ (kd 0 b ≠ 13 ∧ kd 0 b ≠ 16 ∧ kd 0 b ≠ 3 ∧ kd 0 b ≠ 9 ∧ kd 0 b ≠ 6 ∧ kd 0 b ≠ 12) := by decide
            rcases w b hb with q | q
            · omega
            · exact okT_0 (tyk_0 q)
      · have hb : b < 62 := hb
        show okT (tyk (kd 6 b) j) (gI G (freshA x 6 b) j)
        rw [fA6 hb]
        by_cases c : b = 0
        · subst c
          by_cases cj : j = 37 ∨ j = 79 ∨ j = 93
          · rcases cj with rfl | rfl | rfl
            · rw [show gI G (x + 29 + 0) 37 = 0 from m37]; exact okT0 _
            · rw [show gI G (x + 29 + 0) 79 = 0 from m79]; exact okT0 _
            · rw [show gI G (x + 29 + 0) 93 = 0 from m93]; exact okT0 _
          · have : tyk (kd 6 0) j = 0 := by
              show tyk 12 j = 0
              unfold tyk
              rw [if_neg (by decide), if_neg (by decide), if_neg (fun q => by omega), if_neg (fun q => cj q.2)]
            exact okT_0 this
        · have z := (hz (b - 1) (by omega)).1
          rw [show x + 29 + 1 + (b - 1) = x + 29 + b from by omega] at z
          rw [z]; exact okT0 _
    · show eB E ≤ gT G; rw [hT]; omega
  have c0 : ∀ b, b < 28 → 13 ≤ K0.getD b 99 → gN (nmz G) (freshA x 0 b) = gN G (x + 1 + b) := fun b hb hk => by rw [fA0 hb]; exact aN _ _ (kk b hb) hk
  refine ⟨freshA x, _, ⟨_, _, rfl, S⟩, fA28, fA6 (by decide), rfl, rfl, rfl, hT, hU, ⟨?_, ?_, ?_, ?_, ?_, ?_, ?_, ?_, ?_, ?_, ?_, ?_, ?_, ?_, ?_⟩, ?_⟩
  · show gI G (freshA x 0 0) 1 = 0; rw [fA0 (by decide)]; exact i0
  · exact (c0 1 (by decide) (by decide)).trans n1
  · exact (c0 3 (by decide) (by decide)).trans n3
  · exact (c0 4 (by decide) (by decide)).trans n4
  · exact (c0 5 (by decide) (by decide)).trans n5
  · exact (c0 6 (by decide) (by decide)).trans n6
  · show gI G (freshA x 0 28) 9 = 0; rw [fA28]; exact ix9
  · show gJ G (freshA x 0 28) 10 = 0; rw [fA28]; exact jx10
  · show gJ G (freshA x 0 28) 11 = 1; rw [fA28]; exact jx11
  · show gI G (freshA x 0 16) 0 = 0; rw [fA0 (by decide)]; exact i16
  · show gI G (freshA x 0 23) 1 = 0; rw [fA0 (by decide)]; exact i23
  · show gI G (freshA x 0 23) 4 = -1; rw [fA0 (by decide)]; exact i234
  · show gI G (freshA x 0 24) 1 = 0; rw [fA0 (by decide)]; exact i24
  · exact (c0 25 (by decide) (by decide)).trans n25
  · exact (c0 15 (by decide) (by decide)).trans n15
  · have e6 : freshA x 6 0 = x + 29 := fA6 (by decide)
    refine ⟨?_, ?_, ?_, ?_, ?_, ?_, ?_, ?_, ?_, ?_, fun f h1 h2 => ?_⟩
    · show gI G (freshA x 6 0) 1 = 0; rw [e6]; exact m1
    · show gJ G (freshA x 6 0) 2 = 0; rw [e6]; exact m2
    · show gJ G (freshA x 6 0) 3 = 1; rw [e6]; exact m3
    · show gI G (freshA x 6 0) 4 = 0; rw [e6]; exact m4
    · show gI G (freshA x 6 0) 79 = 0; rw [e6]; exact m79
    · show gI G (freshA x 6 0) 89 = 0; rw [e6]; exact m89
    · show gI G (freshA x 6 0) 91 = 0; rw [e6]; exact m91
    · show gI G (freshA x 6 0) 92 = -1; rw [e6]; exact m92
    · show gI G (freshA x 6 0) 62 = -1; rw [e6]; exact m62
    · show gI G (freshA x 6 0) 63 = 0; rw [e6]; exact m63
    · have z := hz (f - 1) (by omega)
      rw [show x + 29 + 1 + (f - 1) = x + 29 + f from by omega] at z
      exact ⟨by show gI G (freshA x 6 f) = _; rw [fA6 h2]; exact z.1, by show gJ G (freshA x 6 f) = _; rw [fA6 h2]; exact z.2.1⟩
