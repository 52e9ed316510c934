/-! the law's loop: what is left is Ops -/
theorem law_cmp {L i : Nat} (hL : L ≤ 3072) (hi : i ≤ 4000) : (nI L - 6 < nI i) ↔ L < i + 6 := by
  rw [Int32.lt_iff_toInt_lt, Int32.toInt_sub, nI_toInt (by omega), nI_toInt (by omega), show (6 : Int32).toInt = 6 from by decide]
  have e : ((L : Int) - 6).bmod (2 ^ 32) = (L : Int) - 6 := by
    apply Int.bmod_eq_of_le <;> omega
  rw [e]
  omega
theorem nI_plus {i : Nat} (j : Nat) : nI i + nI j = nI (i + j) := nI_add i j
theorem law_loop {E : EE} {x m N : Nat} {I : Nat → AH → Prop} {Q : Option AV → AH → Prop} (hL : (eS E).2.1 ≤ N) (hN : N ≤ 3072)
    (hops : ∀ k, 6 * k < N → Ops E 1299 x m (I k) (I (k + 1))) (hmono : ∀ k G, I k G → I (k + 1) G) (hx : ∀ k G, I k G → isO E G x 11) (hend : ∀ k G, 6 * k ≤ N → I k G → Q (some (vi 1)) G) :
    ∀ n k G, (eS E).2.1 + 6 ≤ 6 * k + n → 6 * k ≤ (eS E).2.1 → I k G → wp E 1300 M_L_law 18 [some (vs (eS E).1), some (vr x), some (vr m), some (vi (nI (6 * k)))] [] G Q := by
  intro n
  induction n with
  | zero => intro k G h1 h2; omega
  | succ n ih =>
    intro k G h1 h2 hI
    have hl : (eS E).2.1 ≤ 3072 := Nat.le_trans hL hN
    by_cases hc : nI (eS E).2.1 - 6 < nI (6 * k)
    · exact v_L_law_18 ⟨fun _ => hend k G (Nat.le_trans h2 hL) hI, fun q => absurd hc q⟩
    · have h3 : 6 * k + 6 ≤ (eS E).2.1 := by
        have := mt (law_cmp hl (i := 6 * k) (by omega)).mpr hc
        omega
      have vk : ∀ j, j < 6 → vp_in (nI (6 * k + j)) (eS E).2.1 := fun j hj => vp_in_nI (by omega) (by omega)
      have e1 : nI (6 * k) + 1 = nI (6 * k + 1) := nI_plus 1
      have e2 : nI (6 * k) + 2 = nI (6 * k + 2) := nI_plus 2
      have e3 : nI (6 * k) + 3 = nI (6 * k + 3) := nI_plus 3
      have e4 : nI (6 * k) + 4 = nI (6 * k + 4) := nI_plus 4
      have e5 : nI (6 * k) + 5 = nI (6 * k + 5) := nI_plus 5
      have e6 : nI (6 * k) + 6 = nI (6 * (k + 1)) := nI_plus 6
      refine law_step (by decide) (hops k (by omega)) (hmono k G) (hx k G hI) hI hc (vk 0 (by omega)) (by rw [e1]; exact vk 1 (by omega)) (by rw [e2]; exact vk 2 (by omega)) (by rw [e3]; exact vk 3 (by omega)) (by rw [e4]; exact vk 4 (by omega)) (by rw [e5]; exact vk 5 (by omega)) (fun G2 hI2 => ?_)
      refine v_L_law_2374 ?_
      rw [e6]
      exact ih (k + 1) G2 (by omega) (by omega) hI2
/-- objects have no length: a heap's word on that is nobody's -/
def nmz (G : AH) : AH := (G.1, G.2.1, fun a => if gK G a < 13 then 0 else gN G a, G.2.2.2)
theorem Wd_nmz {E : EE} {G : AH} {H : Heap} (h : Wd E G H) : Wd E (nmz G) H := by
  refine ⟨h.1, fun a h1 h2 => ?_⟩
  have q := h.2 a h1 h2
  unfold cellOk at q ⊢
  by_cases c : gK G a < 13
  · rw [if_pos (show gK (nmz G) a < 13 from c)]
    rw [if_pos c] at q
    exact q
  · rw [if_neg (show ¬ gK (nmz G) a < 13 from c)]
    rw [if_neg c] at q
    have e : gN (nmz G) a = gN G a := if_neg c
    rw [e]
    exact q
theorem wp_nmz {E : EE} {d : Nat} {M : MD} {pc : Nat} {lv : List (Option AV)} {st : List AV} {G : AH} {Q : Option AV → AH → Prop} (h : wp E d M pc lv st (nmz G) Q) : wp E d M pc lv st G Q := by
  obtain ⟨r, G', ⟨h1, h2, h3⟩, hq⟩ := h
  exact ⟨r, G', ⟨h1, h2, fun p e s m args below meth c n0 w0 H locs ls C hn hw hW hS hl => h3 p e s m args below meth c n0 w0 H locs ls C hn hw (Wd_nmz hW) hS hl⟩, hq⟩
/-- THE WHOLE: an invariant that the constructors make, that every pair of calls keeps, and that has room -/
theorem lawok_of {N : Nat} (hN : N ≤ 3072) (H : ∀ (E : EE) (x m : Nat), (eS E).1 < eB E → eFr E → ∃ I : Nat → AH → Prop, (∀ G, Fresh E G x m → I 0 (nmz G)) ∧ (∀ k, 6 * k < N → Ops E 1299 x m (I k) (I (k + 1))) ∧ (∀ k G, I k G → I (k + 1) G) ∧ (∀ k G, I k G → isO E G x 11) ∧ ∀ k G, 6 * k ≤ N → I k G → gT G ≤ x + 600000 ∧ gU G ≤ 7302250) : LawOk N := by
  refine law_begin (fun E G x m hL hS hFr hF => ?_)
  obtain ⟨I, i1, i2, i3, i4, i5⟩ := H E x m hS hFr
  exact wp_nmz (law_loop hL hN i2 i3 i4 (fun k G hk hI => ⟨rfl, i5 k G hk hI⟩) ((eS E).2.1 + 6) 0 (nmz G) (by omega) (by omega) (i1 G hF))
