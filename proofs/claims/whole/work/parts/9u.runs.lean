/-! running: many, the stack, all steps -/
section
variable {nf nv nn : Nat} {nt : Nat → Int32} {x : Int32}
theorem Okc_7 : Okc nf nv nn nt (7, x) ↔ ∃ w n, x = nI w ∧ w + 1 + n ≤ nn ∧ nt w = nI n := by unfold Okc; dsimp only; rw [if_neg (by decide), if_neg (by decide), if_neg (by decide), if_neg (by decide), if_pos (by decide)]
theorem Okc_22 : Okc nf nv nn nt (22, x) ↔ ∃ w n, x = nI w ∧ Nok nv nn nt w n := by unfold Okc; dsimp only; rw [if_neg (by decide), if_neg (by decide), if_neg (by decide), if_neg (by decide), if_neg (by decide), if_neg (by decide), if_pos (by decide)]
theorem Okc_25 : Okc nf nv nn nt (25, x) ↔ ∃ w n, x = nI w ∧ Nok nv nn nt w n := by unfold Okc; dsimp only; rw [if_neg (by decide), if_neg (by decide), if_neg (by decide), if_neg (by decide), if_neg (by decide), if_neg (by decide), if_pos (by decide)]
theorem Okc_23 : Okc nf nv nn nt (23, x) ↔ ∃ w n m, x = nI w ∧ Nok nv nn nt w n ∧ Rok nn nt w n n m := by unfold Okc; dsimp only; rw [if_neg (by decide), if_neg (by decide), if_neg (by decide), if_neg (by decide), if_neg (by decide), if_neg (by decide), if_neg (by decide), if_pos (by decide)]
theorem Okc_24 : Okc nf nv nn nt (24, x) ↔ ∃ w n, x = nI w ∧ Nok nv nn nt w n ∧ Nok nv nn nt (w + 1 + n) n := by unfold Okc; dsimp only; rw [if_neg (by decide), if_neg (by decide), if_neg (by decide), if_neg (by decide), if_neg (by decide), if_neg (by decide), if_neg (by decide), if_neg (by decide), if_pos (by decide)]
theorem Okc_26 : Okc nf nv nn nt (26, x) ↔ ∃ w n m k, x = nI w ∧ Nok nv nn nt w n ∧ Rok nn nt w n 3 m ∧ (∀ r, r < m → 0 ≤ nt (w + 2 + n + r * 3 + 2)) ∧ k ≤ 10 ∧ w + 3 + n + 3 * m + k ≤ nn ∧ nt (w + 2 + n + 3 * m) = nI k := by unfold Okc; dsimp only; rw [if_neg (by decide), if_neg (by decide), if_neg (by decide), if_neg (by decide), if_neg (by decide), if_neg (by decide), if_neg (by decide), if_neg (by decide), if_neg (by decide), if_pos (by decide)]
theorem Okc_27 : Okc nf nv nn nt (27, x) ↔ ∃ w m, x = nI w ∧ m ≤ 40 ∧ w + 2 + 3 * m ≤ nn ∧ nt (w + 1) = nI m ∧ ∀ r, r < m → ∃ v, v < nv ∧ nt (w + 2 + 3 * r) = nI v := by unfold Okc; dsimp only; rw [if_neg (by decide), if_neg (by decide), if_neg (by decide), if_neg (by decide), if_neg (by decide), if_neg (by decide), if_neg (by decide), if_neg (by decide), if_neg (by decide), if_neg (by decide), if_pos (by decide)]
theorem Okc_28 : Okc nf nv nn nt (28, x) ↔ ∃ w m, x = nI w ∧ m ≤ 40 ∧ w + 1 + 4 * m ≤ nn ∧ nt w = nI m ∧ ∀ r, r < m → (∃ v, v < nv ∧ nt (w + 1 + 4 * r) = nI v) ∧ ∃ v, v < nv ∧ nt (w + 1 + 4 * r + 1) = nI v := by unfold Okc; dsimp only; rw [if_neg (by decide), if_neg (by decide), if_neg (by decide), if_neg (by decide), if_neg (by decide), if_neg (by decide), if_neg (by decide), if_neg (by decide), if_neg (by decide), if_neg (by decide), if_neg (by decide)]; exact ⟨fun h => h.2, fun h => ⟨rfl, h⟩⟩
theorem Okc_hi {o : Int32} (h : Okc nf nv nn nt (o, x)) (q : 22 ≤ o) : o = 22 ∨ o = 23 ∨ o = 24 ∨ o = 25 ∨ o = 26 ∨ o = 27 ∨ o = 28 := by
  unfold Okc at h
  have ne : ∀ c : Int32, ¬ 22 ≤ c → ¬ o = c := fun c hc z => hc (by rw [← z]; exact q)
  rw [if_neg (ne 0 (by decide)), if_neg (ne 1 (by decide)), if_neg (ne 2 (by decide)), if_neg (by
    rintro (z | z | z | z)
    · exact ne 3 (by decide) z
    · exact ne 4 (by decide) z
    · exact ne 5 (by decide) z
    · exact ne 6 (by decide) z), if_neg (ne 7 (by decide)), if_neg (Int32.not_lt.mpr q)] at h
  by_cases c1 : o = 22 ∨ o = 25
  · rcases c1 with c | c
    · exact Or.inl c
    · exact Or.inr (Or.inr (Or.inr (Or.inl c)))
  rw [if_neg c1] at h
  by_cases c2 : o = 23
  · exact Or.inr (Or.inl c2)
  rw [if_neg c2] at h
  by_cases c3 : o = 24
  · exact Or.inr (Or.inr (Or.inl c3))
  rw [if_neg c3] at h
  by_cases c4 : o = 26
  · exact Or.inr (Or.inr (Or.inr (Or.inr (Or.inl c4))))
  rw [if_neg c4] at h
  by_cases c5 : o = 27
  · exact Or.inr (Or.inr (Or.inr (Or.inr (Or.inr (Or.inl c5)))))
  rw [if_neg c5] at h
  exact Or.inr (Or.inr (Or.inr (Or.inr (Or.inr (Or.inr h.1)))))
theorem Okc_lo {o : Int32} (h : Okc nf nv nn nt (o, x)) (q : ¬ 2 < o) : o = 0 ∨ o = 1 ∨ o = 2 := by
  by_cases c0 : o = 0
  · exact Or.inl c0
  by_cases c1 : o = 1
  · exact Or.inr (Or.inl c1)
  by_cases c2 : o = 2
  · exact Or.inr (Or.inr c2)
  exfalso
  unfold Okc at h
  have ne : ∀ c : Int32, 2 < c → ¬ o = c := fun c hc z => q (by rw [z]; exact hc)
  have lt : o < 22 := Int32.lt_of_le_of_lt (Int32.not_lt.mp q) (by decide)
  rw [if_neg c0, if_neg c1, if_neg c2, if_neg (by
    rintro (z | z | z | z)
    · exact ne 3 (by decide) z
    · exact ne 4 (by decide) z
    · exact ne 5 (by decide) z
    · exact ne 6 (by decide) z), if_neg (ne 7 (by decide)), if_pos lt] at h
  exact q (Int32.lt_of_lt_of_le (by decide) h)
end
section
variable {E : EE} {d : Nat} {V : VH} {g nn nv nf : Nat} {nt : Nat → Int32} {K : Int32 → VH → Prop}
theorem ntn_eq {k n : Nat} (h : nt k = nI n) (hn : n < 2 ^ 31) : ntn nt k = n := by unfold ntn; rw [h, nI_clamp hn]
theorem ntv_ex {k v : Nat} {t : Nat → Int32} (h : nt k = nI v) (hv : v < nv) (h12 : nv ≤ 12) : v < 12 ∧ nt k = nI v ∧ t v = ntv nt (cut nv t) k := ⟨by omega, h, by unfold ntv; rw [ntn_eq h (by omega), cut_in hv]⟩
theorem c_ofMany {o x : Int32} (h0 : 1 < d) (h : EV V g nn nt) (hv : nv ≤ 12) (q : 22 ≤ o) (ok : Okc nf nv nn nt (o, x)) (K1 : K (spx nt (cut nv (vI V g 18)) o x.toNatClampNeg) V) : vMI E d M_X2_ofMany [sl g 9, wi o, wi x] V K := by
  have hl := h.lt
  refine w_X2_ofMany_0 h.1 (by omega) ⟨fun e => ?_, fun e => ?_, fun e => ?_, fun e => ?_, fun e => ?_, fun e => ?_, fun e2 e3 e4 e5 e6 e7 => ?_⟩
  · subst e
    obtain ⟨w, n, ew, ok1⟩ := Okc_22.mp ok
    subst ew
    have b1 := ok1.2.1
    have b0 := ok1.1
    have en := ntn_eq ok1.2.2.1 (by omega)
    unfold spx at K1
    rw [if_pos rfl, nI_clamp (show w < 2 ^ 31 by omega)] at K1
    rw [en] at K1
    exact c_repeated (by omega) h (ok1.nmd hv) K1
  · subst e
    obtain ⟨w, n, m, ew, ok1, ok2⟩ := Okc_23.mp ok
    subst ew
    have b1 := ok1.2.1
    have b0 := ok1.1
    have m0 := ok2.1
    have en := ntn_eq ok1.2.2.1 (by omega)
    have em := ntn_eq ok2.2.2 (by omega)
    unfold spx at K1
    rw [if_neg (by decide), if_pos rfl, nI_clamp (show w < 2 ^ 31 by omega)] at K1
    rw [en, em] at K1
    exact c_offRows (by omega) h (ok1.nmd hv) ⟨ok2.1, ok2.2.1, ok2.2.2, fun _ _ _ _ => rfl⟩ K1
  · subst e
    obtain ⟨w, n, ew, ok1, ok2⟩ := Okc_24.mp ok
    subst ew
    have b1 := ok1.2.1
    have b0 := ok1.1
    have en := ntn_eq ok1.2.2.1 (by omega)
    unfold spx at K1
    rw [if_neg (by decide), if_neg (by decide), if_pos rfl, nI_clamp (show w < 2 ^ 31 by omega)] at K1
    rw [en] at K1
    exact c_outOfOrder (by omega) h (ok1.nmd hv) (ok2.nmd hv) K1
  · subst e
    obtain ⟨w, n, ew, ok1⟩ := Okc_25.mp ok
    subst ew
    have b1 := ok1.2.1
    have b0 := ok1.1
    have en := ntn_eq ok1.2.2.1 (by omega)
    unfold spx at K1
    rw [if_neg (by decide), if_neg (by decide), if_neg (by decide), if_pos rfl, nI_clamp (show w < 2 ^ 31 by omega)] at K1
    rw [en] at K1
    exact c_offRound (by omega) h (ok1.nmd hv) K1
  · subst e
    obtain ⟨w, n, m, k, ew, ok1, ok2, hG, hk0, hk1, hk2⟩ := Okc_26.mp ok
    subst ew
    have b1 := ok1.2.1
    have b0 := ok1.1
    have m0 := ok2.1
    have en := ntn_eq ok1.2.2.1 (by omega)
    have em := ntn_eq ok2.2.2 (by omega)
    have ek := ntn_eq hk2 (by omega)
    unfold spx at K1
    rw [if_neg (by decide), if_neg (by decide), if_neg (by decide), if_neg (by decide), if_pos rfl, nI_clamp (show w < 2 ^ 31 by omega)] at K1
    rw [en, em, ek] at K1
    exact c_astray (by omega) h (ok1.nmd hv) ⟨ok2.1, ok2.2.1, ok2.2.2, fun _ _ _ _ => rfl⟩ hG hk0 hk1 hk2 (fun _ _ => rfl) K1
  · subst e
    obtain ⟨w, m, ew, m0, b1, em0, hr⟩ := Okc_27.mp ok
    subst ew
    have em := ntn_eq em0 (by omega)
    unfold spx at K1
    rw [if_neg (by decide), if_neg (by decide), if_neg (by decide), if_neg (by decide), if_neg (by decide), if_pos rfl, nI_clamp (show w < 2 ^ 31 by omega)] at K1
    rw [em] at K1
    refine c_overload (by omega) h m0 b1 rfl em0 (fun r hr1 => ?_) K1
    obtain ⟨v, lv, ev⟩ := hr r hr1
    exact ⟨⟨v, ntv_ex ev lv hv⟩, rfl, rfl⟩
  · have e8 : o = 28 := by
      rcases Okc_hi ok q with z | z | z | z | z | z | z
      · exact absurd z e2
      · exact absurd z e3
      · exact absurd z e4
      · exact absurd z e5
      · exact absurd z e6
      · exact absurd z e7
      · exact z
    subst e8
    obtain ⟨w, m, ew, m0, b1, em0, hr⟩ := Okc_28.mp ok
    subst ew
    have em := ntn_eq em0 (by omega)
    unfold spx at K1
    rw [if_neg (by decide), if_neg (by decide), if_neg (by decide), if_neg (by decide), if_neg (by decide), if_neg (by decide), nI_clamp (show w < 2 ^ 31 by omega)] at K1
    rw [em] at K1
    refine c_overlaps (by omega) h m0 b1 em0 (fun r hr1 => ?_) K1
    obtain ⟨⟨v, lv, ev⟩, u, lu, eu⟩ := hr r hr1
    exact ⟨⟨v, ntv_ex ev lv hv⟩, ⟨u, ntv_ex eu lu hv⟩, rfl, rfl⟩
end
/-- the stack -/
def Stk (V : VH) (g : Nat) : List Int32 → Prop
  | [] => True
  | x :: st => vI V g 17 st.length = x ∧ Stk V g st
def SK (V : VH) (g : Nat) (st : List Int32) : Prop := vI V g 9 13 = nI st.length ∧ st.length ≤ 128 ∧ Stk V g st
theorem Stk.ex {V V' : VH} {g : Nat} {st : List Int32} (h : Stk V g st) (k : ∀ i, i < st.length → vI V' g 17 i = vI V g 17 i) : Stk V' g st := by
  induction st with
  | nil => trivial
  | cons x st ih => exact ⟨(k st.length (Nat.lt_succ_self _)).trans h.1, ih h.2 (fun i hi => k i (Nat.lt_succ_of_lt hi))⟩
theorem EV.fc {V V' : VH} {g nn : Nat} {nt : Nat → Int32} (h : EV V g nn nt) (f : Fc V V' (skS g)) : EV V' g nn nt := ⟨by rw [f.l]; exact h.1, (f.i (fun z => by have := z.2; omega)).trans h.2.1, by rw [f.n]; exact h.2.2.1, by rw [f.n]; exact h.2.2.2.1, fun k hk => (f.i (fun z => by have := z.2; omega)).trans (h.2.2.2.2 k hk)⟩
section
variable {E : EE} {d : Nat} {V : VH} {g nn nv nf : Nat} {nt : Nat → Int32}
theorem c_push {x : Int32} {st : List Int32} {K : VH → Prop} (hg : PG (vL V) g) (h : SK V g st) (hk : ∀ V', Fc V V' (skS g) → SK V' g (psh x st) → K V') : vMV E d M_X2_push [sl g 9, wi x] V K := by
  obtain ⟨e, hl, hs⟩ := h
  refine w_X2_push_0 hg ⟨fun q => ?_, fun q => ?_⟩
  · rw [e] at q
    have : 128 ≤ st.length := (nI_leI (a := 128) (by decide) (by omega)).mp q
    refine hk V Fc.refl ?_
    unfold psh
    rw [if_pos this]
    exact ⟨e, hl, hs⟩
  · rw [e] at q ⊢
    have hlt : ¬ 128 ≤ st.length := fun z => q (nI_le (a := 128) z (by omega))
    intro V1 e1
    refine ⟨vp_in_nI (by omega) (by decide), fun V3 e3 => ?_⟩
    rw [nI_clamp (show st.length < 2 ^ 31 by omega)] at e3
    rw [nI_1] at e1
    refine hk V3 ?_ ?_
    · rw [e3, e1]
      exact (Fc_wrI ⟨rfl, Or.inl ⟨rfl, rfl⟩⟩).trans (Fc_wrI ⟨rfl, Or.inr rfl⟩)
    · unfold psh
      rw [if_neg hlt]
      refine ⟨?_, by show st.length + 1 ≤ 128; omega, ?_, ?_⟩
      · rw [e3, wrI_ne (fun z => by omega), e1, wrI_at]; rfl
      · rw [e3, wrI_at]
      · refine hs.ex (fun i hi => ?_)
        rw [e3, wrI_ne (fun z => by omega), e1, wrI_ne (fun z => by omega)]
theorem c_pop {st : List Int32} {K : Int32 → VH → Prop} (hg : PG (vL V) g) (h : SK V g st) (hk : ∀ V', Fc V V' (skS g) → SK V' g st.tail → K (hdz st) V') : vMI E d M_X2_pop [sl g 9] V K := by
  obtain ⟨e, hl, hs⟩ := h
  cases st with
  | nil => exact w_X2_pop_0 hg ⟨fun _ => hk V Fc.refl ⟨e, hl, hs⟩, fun q => absurd (by rw [e]; decide) q⟩
  | cons x st =>
    have hl' : st.length + 1 ≤ 128 := hl
    have el : vI V g 9 13 = nI (st.length + 1) := e
    refine w_X2_pop_0 hg ⟨fun q => absurd q (by rw [el]; exact nI_ge (b := st.length + 1) (a := 0) (by omega) (by omega)), fun _ => ⟨fun q => absurd q (by rw [el]; exact nI_nlt (a := 128) hl' (by decide)), fun _ V1 e1 => ?_⟩⟩
    rw [el] at e1 ⊢
    have em : nI (st.length + 1) - 1 = nI st.length := nI_sub (b := 1) (by omega)
    rw [em] at e1 ⊢
    rw [nI_clamp (show st.length < 2 ^ 31 by omega)]
    refine ⟨vp_in_nI (by omega) (by decide), ?_⟩
    have k := hk V1 (by rw [e1]; exact Fc_wrI ⟨rfl, Or.inl ⟨rfl, rfl⟩⟩) ⟨by rw [e1, wrI_at]; rfl, by show st.length ≤ 128; omega, hs.2.ex (fun i _ => by rw [e1, wrI_ne (fun z => by omega)])⟩
    have ex : vI V1 g 17 st.length = x := by rw [e1, wrI_ne (fun z => by omega)]; exact hs.1
    rw [ex]
    exact k
end
