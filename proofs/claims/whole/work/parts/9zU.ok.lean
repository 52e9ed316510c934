/-! names that are added change nothing of what is read; every step that is read may stand -/
def Mo {α β : Type} (r r' : α ⊕ β) : Prop := ∀ q, r = Sum.inr q → r' = Sum.inr q
theorem Mo.refl {α β : Type} {r : α ⊕ β} : Mo r r := fun _ h => h
theorem Mo.ite {α β : Type} {c : Prop} [Decidable c] {a b a' b' : α ⊕ β} (h1 : Mo a a') (h2 : Mo b b') : Mo (if c then a else b) (if c then a' else b') := by
  by_cases z : c
  · rw [if_pos z, if_pos z]; exact h1
  · rw [if_neg z, if_neg z]; exact h2
theorem Mo.rb {r r' : RS} {f f' : Nat → CD → List Int32 → RS} (h1 : Mo r r') (h2 : ∀ a b c, Mo (f a b c) (f' a b c)) : Mo (rsB r f) (rsB r' f') := fun q h => by
  obtain ⟨a, b, c, e1, e2⟩ := rsB_inr h
  rw [h1 _ e1]; exact h2 a b c q e2
theorem Mo.nb {α β : Type} {r r' : NR α} {f f' : Nat → α → (Nat × Nat) ⊕ β} (h1 : Mo r r') (h2 : ∀ a b, Mo (f a b) (f' a b)) : Mo (nrB r f) (nrB r' f') := fun q h => by
  obtain ⟨a, b, e1, e2⟩ := nrB_inr h
  rw [h1 _ e1]; exact h2 a b q e2
def MLe (M M' : MN) : Prop := ∀ k q, M k = some q → M' k = some q
section
variable {T : Nat → TK} {M M' : MN}
theorem vrb_mo (h : MLe M M') {i : Nat} : Mo (vrb T M i) (vrb T M' i) := by
  unfold vrb
  refine Mo.ite ?_ Mo.refl
  intro q
  cases e : M (T i).2.1 with
  | none => intro z; exact nomatch z
  | some y => intro z; rw [h _ _ e]; exact z
theorem nms_mo (h : MLe M M') {least : Nat} : ∀ (m n i : Nat), Mo (nms T M least m n i) (nms T M' least m n i) := by
  intro m
  induction m with
  | zero => intro n i; exact Mo.refl
  | succ m ih =>
    intro n i
    rw [nms, nms]
    exact Mo.nb (vrb_mo h) (fun i1 v => Mo.ite Mo.refl (Mo.ite (Mo.nb (ih _ _) (fun _ _ => Mo.refl)) Mo.refl))
theorem ent_mo (h : MLe M M') {s i : Nat} : Mo (ent T M s i) (ent T M' s i) := by
  unfold ent
  exact Mo.ite (Mo.nb (vrb_mo h) (fun _ _ => Mo.refl)) Mo.refl
theorem grp_mo (h : MLe M M') {sh : Nat → Nat} : ∀ (m j i : Nat), Mo (grp T M sh m j i) (grp T M' sh m j i) := by
  intro m
  induction m with
  | zero => intro j i; exact Mo.refl
  | succ m ih =>
    intro j i
    rw [grp, grp]
    exact Mo.ite (Mo.nb (ent_mo h) (fun i1 x => Mo.nb (ih _ _) (fun _ _ => Mo.refl))) Mo.refl
theorem grs_mo (h : MLe M M') {sh : Nat → Nat} {wide : Nat} : ∀ (m i : Nat), Mo (grs T M sh wide m i) (grs T M' sh wide m i) := by
  intro m
  induction m with
  | zero => intro i; exact Mo.refl
  | succ m ih =>
    intro i
    rw [grs, grs]
    exact Mo.nb (grp_mo h _ _ _) (fun i1 xs => Mo.ite (Mo.ite Mo.refl (Mo.nb (ih _) (fun _ _ => Mo.refl))) Mo.refl)
theorem lst_mo (h : MLe M M') {w i : Nat} : Mo (lst T M w i) (lst T M' w i) := by
  unfold lst
  exact Mo.ite (Mo.nb (grs_mo h _ _) (fun _ _ => Mo.refl)) (Mo.ite (Mo.nb Mo.refl (fun i1 x => Mo.ite (Mo.nb (grs_mo h _ _) (fun _ _ => Mo.refl)) Mo.refl)) (Mo.nb (nms_mo h _ _ _) (fun i1 vs => Mo.ite Mo.refl (Mo.ite (Mo.ite (Mo.nb (nms_mo h _ _ _) (fun _ _ => Mo.refl)) (Mo.ite (Mo.nb (grs_mo h _ _) (fun _ _ => Mo.refl)) (Mo.nb (grs_mo h _ _) (fun i2 q => Mo.refl)))) Mo.refl))))
theorem spc_mo (h : MLe M M') {nb i : Nat} : Mo (spc T M nb i) (spc T M' nb i) := by
  unfold spc
  exact Mo.ite (Mo.nb (lst_mo h) (fun _ _ => Mo.refl)) Mo.refl
theorem prq_mo (h : MLe M M') {r r' : Nat → Nat → Nat → Nat → Nat → RS} (hr : ∀ a b c e g, Mo (r a b c e g) (r' a b c e g)) {tag x o i nb : Nat} : Mo (prq T M r tag x o i nb) (prq T M' r' tag x o i nb) := by
  unfold prq
  refine Mo.ite ?_ (Mo.ite ?_ (Mo.ite ?_ (Mo.ite ?_ ?_)))
  · exact Mo.rb (hr _ _ _ _ _) (fun i1 C1 N1 => Mo.ite (Mo.ite Mo.refl (Mo.rb (hr _ _ _ _ _) (fun _ _ _ => Mo.refl))) Mo.refl)
  · refine Mo.ite (Mo.ite Mo.refl (Mo.rb (hr _ _ _ _ _) (fun _ _ _ => Mo.refl))) (Mo.ite (Mo.ite Mo.refl (Mo.rb (hr _ _ _ _ _) (fun _ _ _ => Mo.refl))) (Mo.ite (spc_mo h) (Mo.rb (hr _ _ _ _ _) (fun i1 C1 N1 => ?_))))
    cases rlo (T i1).1 with
    | none => exact Mo.refl
    | some op => exact Mo.rb (hr _ _ _ _ _) (fun _ _ _ => Mo.refl)
  · refine Mo.ite ?_ (Mo.ite Mo.refl (Mo.ite (Mo.ite Mo.refl (Mo.rb (hr _ _ _ _ _) (fun _ _ _ => Mo.refl))) (Mo.ite (Mo.ite Mo.refl (Mo.rb (hr _ _ _ _ _) (fun _ _ _ => Mo.refl))) (Mo.ite (Mo.ite Mo.refl (Mo.rb (hr _ _ _ _ _) (fun _ _ _ => Mo.refl))) (Mo.ite (Mo.ite (Mo.ite Mo.refl (Mo.rb (hr _ _ _ _ _) (fun i1 C1 N1 => Mo.ite Mo.refl (Mo.ite Mo.refl (Mo.rb (hr _ _ _ _ _) (fun _ _ _ => Mo.refl)))))) Mo.refl) Mo.refl)))))
    intro q
    cases e : M (T i).2.1 with
    | none => intro z; exact nomatch z
    | some y => intro z; rw [h _ _ e]; exact z
  · exact Mo.rb (hr _ _ _ _ _) (fun i1 C1 N1 => Mo.rb (hr _ _ _ _ _) (fun _ _ _ => Mo.refl))
  · cases lpo tag (T i).1 with
    | none => exact Mo.refl
    | some op => exact Mo.ite (Mo.rb (hr _ _ _ _ _) (fun i1 C1 N1 => Mo.rb (hr _ _ _ _ _) (fun _ _ _ => Mo.refl))) Mo.refl
theorem prz_mo (h : MLe M M') : ∀ (f tag x o i nb : Nat), Mo (prz T M f tag x o i nb) (prz T M' f tag x o i nb) := by
  intro f
  induction f with
  | zero => intro tag x o i nb; exact Mo.refl
  | succ f ih => intro tag x o i nb; exact prq_mo h ih
end
/-- all steps may stand -/
def OkL (nf nv nn : Nat) (nt : Nat → Int32) (C : CD) : Prop := ∀ e, e ∈ C → Okc nf nv nn nt e
section
variable {nf nv nn : Nat} {nt : Nat → Int32}
theorem OkL.app {A B : CD} (h : OkL nf nv nn nt A) (k : OkL nf nv nn nt B) : OkL nf nv nn nt (A ++ B) := fun e he => (List.mem_append.mp he).elim (h e) (k e)
theorem OkL.one {e : Int32 × Int32} (h : Okc nf nv nn nt e) : OkL nf nv nn nt [e] := fun e' he => by
  rcases List.mem_cons.mp he with z | z
  · rw [z]; exact h
  · exact absurd z (List.not_mem_nil)
theorem OkL.cons {e : Int32 × Int32} {B : CD} (h : Okc nf nv nn nt e) (k : OkL nf nv nn nt B) : OkL nf nv nn nt (e :: B) := fun e' he => by
  rcases List.mem_cons.mp he with z | z
  · rw [z]; exact h
  · exact k e' z
theorem OkL.nil : OkL nf nv nn nt [] := fun e' he => absurd he (List.not_mem_nil)
theorem Okc_mid {o x : Int32} (h : 8 ≤ o) (h2 : o < 22) : Okc nf nv nn nt (o, x) := by
  unfold Okc; dsimp only
  have ne : ∀ c : Int32, ¬ 8 ≤ c → o ≠ c := fun c hc z => hc (z ▸ h)
  rw [if_neg (ne 0 (by decide)), if_neg (ne 1 (by decide)), if_neg (ne 2 (by decide)), if_neg (fun z => by rcases z with z | z | z | z; exact ne 3 (by decide) z; exact ne 4 (by decide) z; exact ne 5 (by decide) z; exact ne 6 (by decide) z), if_neg (ne 7 (by decide)), if_pos h2]
  exact Int32.le_trans (by decide) h
theorem Okc_one {o x : Int32} (h : o = 3 ∨ o = 4 ∨ o = 5 ∨ o = 6) : Okc nf nv nn nt (o, x) := by
  unfold Okc; dsimp only
  rw [if_neg (fun z => by rw [z] at h; exact absurd h (by decide)), if_neg (fun z => by rw [z] at h; exact absurd h (by decide)), if_neg (fun z => by rw [z] at h; exact absurd h (by decide)), if_pos h]
  exact True.intro
theorem Okc_0 {x : Int32} : Okc nf nv nn nt (0, x) := by unfold Okc; dsimp only; rw [if_pos rfl]; exact True.intro
theorem Okc_1 {k : Nat} (h : k < nf) : Okc nf nv nn nt (1, nI k) := by unfold Okc; dsimp only; rw [if_neg (by decide), if_pos rfl]; exact ⟨k, h, rfl⟩
theorem Okc_2 {k : Nat} (h : k < nv) : Okc nf nv nn nt (2, nI k) := by unfold Okc; dsimp only; rw [if_neg (by decide), if_neg (by decide), if_pos rfl]; exact ⟨k, h, rfl⟩
theorem nvs_nok {se : Nat → Int32} {nb : Nat} {vs : List Nat} (h : Ntd nt nb (nvs vs)) (hl : vs.length ≤ 12) (hv : ∀ j, j < vs.length → vs.getD j 0 < nv) (h12 : nv ≤ 12) (hn : nb + 1 + vs.length ≤ nn) : Nok nv nn nt nb vs.length := by
  obtain ⟨a, _, b⟩ := nvs_ok (se := se) h hl hv h12
  exact ⟨hl, hn, a, fun j hj => ⟨vs.getD j 0, hv j hj, (b j hj).1⟩⟩
end
theorem ncE {c p : Nat} {q : Nat × CD × List Int32} (h : rsE c p = .inr q) : False := nomatch (show (Sum.inl (c, p) : RS) = Sum.inr q from h)
theorem ncI {e : Nat × Nat} {α : Type} {q : α} (h : (Sum.inl e : (Nat × Nat) ⊕ α) = .inr q) : False := nomatch h
/-- what a name may mean -/
theorem EG.of {T : Nat → TK} {M : MN} {nf nv : Nat} {fa se fa' se' : Nat → Int32} (h : EG T M nf nv fa se) (h1 : Bds nf fa') (h2 : Bds nv se') : EG T M nf nv fa' se' := ⟨h.1, h.2.1, h.2.2.1, h.2.2.2.1, h1, h2⟩
section
variable {T : Nat → TK} {M : MN} {nf nv nn : Nat} {fa se nt : Nat → Int32}
theorem lst_lex {i nb j1 : Nat} {N : List Int32} (hg : EG T M nf nv fa se) (e : lst T M 308 i = .inr (j1, N)) (hN : Ntd nt nb N) : ∃ vs us : List Nat, N = nvs vs ++ nvs us ∧ us.length = vs.length ∧ vs.length ≤ 12 ∧ (∀ j, j < vs.length → vs.getD j 0 < nv) ∧ ∀ j, j < us.length → us.getD j 0 < nv := by
  unfold lst at e
  rw [if_neg (by decide), if_neg (by decide)] at e
  obtain ⟨k1, vs, p1, e⟩ := nrB_inr e
  rw [if_neg (by decide)] at e
  by_cases c : (T k1).1 = 58
  · rw [if_pos c, if_pos rfl] at e
    obtain ⟨k2, us, p2, e⟩ := nrB_inr e
    have e := Sum.inr.inj e
    obtain ⟨b1, b2, b3⟩ := nms_b hg.2.1 _ _ _ _ _ p1
    obtain ⟨d1, d2, d3⟩ := nms_b hg.2.1 _ _ _ _ _ p2
    exact ⟨vs, us, (congrArg Prod.snd e).symm, by omega, b1, b3, d3⟩
  · rw [if_neg c] at e; exact (ncI e).elim
theorem okc_22 {i nb j1 : Nat} {N' : List Int32} (hg : EG T M nf nv fa se) (p1 : lst T M 306 i = .inr (j1, N')) (hN : Ntd nt nb N') (hl : nb + N'.length ≤ nn) : Okc nf nv nn nt (22, nI nb) := by
  have h12 := hg.2.2.2.1
  obtain ⟨vs, q1, q2⟩ := lst_n (Or.inl rfl) p1
  subst q2
  obtain ⟨b1, b2, b3⟩ := nms_b hg.2.1 _ _ _ _ _ q1
  rw [nvs_len] at hl
  exact Okc_22.mpr ⟨nb, vs.length, rfl, nvs_nok (se := se) hN b1 b3 h12 (by omega)⟩
theorem okc_23 {i nb j1 : Nat} {N' : List Int32} (hg : EG T M nf nv fa se) (p1 : lst T M 307 i = .inr (j1, N')) (hN : Ntd nt nb N') (hl : nb + N'.length ≤ nn) : Okc nf nv nn nt (23, nI nb) := by
  have h12 := hg.2.2.2.1
  obtain ⟨vs, k1, q, q1, q2, q3, q4, q5, q6, q7, q8, q9, q10, q11⟩ := lst_rows hg p1 hN
  rw [q4] at hl
  exact Okc_23.mpr ⟨nb, vs.length, q.1, rfl, nvs_nok (se := se) q5 q9 q11 h12 (by omega), q8, by rw [Nat.mul_comm q.1]; omega, q6⟩
theorem okc_24 {i nb j1 : Nat} {N' : List Int32} (hg : EG T M nf nv fa se) (p1 : lst T M 308 i = .inr (j1, N')) (hN : Ntd nt nb N') (hl : nb + N'.length ≤ nn) : Okc nf nv nn nt (24, nI nb) := by
  have h12 := hg.2.2.2.1
  obtain ⟨vs, us, q1, q2, q3, q4, q5⟩ := lst_lex hg p1 hN
  rw [q1] at hN hl
  rw [List.length_append, nvs_len, nvs_len] at hl
  have a2 := hN.app.2
  rw [nvs_len] at a2
  have u := nvs_nok (nn := nn) (se := se) a2 (by omega) q5 h12 (by omega)
  rw [q2] at u
  exact Okc_24.mpr ⟨nb, vs.length, rfl, nvs_nok (se := se) hN.app.1 q3 q4 h12 (by omega), by rw [show nb + 1 + vs.length = nb + (vs.length + 1) by omega]; exact u⟩
theorem okc_25 {i nb j1 : Nat} {N' : List Int32} (hg : EG T M nf nv fa se) (p1 : lst T M 309 i = .inr (j1, N')) (hN : Ntd nt nb N') (hl : nb + N'.length ≤ nn) : Okc nf nv nn nt (25, nI nb) := by
  have h12 := hg.2.2.2.1
  obtain ⟨vs, q1, q2⟩ := lst_n (Or.inr rfl) p1
  subst q2
  obtain ⟨b1, b2, b3⟩ := nms_b hg.2.1 _ _ _ _ _ q1
  rw [nvs_len] at hl
  exact Okc_25.mpr ⟨nb, vs.length, rfl, nvs_nok (se := se) hN b1 b3 h12 (by omega)⟩
theorem okc_26 {i nb j1 : Nat} {N' : List Int32} (hg : EG T M nf nv fa se) (p1 : lst T M 310 i = .inr (j1, N')) (hN : Ntd nt nb N') (hl : nb + N'.length ≤ nn) : Okc nf nv nn nt (26, nI nb) := by
  have h12 := hg.2.2.2.1
  obtain ⟨vs, k1, q, k2, ss, q1, q2, q3, q4, q5, q6, q7, q8, q9, q10, q11, q12, q13, q14, q15, q16, q17⟩ := lst_auto hg p1 hN
  rw [q6] at hl
  exact Okc_26.mpr ⟨nb, vs.length, q.1, ss.length, rfl, nvs_nok (se := se) q7 q14 q16 h12 (by omega), ⟨q12, by omega, q8⟩, q17, q13, by omega, q10⟩
theorem okc_27 {i nb j1 : Nat} {N' : List Int32} (hg : EG T M nf nv fa se) (p1 : lst T M 311 i = .inr (j1, N')) (hN : Ntd nt nb N') (hl : nb + N'.length ≤ nn) : Okc nf nv nn nt (27, nI nb) := by
  have h12 := hg.2.2.2.1
  obtain ⟨q1, q2, q3, q, q4, q5, q6, q7, q8, q9⟩ := lst_busy hg p1 hN
  rw [q5] at hl
  exact Okc_27.mpr ⟨nb, q.1, rfl, q8, by omega, q6, fun r hr => (q9 r hr).1⟩
theorem okc_28 {i nb j1 : Nat} {N' : List Int32} (hg : EG T M nf nv fa se) (p1 : lst T M 312 i = .inr (j1, N')) (hN : Ntd nt nb N') (hl : nb + N'.length ≤ nn) : Okc nf nv nn nt (28, nI nb) := by
  have h12 := hg.2.2.2.1
  obtain ⟨q, q1, q2, q3, q4, q5, q6⟩ := lst_apart hg p1 hN
  rw [q2] at hl
  exact Okc_28.mpr ⟨nb, q.1, rfl, q5, by omega, q3, q6⟩
theorem okc_w {i nb j1 w : Nat} {o : Int32} {N' : List Int32} (hg : EG T M nf nv fa se) (hc : 306 ≤ w ∧ w ≤ 312) (ho : nI (w - 284) = o) (p1 : lst T M w i = .inr (j1, N')) (hN : Ntd nt nb N') (hl : nb + N'.length ≤ nn) : Okc nf nv nn nt (o, nI nb) := by
  have cw : w = 306 ∨ w = 307 ∨ w = 308 ∨ w = 309 ∨ w = 310 ∨ w = 311 ∨ w = 312 := by omega
  rcases cw with z | z | z | z | z | z | z
  · subst z
    have e : (22 : Int32) = o := ho
    subst e
    exact okc_22 hg p1 hN hl
  · subst z
    have e : (23 : Int32) = o := ho
    subst e
    exact okc_23 hg p1 hN hl
  · subst z
    have e : (24 : Int32) = o := ho
    subst e
    exact okc_24 hg p1 hN hl
  · subst z
    have e : (25 : Int32) = o := ho
    subst e
    exact okc_25 hg p1 hN hl
  · subst z
    have e : (26 : Int32) = o := ho
    subst e
    exact okc_26 hg p1 hN hl
  · subst z
    have e : (27 : Int32) = o := ho
    subst e
    exact okc_27 hg p1 hN hl
  · subst z
    have e : (28 : Int32) = o := ho
    subst e
    exact okc_28 hg p1 hN hl
theorem spc_ok {i nb i1 : Nat} {C : CD} {N : List Int32} (hg : EG T M nf nv fa se) (hc : 306 ≤ (T i).1 ∧ (T i).1 ≤ 312) (h : spc T M nb i = .inr (i1, C, N)) (hN : Ntd nt nb N) (hl : nb + N.length ≤ nn) : OkL nf nv nn nt C := by
  unfold spc at h
  generalize (T i).1 = w at h hc
  generalize eo : nI (w - 284) = o at h
  by_cases c : (T (i + 1)).1 = 40
  · rw [if_pos c] at h
    obtain ⟨j1, N', p1, h⟩ := nrB_inr h
    by_cases c2 : (T j1).1 = 41
    · rw [if_pos c2] at h
      obtain ⟨e1, e2, e3⟩ := rsO_inr h
      subst e1; subst e2; subst e3
      exact OkL.one (okc_w hg hc eo p1 hN hl)
    · rw [if_neg c2] at h; exact (ncI h).elim
  · rw [if_neg c] at h; exact (ncI h).elim
theorem lpo_mid {tag c : Nat} {op : Int32} (h : lpo tag c = some op) : 8 ≤ op ∧ op < 22 := by
  unfold lpo at h
  split at h
  · split at h
    · cases h; exact ⟨by decide, by decide⟩
    · exact nomatch h
  · split at h
    · split at h
      · cases h; exact ⟨by decide, by decide⟩
      · exact nomatch h
    · split at h
      · split at h
        · cases h; exact ⟨by decide, by decide⟩
        · split at h
          · cases h; exact ⟨by decide, by decide⟩
          · exact nomatch h
      · split at h
        · split at h
          · cases h; exact ⟨by decide, by decide⟩
          · exact nomatch h
        · split at h
          · split at h
            · cases h; exact ⟨by decide, by decide⟩
            · exact nomatch h
          · split at h
            · cases h; exact ⟨by decide, by decide⟩
            · exact nomatch h
theorem rlo_mid {c : Nat} {op : Int32} (h : rlo c = some op) : 8 ≤ op ∧ op < 22 := by
  unfold rlo at h
  split at h
  · cases h; exact ⟨by decide, by decide⟩
  · split at h
    · cases h; exact ⟨by decide, by decide⟩
    · split at h
      · cases h; exact ⟨by decide, by decide⟩
      · split at h
        · cases h; exact ⟨by decide, by decide⟩
        · split at h
          · cases h; exact ⟨by decide, by decide⟩
          · split at h
            · cases h; exact ⟨by decide, by decide⟩
            · exact nomatch h
theorem prz_ok (hg : EG T M nf nv fa se) : ∀ (f tag x o i nb i1 : Nat) (C : CD) (N : List Int32), prz T M f tag x o i nb = .inr (i1, C, N) → Ntd nt nb N → nb + N.length ≤ nn → OkL nf nv nn nt C := by
  intro f
  induction f with
  | zero => intro tag x o i nb i1 C N h; exact (ncE h).elim
  | succ f ih =>
    intro tag x o i nb i1 C N h hN hl
    rw [prz, prq] at h
    by_cases c0 : tag = 0
    · rw [if_pos c0] at h
      obtain ⟨j1, C1, N1, p1, h⟩ := rsB_inr h
      by_cases c : (T j1).1 = 203
      · rw [if_pos c] at h
        by_cases k : 12 ≤ o
        · rw [if_pos k] at h; exact (ncE h).elim
        rw [if_neg k] at h
        obtain ⟨j2, C2, N2, p2, h⟩ := rsB_inr h
        obtain ⟨e1, e2, e3⟩ := rsO_inr h
        subst e1; subst e2; subst e3
        rw [List.length_append] at hl
        exact ((ih _ _ _ _ _ _ _ _ p1 hN.app.1 (by omega)).app (ih _ _ _ _ _ _ _ _ p2 hN.app.2 (by omega))).app (OkL.one (Okc_mid (by decide) (by decide)))
      · rw [if_neg c] at h
        obtain ⟨e1, e2, e3⟩ := rsO_inr h
        subst e1; subst e2; subst e3
        exact ih _ _ _ _ _ _ _ _ p1 hN hl
    rw [if_neg c0] at h
    by_cases c3 : tag = 3
    · rw [if_pos c3] at h
      by_cases k1 : (T i).1 = 126
      · rw [if_pos k1] at h
        by_cases k : 12 ≤ o
        · rw [if_pos k] at h; exact (ncE h).elim
        rw [if_neg k] at h
        obtain ⟨j1, C1, N1, p1, h⟩ := rsB_inr h
        obtain ⟨e1, e2, e3⟩ := rsO_inr h
        subst e1; subst e2; subst e3
        exact (ih _ _ _ _ _ _ _ _ p1 hN hl).app (OkL.one (Okc_one (by decide)))
      rw [if_neg k1] at h
      by_cases k2 : (T i).1 = 123
      · rw [if_pos k2] at h
        by_cases k : 12 ≤ o
        · rw [if_pos k] at h; exact (ncE h).elim
        rw [if_neg k] at h
        obtain ⟨j1, C1, N1, p1, h⟩ := rsB_inr h
        by_cases c : (T j1).1 = 125
        · rw [if_pos c] at h
          obtain ⟨e1, e2, e3⟩ := rsO_inr h
          subst e1; subst e2; subst e3
          exact ih _ _ _ _ _ _ _ _ p1 hN hl
        · rw [if_neg c] at h; exact (ncI h).elim
      rw [if_neg k2] at h
      by_cases k3 : 306 ≤ (T i).1 ∧ (T i).1 ≤ 312
      · rw [if_pos k3] at h
        exact spc_ok hg k3 h hN hl
      rw [if_neg k3] at h
      obtain ⟨j1, C1, N1, p1, h⟩ := rsB_inr h
      cases z : rlo (T j1).1 with
      | none => rw [z] at h; exact (ncI h).elim
      | some op =>
        rw [z] at h
        obtain ⟨j2, C2, N2, p2, h⟩ := rsB_inr h
        obtain ⟨e1, e2, e3⟩ := rsO_inr h
        subst e1; subst e2; subst e3
        rw [List.length_append] at hl
        exact ((ih _ _ _ _ _ _ _ _ p1 hN.app.1 (by omega)).app (ih _ _ _ _ _ _ _ _ p2 hN.app.2 (by omega))).app (OkL.one (Okc_mid (rlo_mid z).1 (rlo_mid z).2))
    rw [if_neg c3] at h
    by_cases c6 : tag = 6
    · rw [if_pos c6] at h
      by_cases k1 : (T i).1 = 1
      · rw [if_pos k1] at h
        cases z : M (T i).2.1 with
        | none => rw [z] at h; exact (ncE h).elim
        | some q =>
          rw [z] at h
          have h : (if q.1 = 0 then rsO (i + 1) [(1, nI q.2)] [] else if q.1 = 1 then rsO (i + 1) [(2, nI q.2)] [] else rsE 4 (T i).f) = .inr (i1, C, N) := h
          have bq := hg.2.1 _ _ z
          by_cases z0 : q.1 = 0
          · rw [if_pos z0] at h
            obtain ⟨e1, e2, e3⟩ := rsO_inr h
            subst e1; subst e2; subst e3
            exact OkL.one (Okc_1 (bq.1 z0))
          · rw [if_neg z0] at h
            by_cases z1 : q.1 = 1
            · rw [if_pos z1] at h
              obtain ⟨e1, e2, e3⟩ := rsO_inr h
              subst e1; subst e2; subst e3
              exact OkL.one (Okc_2 (bq.2 z1))
            · rw [if_neg z1] at h; exact (ncE h).elim
      rw [if_neg k1] at h
      by_cases k2 : (T i).1 = 2
      · rw [if_pos k2] at h
        obtain ⟨e1, e2, e3⟩ := rsO_inr h
        subst e1; subst e2; subst e3
        exact OkL.one Okc_0
      rw [if_neg k2] at h
      by_cases k3 : (T i).1 = 45
      · rw [if_pos k3] at h
        by_cases k : 12 ≤ o
        · rw [if_pos k] at h; exact (ncE h).elim
        rw [if_neg k] at h
        obtain ⟨j1, C1, N1, p1, h⟩ := rsB_inr h
        obtain ⟨e1, e2, e3⟩ := rsO_inr h
        subst e1; subst e2; subst e3
        exact (ih _ _ _ _ _ _ _ _ p1 hN hl).app (OkL.one (Okc_one (by decide)))
      rw [if_neg k3] at h
      by_cases k4 : (T i).1 = 40
      · rw [if_pos k4] at h
        by_cases k : 12 ≤ o
        · rw [if_pos k] at h; exact (ncE h).elim
        rw [if_neg k] at h
        obtain ⟨j1, C1, N1, p1, h⟩ := rsB_inr h
        by_cases c : (T j1).1 = 41
        · rw [if_pos c] at h
          obtain ⟨e1, e2, e3⟩ := rsO_inr h
          subst e1; subst e2; subst e3
          exact ih _ _ _ _ _ _ _ _ p1 hN hl
        · rw [if_neg c] at h; exact (ncI h).elim
      rw [if_neg k4] at h
      by_cases k5 : (T i).1 = 91
      · rw [if_pos k5] at h
        by_cases k : 12 ≤ o
        · rw [if_pos k] at h; exact (ncE h).elim
        rw [if_neg k] at h
        obtain ⟨j1, C1, N1, p1, h⟩ := rsB_inr h
        by_cases c : (T j1).1 = 93
        · rw [if_pos c] at h
          obtain ⟨e1, e2, e3⟩ := rsO_inr h
          subst e1; subst e2; subst e3
          exact (ih _ _ _ _ _ _ _ _ p1 hN hl).app (OkL.one (Okc_one (by decide)))
        · rw [if_neg c] at h; exact (ncI h).elim
      rw [if_neg k5] at h
      by_cases k6 : 313 ≤ (T i).1 ∧ (T i).1 ≤ 316
      · rw [if_pos k6] at h
        by_cases c : (T (i + 1)).1 = 40
        · rw [if_pos c] at h
          by_cases k : 12 ≤ o
          · rw [if_pos k] at h; exact (ncE h).elim
          rw [if_neg k] at h
          obtain ⟨j1, C1, N1, p1, h⟩ := rsB_inr h
          by_cases c13 : (T i).1 = 313
          · rw [if_pos c13] at h
            by_cases c2 : (T j1).1 = 41
            · rw [if_pos c2] at h
              obtain ⟨e1, e2, e3⟩ := rsO_inr h
              subst e1; subst e2; subst e3
              exact (ih _ _ _ _ _ _ _ _ p1 hN hl).app (OkL.one (Okc_one (by decide)))
            · rw [if_neg c2] at h; exact (ncI h).elim
          rw [if_neg c13] at h
          by_cases c16 : (T i).1 = 316
          · rw [if_pos c16] at h
            by_cases c2 : (T j1).1 = 58
            · rw [if_pos c2] at h
              obtain ⟨j2, xs, p2, h⟩ := nrB_inr h
              by_cases c4 : (T j2).1 = 41
              · rw [if_pos c4] at h
                obtain ⟨e1, e2, e3⟩ := rsO_inr h
                subst e1; subst e2; subst e3
                rw [List.length_append, List.length_cons] at hl
                exact (ih _ _ _ _ _ _ _ _ p1 hN.app.1 (by omega)).app (OkL.one (Okc_7.mpr ⟨nb + N1.length, xs.length, rfl, by omega, hN.app.2.tl.1⟩))
              · rw [if_neg c4] at h; exact (ncI h).elim
            · rw [if_neg c2] at h; exact (ncI h).elim
          rw [if_neg c16] at h
          obtain ⟨j2, C2, N2, p2, h⟩ := rsB_inr h
          by_cases c2 : (T j2).1 = 41
          · rw [if_pos c2] at h
            obtain ⟨e1, e2, e3⟩ := rsO_inr h
            subst e1; subst e2; subst e3
            rw [List.length_append] at hl
            exact (ih _ _ _ _ _ _ _ _ p1 hN.app.1 (by omega)).app (ih _ _ _ _ _ _ _ _ p2 hN.app.2 (by omega))
          · rw [if_neg c2] at h; exact (ncI h).elim
        · rw [if_neg c] at h; exact (ncI h).elim
      · rw [if_neg k6] at h; exact (ncI h).elim
    rw [if_neg c6] at h
    by_cases c5 : tag ≤ 5
    · rw [if_pos c5] at h
      obtain ⟨j1, C1, N1, p1, h⟩ := rsB_inr h
      obtain ⟨j2, C2, N2, p2, h⟩ := rsB_inr h
      obtain ⟨e1, e2, e3⟩ := rsO_inr h
      subst e1; subst e2; subst e3
      rw [List.length_append] at hl
      exact (ih _ _ _ _ _ _ _ _ p1 hN.app.1 (by omega)).app (ih _ _ _ _ _ _ _ _ p2 hN.app.2 (by omega))
    · rw [if_neg c5] at h
      cases z : lpo tag (T i).1 with
      | none =>
        rw [z] at h
        obtain ⟨e1, e2, e3⟩ := rsO_inr h
        subst e1; subst e2; subst e3
        exact OkL.nil
      | some op =>
        rw [z] at h
        have h : (if tag ≤ 15 ∨ x ≠ 0 then rsB (prz T M f (lps tag) 0 o (i + 1) nb) (fun i1 C1 N1 => rsB (prz T M f tag (x - 1) o i1 (nb + N1.length)) (fun i2 C2 N2 => rsO i2 (C1 ++ (op, 0) :: C2) (N1 ++ N2))) else rsO i [] []) = .inr (i1, C, N) := h
        by_cases c : tag ≤ 15 ∨ x ≠ 0
        · rw [if_pos c] at h
          obtain ⟨j1, C1, N1, p1, h⟩ := rsB_inr h
          obtain ⟨j2, C2, N2, p2, h⟩ := rsB_inr h
          obtain ⟨e1, e2, e3⟩ := rsO_inr h
          subst e1; subst e2; subst e3
          rw [List.length_append] at hl
          exact (ih _ _ _ _ _ _ _ _ p1 hN.app.1 (by omega)).app (OkL.cons (Okc_mid (lpo_mid z).1 (lpo_mid z).2) (ih _ _ _ _ _ _ _ _ p2 hN.app.2 (by omega)))
        · rw [if_neg c] at h
          obtain ⟨e1, e2, e3⟩ := rsO_inr h
          subst e1; subst e2; subst e3
          exact OkL.nil
end
/-! what the reference says of a test or a sum -/
section
variable {E : EE} {d : Nat} {V : VH} {p : Nat} {T : Nat → TK} {M : MN} {L nf nv : Nat} {nt : Nat → Int32}
theorem TvH_of {i nb i1 : Nat} {C : CD} {N : List Int32} {F : Nat} (hd : 158 ≤ d) (hp : p < 5) (hT : TL T L) (hL : L ≤ 20000) (hg : EG T M nf nv (fun _ => 0) (fun _ => 0)) (hk : Kpt V p T M 0 L) (hi : i ≤ L) (hnb : nb ≤ i) (hi1 : i1 < L) (hF : 8 * (L - i) + 7 < F) (hr : prz T M F 0 0 0 i nb = .inr (i1, C, N)) (hN : Ntd nt nb N) : TvH E d V nf nv (20000 * p) (20000 * p + 20000) (20000 * p + i) (dnt nf nv nt C) := by
  intro V1 K tr ha b1 b2 hk1
  have g := hg.of b1 b2
  obtain ⟨v, x, b, k⟩ := ((PV_all (E := E) (p := p) hT hL g (spH_all (nt := nt) hT g)) F 0).1 0 (by decide) d i nb i1 C N [] (by show 20 + 10 * 13 + 8 ≤ d; omega) (by decide) hi hnb hi1 (by show 8 * (L - i) + 7 < F; exact hF) hr hN (by decide)
  refine k V1 K ⟨hp, hL, fun j h1 h2 => ?_, rfl, rfl⟩ ha (fun V' f' _ => ?_)
  · rw [tr 5 _ (by omega) (by omega) (by omega), tr 6 _ (by omega) (by omega) (by omega)]
    exact ⟨(hk j h1 h2).1, (hk j h1 h2).2.1⟩
  · have kk := hk1 V' f'
    unfold dnt at kk
    rw [x] at kk
    exact kk
theorem SvH_of {i nb i1 : Nat} {C : CD} {N : List Int32} {F : Nat} (hd : 158 ≤ d) (hp : p < 5) (hT : TL T L) (hL : L ≤ 20000) (hg : EG T M nf nv (fun _ => 0) (fun _ => 0)) (hk : Kpt V p T M 0 L) (hi : i ≤ L) (hnb : nb ≤ i) (hi1 : i1 < L) (hF : 8 * (L - i) + 7 < F) (hr : prz T M F 4 0 0 i nb = .inr (i1, C, N)) (hN : Ntd nt nb N) : SvH E d V nf nv (20000 * p) (20000 * p + 20000) (20000 * p + i) (dnt nf nv nt C) := by
  intro V1 K tr ha b1 b2 hk1
  have g := hg.of b1 b2
  obtain ⟨v, x, b, k⟩ := ((PV_all (E := E) (p := p) hT hL g (spH_all (nt := nt) hT g)) F 0).1 4 (by decide) d i nb i1 C N [] (by show 20 + 10 * 13 + 4 ≤ d; omega) (by decide) hi hnb hi1 (by show 8 * (L - i) + 3 < F; omega) hr hN (by decide)
  refine k V1 K ⟨hp, hL, fun j h1 h2 => ?_, rfl, rfl⟩ ha (fun V' f' _ => ?_)
  · rw [tr 5 _ (by omega) (by omega) (by omega), tr 6 _ (by omega) (by omega) (by omega)]
    exact ⟨(hk j h1 h2).1, (hk j h1 h2).2.1⟩
  · have kk := hk1 V' f'
    unfold dnt at kk
    rw [x] at kk
    exact kk
end
