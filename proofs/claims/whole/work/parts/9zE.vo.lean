/-! special tests of the reference: what the notes say; all, lex -/
section
variable {E : EE} {d : Nat} {p : Nat} {T : Nat → TK} {M : MN} {L nf nv : Nat} {fa se nt : Nat → Int32}
theorem nms_b {least : Nat} (hM : ∀ k q, M k = some q → (q.1 = 0 → q.2 < nf) ∧ (q.1 = 1 → q.2 < nv)) : ∀ (m n i i1 : Nat) (vs : List Nat), nms T M least m n i = .inr (i1, vs) → vs.length ≤ m ∧ (least ≤ n + m → least ≤ n + vs.length) ∧ ∀ j, j < vs.length → vs.getD j 0 < nv := by
  intro m
  induction m with
  | zero =>
    intro n i i1 vs h
    have ex : ([] : List Nat) = vs := congrArg Prod.snd (Sum.inr.inj (show (Sum.inr (i, []) : NR (List Nat)) = Sum.inr (i1, vs) from h))
    subst ex
    exact ⟨Nat.le_refl 0, fun z => z, fun j hj => absurd hj (Nat.not_lt_zero j)⟩
  | succ m ih =>
    intro n i i1 vs h
    rw [nms] at h
    obtain ⟨j1, v, p1, h⟩ := nrB_inr h
    have lv := (hM _ _ (vrb_ok p1).2.2).2 rfl
    by_cases c : m = 0 ∨ (least ≤ n + 1 ∧ (T j1).1 ≠ 44)
    · rw [if_pos c] at h
      have ex : [v] = vs := congrArg Prod.snd (Sum.inr.inj h)
      subst ex
      refine ⟨by show 1 ≤ m + 1; omega, fun z => by show least ≤ n + 1; omega, fun j hj => ?_⟩
      have hj' : j < 1 := hj
      have : j = 0 := by omega
      subst this
      exact lv
    · rw [if_neg c] at h
      by_cases c4 : (T j1).1 = 44
      · rw [if_pos c4] at h
        obtain ⟨j2, us, p2, h⟩ := nrB_inr h
        have ex : v :: us = vs := congrArg Prod.snd (Sum.inr.inj h)
        subst ex
        obtain ⟨a1, a2, a3⟩ := ih _ _ _ _ p2
        refine ⟨by show us.length + 1 ≤ m + 1; omega, fun z => by show least ≤ n + (us.length + 1); have := a2 (by omega); omega, fun j hj => ?_⟩
        cases j with
        | zero => exact lv
        | succ j => exact a3 j (Nat.lt_of_succ_lt_succ hj)
      · rw [if_neg c4] at h; exact nomatch h
theorem map_getD (vs : List Nat) (j : Nat) (h : j < vs.length) : (vs.map nI).getD j 0 = nI (vs.getD j 0) := by
  rw [List.getD_eq_getElem?_getD, List.getD_eq_getElem?_getD, List.getElem?_map, List.getElem?_eq_getElem h]
  rfl
/-- names in the notes -/
theorem nvs_ok {nb : Nat} {vs : List Nat} (h : Ntd nt nb (nvs vs)) (hl : vs.length ≤ 12) (hv : ∀ j, j < vs.length → vs.getD j 0 < nv) (h12 : nv ≤ 12) : nt nb = nI vs.length ∧ ntn nt nb = vs.length ∧ ∀ j, j < vs.length → nt (nb + 1 + j) = nI (vs.getD j 0) ∧ ntv nt (cut nv se) (nb + 1 + j) = se (vs.getD j 0) := by
  have a0 : nt nb = nI vs.length := h 0 (by rw [nvs_len]; omega)
  have aj : ∀ j, j < vs.length → nt (nb + 1 + j) = nI (vs.getD j 0) := fun j hj => by
    have := h (j + 1) (by rw [nvs_len]; omega)
    rw [show nb + 1 + j = nb + (j + 1) by omega, this, ← map_getD vs j hj]
    rfl
  refine ⟨a0, ntn_eq a0 (by omega), fun j hj => ⟨aj j hj, ?_⟩⟩
  have lv := hv j hj
  unfold ntv
  rw [ntn_eq (aj j hj) (by omega), cut_in lv]
theorem nI_tv {n : Nat} (h : n ≤ 2000001) : Tv (nI n) := by
  have : (nI n).toInt = (n : Int) := Int32.toInt_ofNat_of_lt (by omega)
  exact ⟨by rw [this]; omega, by rw [this]; omega⟩
theorem spx_22 {w : Nat} : spx nt se 22 w = nI (dup (fun j => ntv nt se (w + 1 + j)) (ntn nt w)) := by unfold spx; rw [if_pos rfl]
theorem spx_24 {w : Nat} : spx nt se 24 w = lxv (fun j => ntv nt se (w + 1 + j)) (fun j => ntv nt se (w + 1 + ntn nt w + 1 + j)) (ntn nt w) 0 := by unfold spx; rw [if_neg (by decide), if_neg (by decide), if_pos rfl]
theorem spx_25 {w : Nat} : spx nt se 25 w = rgv (fun j => ntv nt se (w + 1 + j)) (ntn nt w) := by unfold spx; rw [if_neg (by decide), if_neg (by decide), if_neg (by decide), if_pos rfl]
theorem lst_n {w i j1 : Nat} {N : List Int32} (hw : w = 306 ∨ w = 309) (h : lst T M w i = .inr (j1, N)) : ∃ vs, nms T M 1 12 0 i = .inr (j1, vs) ∧ N = nvs vs := by
  unfold lst at h
  rw [if_neg (by omega), if_neg (by omega)] at h
  obtain ⟨i1, vs, p1, h⟩ := nrB_inr h
  rw [if_pos hw] at h
  have e1 : i1 = j1 := congrArg Prod.fst (Sum.inr.inj h)
  have e2 : nvs vs = N := congrArg Prod.snd (Sum.inr.inj h)
  subst e1
  exact ⟨vs, p1, e2.symm⟩
theorem sp_all {i nb j1 : Nat} {N : List Int32} (h0 : 1 < d) (hT : TL T L) (hg : EG T M nf nv fa se) (e : lst T M 306 i = .inr (j1, N)) (c41 : (T j1).1 = 41) (hi : i ≤ j1) (hj : j1 < L) (hN : Ntd nt nb N) : Tv (spx nt (cut nv se) 22 nb) ∧ ∀ (V : VH) (K : Int64 → VH → Prop), EM V p T M 0 L fa se → EA V p i → (∀ V', Fc V V' evS → EA V' p j1 → K (Int32.toInt64 (spx nt (cut nv se) 22 nb)) V') → vMJ E d M_X12_allValue [sl 6 0] V K := by
  obtain ⟨vs, p1, eN⟩ := lst_n (Or.inl rfl) e
  subst eN
  obtain ⟨l1, _, l3⟩ := nms_b (nv := nv) hg.2.1 _ _ _ _ _ p1
  obtain ⟨t0, t1, t2⟩ := nvs_ok (se := se) hN l1 l3 hg.2.2.2.1
  have dl := dup_le (fun j => ntv nt (cut nv se) (nb + 1 + j)) vs.length
  rw [spx_22, t1]
  refine ⟨nI_tv (by omega), fun V K hm ha hk => ?_⟩
  refine w_X12_allValue_0 (by omega) (ev_row (y := fun j => ntv nt (cut nv se) (nb + 1 + j)) (m := 11) (by omega) hT hg p1 (by decide) (by rw [c41]; decide) hj (by omega) (fun j hj => (t2 j hj).2) hm ha (fun V1 f1 a1 r1 _ => ?_))
  refine ev_different l1 r1 ?_
  rw [r1.1, nI_sub (by omega), show vs.length - (vs.length - dup (fun j => ntv nt (cut nv se) (nb + 1 + j)) vs.length) = dup (fun j => ntv nt (cut nv se) (nb + 1 + j)) vs.length by omega]
  exact hk V1 f1 a1
theorem lxv_b (y u : Nat → Int32) : ∀ (m j : Nat), Tv (lxv y u m j) := by
  intro m
  induction m with
  | zero => intro j; rw [lxv]; exact ⟨by rw [t_0]; omega, by rw [t_0]; omega⟩
  | succ m ih =>
    intro j
    rw [lxv]
    by_cases c : y j = u j
    · rw [if_pos c]; exact ih (j + 1)
    · rw [if_neg c]
      by_cases c2 : y j ≤ u j
      · rw [if_pos c2]; exact ⟨by rw [t_0]; omega, by rw [t_0]; omega⟩
      · rw [if_neg c2]; exact ⟨by rw [t_1]; omega, by rw [t_1]; omega⟩
theorem sp_lex {i nb j1 : Nat} {N : List Int32} (h0 : 1 < d) (hT : TL T L) (hg : EG T M nf nv fa se) (e : lst T M 308 i = .inr (j1, N)) (c41 : (T j1).1 = 41) (hi : i ≤ j1) (hj : j1 < L) (hN : Ntd nt nb N) : Tv (spx nt (cut nv se) 24 nb) ∧ ∀ (V : VH) (K : Int64 → VH → Prop), EM V p T M 0 L fa se → EA V p i → (∀ V', Fc V V' evS → EA V' p j1 → K (Int32.toInt64 (spx nt (cut nv se) 24 nb)) V') → vMJ E d M_X12_lexValue [sl 6 0] V K := by
  unfold lst at e
  rw [if_neg (by decide), if_neg (by decide)] at e
  obtain ⟨k1, vs, p1, e⟩ := nrB_inr e
  rw [if_neg (by decide)] at e
  by_cases c58 : (T k1).1 = 58
  · rw [if_pos c58, if_pos rfl] at e
    obtain ⟨k2, us, p2, e⟩ := nrB_inr e
    have e1 : k2 = j1 := congrArg Prod.fst (Sum.inr.inj e)
    have eN : nvs vs ++ nvs us = N := congrArg Prod.snd (Sum.inr.inj e)
    subst e1; subst eN
    obtain ⟨n1, n2⟩ := hN.app
    obtain ⟨l1, l2, l3⟩ := nms_b (nv := nv) hg.2.1 _ _ _ _ _ p1
    obtain ⟨m1, m2, m3⟩ := nms_b (nv := nv) hg.2.1 _ _ _ _ _ p2
    have l1' := l2 (by omega)
    have ml : us.length = vs.length := by have := m2 (by omega); omega
    obtain ⟨t0, t1, t2⟩ := nvs_ok (se := se) n1 l1 l3 hg.2.2.2.1
    rw [nvs_len] at n2
    obtain ⟨u0, u1, u2⟩ := nvs_ok (se := se) n2 (by omega) m3 hg.2.2.2.1
    have f1 := nms_fit (T := T) (M := M) (L := L) hT (least := 1) 12 0 i (by omega)
    rw [p1] at f1
    have kL : k1 ≤ L := f1.2.1
    have k1L : k1 < L := hT.lt kL (by rw [c58]; decide) (by rw [c58]; decide)
    have f2 := nms_fit (T := T) (M := M) (L := L) hT (least := vs.length) vs.length 0 (k1 + 1) (by omega)
    rw [p2] at f2
    rw [spx_24, t1]
    refine ⟨lxv_b _ _ _ _, fun V K hm ha hk => ?_⟩
    refine w_X12_lexValue_0 (by omega) (ev_row (y := fun j => ntv nt (cut nv se) (nb + 1 + j)) (m := 11) (by omega) hT hg p1 (by decide) (by rw [c58]; decide) k1L (by omega) (fun j hj => (t2 j hj).2) hm ha (fun V1 f1 a1 r1 _ => ?_))
    -- the first row is kept aside
    have go1 : ∀ (m j : Nat) (W : VH), j + m = vs.length → Fc V1 W evS → EA W p k1 → vI W 6 0 57 = nI vs.length → (∀ k, vJ W 6 37 k = vJ V1 6 37 k) → (∀ k, k < j → vJ W 6 38 k = vJ V1 6 37 k) → vwp E d M_X12_lexValue 6 [some (sl 6 0), some (wi (nI j))] [] W (zj K) := by
      intro m
      induction m with
      | zero =>
        intro j W ej fW aW w57 w37 w38
        have : j = vs.length := by omega
        subst this
        refine w_X12_lexValue_6 (by omega) ⟨fun _ W1 e1 => ?_, fun q => absurd (by rw [w57]; exact nI_le (Nat.le_refl _) (by omega)) q⟩
        obtain ⟨a2, f2⟩ := aW.st 1 e1 rfl
        obtain ⟨mm, em⟩ : ∃ mm, vs.length = mm + 1 := ⟨vs.length - 1, by omega⟩
        rw [em] at p2
        have hmW := ((hm.fc f1).fc fW).fc f2
        refine ev_row (y := fun j => ntv nt (cut nv se) (nb + 1 + vs.length + 1 + j)) (m := mm) (by omega) hT hg p2 (by omega) (by rw [c41]; decide) hj (by omega) (fun j hj => ?_) hmW a2 (fun W2 f3 a3 r3 w38' => ?_)
        · have := (u2 j hj).2
          rw [show nb + (vs.length + 1) + 1 + j = nb + 1 + vs.length + 1 + j by omega] at this
          exact this
        rw [ml] at r3
        have x38 : ∀ k, k < vs.length → vJ W2 6 38 k = Int32.toInt64 (ntv nt (cut nv se) (nb + 1 + k)) := fun k hk => by
          rw [w38' k, e1]
          show vJ W 6 38 k = _
          rw [w38 k hk]; exact r1.2 k hk
        have go2 : ∀ (c j : Nat), j + c = vs.length → K (Int32.toInt64 (lxv (fun j => ntv nt (cut nv se) (nb + 1 + j)) (fun j => ntv nt (cut nv se) (nb + 1 + vs.length + 1 + j)) c j)) W2 → vwp E d M_X12_lexValue 48 [some (sl 6 0), some (wi (nI j))] [] W2 (zj K) := by
          intro c
          induction c with
          | zero =>
            intro j ej kk
            rw [lxv, j_0] at kk
            have le : vI W2 6 0 57 ≤ nI j := by rw [r3.1]; exact nI_le (by omega) (by omega)
            exact w_X12_lexValue_48 ⟨fun _ => w_X12_lexValue_78 ⟨fun _ => kk, fun q => absurd le q⟩, fun q => absurd le q⟩
          | succ c ihc =>
            intro j ej kk
            have nle : ¬ vI W2 6 0 57 ≤ nI j := by rw [r3.1]; exact nI_ge (by omega) (by omega)
            rw [lxv] at kk
            have pin : vp_in (nI j) 12 := vp_in_nI (by omega) (by decide)
            refine w_X12_lexValue_48 ⟨fun q => absurd q nle, fun _ => ⟨pin, pin, ?_⟩⟩
            rw [nI_clamp (show j < 2 ^ 31 by omega), x38 j (by omega), r3.2 j (by omega)]
            refine ⟨fun z => ?_, fun z => ?_⟩
            · have z' : ¬ ntv nt (cut nv se) (nb + 1 + j) = ntv nt (cut nv se) (nb + 1 + vs.length + 1 + j) := fun w => z (by rw [w])
              rw [if_neg z'] at kk
              refine w_X12_lexValue_78 ⟨fun q => absurd q nle, fun _ => ⟨pin, pin, ?_⟩⟩
              rw [nI_clamp (show j < 2 ^ 31 by omega), x38 j (by omega), r3.2 j (by omega)]
              refine ⟨fun w => ?_, fun w => ?_⟩
              · rw [if_pos (j_le.mp w), j_0] at kk; exact kk
              · rw [if_neg (fun v => w (j_le.mpr v)), j_1] at kk; exact kk
            · rw [if_pos (j_inj.mp z)] at kk
              rw [nI_1]
              exact ihc (j + 1) (by omega) kk
        exact go2 vs.length 0 (by omega) (hk W2 (((f1.trans fW).trans f2).trans f3) a3)
      | succ m ih =>
        intro j W ej fW aW w57 w37 w38
        have pin : vp_in (nI j) 12 := vp_in_nI (by omega) (by decide)
        refine w_X12_lexValue_6 (by omega) ⟨fun q => absurd q (by rw [w57]; exact nI_ge (by omega) (by omega)), fun _ => ⟨pin, pin, fun W1 e1 => ?_⟩⟩
        rw [nI_clamp (show j < 2 ^ 31 by omega)] at e1
        rw [nI_1]
        have f2 : Fc W W1 evS := by rw [e1]; exact Fc_wrJ ⟨rfl, by omega⟩
        refine ih (j + 1) W1 (by omega) (fW.trans f2) (by show vI W1 6 0 54 = _; rw [e1]; exact aW) (by rw [e1]; exact w57) (fun k => by rw [e1, wrJ_ne (fun z => by omega)]; exact w37 k) (fun k hk => ?_)
        rw [e1]
        by_cases c : k = j
        · subst c; rw [wrJ_at]; exact w37 k
        · rw [wrJ_ne (fun z => c (by omega))]; exact w38 k (by omega)
    exact go1 vs.length 0 V1 (by omega) Fc.refl a1 r1.1 (fun _ => rfl) (fun k hk => absurd hk (Nat.not_lt_zero k))
  · rw [if_neg c58] at e; exact nomatch e
end
