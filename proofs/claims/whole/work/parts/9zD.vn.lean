/-! special tests of the reference: names, all, lex -/
def RW (V : VH) (n : Nat) (y : Nat → Int32) : Prop := vI V 6 0 57 = nI n ∧ ∀ j, j < n → vJ V 6 37 j = Int32.toInt64 (y j)
section
variable {E : EE} {d : Nat} {p : Nat} {T : Nat → TK} {M : MN} {L nf nv : Nat} {fa se nt : Nat → Int32}
theorem vrb_ok {i i1 v : Nat} (h : vrb T M i = .inr (i1, v)) : (T i).1 = 1 ∧ i1 = i + 1 ∧ M (T i).2.1 = some (1, v) := by
  unfold vrb at h
  by_cases c : (T i).1 = 1
  · rw [if_pos c] at h
    cases hM : M (T i).2.1 with
    | none => rw [hM] at h; exact nomatch h
    | some q =>
      rw [hM] at h
      dsimp only at h
      by_cases c2 : q.1 = 1
      · rw [if_pos c2] at h
        have h' := Sum.inr.inj h
        have e1 : i + 1 = i1 := congrArg Prod.fst h'
        have e2 : q.2 = v := congrArg Prod.snd h'
        exact ⟨c, e1.symm, by rw [← e2, ← c2]⟩
      · rw [if_neg c2] at h; exact nomatch h
  · rw [if_neg c] at h; exact nomatch h
theorem ev_var {V : VH} {i i1 v : Nat} {K : Int64 → VH → Prop} (hg : EG T M nf nv fa se) (hm : EM V p T M 0 L fa se) (ha : EA V p i) (iL : i < L) (h : vrb T M i = .inr (i1, v)) (hk : ∀ V', Fc V V' evS → EA V' p i1 → (∀ k, vJ V' 6 37 k = vJ V 6 37 k ∧ vJ V' 6 38 k = vJ V 6 38 k ∧ vJ V' 6 39 k = vJ V 6 39 k ∧ vJ V' 6 40 k = vJ V 6 40 k ∧ vJ V' 6 41 k = vJ V 6 41 k ∧ vJ V' 6 42 k = vJ V 6 42 k) → vI V' 6 0 57 = vI V 6 0 57 → v < nv → K (Int32.toInt64 (se v)) V') : vMJ E d M_X12_nameValue [sl 6 0] V K := by
  obtain ⟨h3, e1, h4⟩ := vrb_ok h
  subst e1
  have lv := (hg.2.1 _ _ h4).2 rfl
  obtain ⟨k1, k2, k3⟩ := hm.kd ha (Nat.zero_le _) iL
  have eu : nuv T M i = nI (100 + v) := by
    unfold nuv
    rw [if_pos h3, h4]
    rfl
  have nv12 := hg.2.2.2.1
  refine w_X12_nameValue_0 ⟨k1, fun V2 e2 => ?_⟩
  obtain ⟨a2, f2⟩ := ha.st 1 e2 rfl
  have hm2 := hm.fc f2
  rw [k3, eu, hm2.2.2.2.1, hm2.2.2.2.2]
  have es : nI (100 + v) - 100 = nI v := by
    rw [show (100 : Int32) = nI 100 from rfl, nI_sub (by omega)]
    exact congrArg nI (by omega)
  rw [es, nI_clamp (show v < 2 ^ 31 by omega)]
  refine ⟨fun z => absurd z (nI_nlt (b := 100) (by omega) (by omega)), fun _ => ⟨vp_in_nI (by omega) (by decide), hk V2 f2 a2 (fun k => ?_) ?_ lv⟩⟩
  · rw [e2]; exact ⟨rfl, rfl, rfl, rfl, rfl, rfl⟩
  · rw [e2, wrI_ne (fun z => by omega)]
theorem ev_names {K : VH → Prop} {y : Nat → Int32} {least : Nat} (h0 : 0 < d) (hT : TL T L) (hg : EG T M nf nv fa se) : ∀ (m n i i1 : Nat) (vs : List Nat) (W : VH), nms T M least (m + 1) n i = .inr (i1, vs) → ¬ (T i1).1 = 44 → i < L → i1 < L → n + m + 1 ≤ 12 → (∀ j, j < vs.length → y (n + j) = se (vs.getD j 0)) → EM W p T M 0 L fa se → EA W p i → RW W n y → (∀ V', Fc W V' evS → EA V' p i1 → RW V' (n + vs.length) y → (∀ k, vJ V' 6 38 k = vJ W 6 38 k) → K V') → vMJ E (d - 1) M_X12_nameValue [sl 6 0] W (fun r2 V2 => vp_in (vI W 6 0 57) 12 ∧ (∀ V6 : VH, V6 = wrJ V2 6 37 (Int32.toNatClampNeg (vI W 6 0 57)) r2 → ∀ V7 : VH, V7 = wrI V6 6 0 57 ((vI V6 6 0 57) + 1) → vwp E d M_X12_rowOfNames 28 [some (sl 6 0)] [] V7 (zv K))) := by
  intro m
  induction m with
  | zero =>
    intro n i i1 vs W e c44 iL iL1 hn hy hm ha hr hk
    rw [nms] at e
    obtain ⟨j1, v, p1, e⟩ := nrB_inr e
    rw [if_pos (Or.inl rfl)] at e
    have e1 : j1 = i1 := congrArg Prod.fst (Sum.inr.inj e)
    have ex : [v] = vs := congrArg Prod.snd (Sum.inr.inj e)
    subst e1; subst ex
    refine ev_var hg hm ha iL p1 (fun V2 f2 a2 k2 k57 lv => ?_)
    rw [hr.1, nI_clamp (show n < 2 ^ 31 by omega)]
    refine ⟨vp_in_nI (by omega) (by decide), fun V6 e6 V7 e7 => ?_⟩
    have f6 : Fc V2 V6 evS := by rw [e6]; exact Fc_wrJ ⟨rfl, by omega⟩
    have f7 : Fc V6 V7 evS := by rw [e7]; exact Fc_wrI ⟨rfl, by omega⟩
    have e57 : vI V6 6 0 57 = nI n := by rw [e6]; exact k57.trans hr.1
    rw [e57, nI_1] at e7
    have a7 : EA V7 p j1 := by
      show vI V7 6 0 54 = _
      rw [e7, wrI_ne (fun z => by omega), e6]; exact a2
    obtain ⟨q1, q2, _⟩ := (((hm.fc f2).fc f6).fc f7).kd a7 (Nat.zero_le _) iL1
    have y0 := hy 0 (Nat.succ_pos _)
    refine w_X12_rowOfNames_28 h0 ⟨q1, fun _ => hk V7 ((f2.trans f6).trans f7) a7 ⟨by rw [e7, wrI_at]; rfl, fun j hj => ?_⟩ (fun k => ?_), fun z => absurd ((kq 44 (hg.1 j1).1 (by decide)).mp (q2.symm.trans z)) c44⟩
    · have hj' : j < n + 1 := hj
      rw [e7]
      show vJ V6 6 37 j = _
      rw [e6]
      by_cases c : j = n
      · subst c; rw [wrJ_at]; exact congrArg Int32.toInt64 y0.symm
      · rw [wrJ_ne (fun z => c (by omega)), (k2 j).1]; exact hr.2 j (by omega)
    · rw [e7]
      show vJ V6 6 38 k = _
      rw [e6, wrJ_ne (fun z => by omega)]; exact (k2 k).2.1
  | succ m ih =>
    intro n i i1 vs W e c44 iL iL1 hn hy hm ha hr hk
    rw [nms] at e
    obtain ⟨j1, v, p1, e⟩ := nrB_inr e
    have ft := vrb_fit (M := M) hT (show i ≤ L by omega)
    rw [p1] at ft
    have ft1 : j1 ≤ L := ft.2.1
    refine ev_var hg hm ha iL p1 (fun V2 f2 a2 k2 k57 lv => ?_)
    rw [hr.1, nI_clamp (show n < 2 ^ 31 by omega)]
    refine ⟨vp_in_nI (by omega) (by decide), fun V6 e6 V7 e7 => ?_⟩
    have f6 : Fc V2 V6 evS := by rw [e6]; exact Fc_wrJ ⟨rfl, by omega⟩
    have f7 : Fc V6 V7 evS := by rw [e7]; exact Fc_wrI ⟨rfl, by omega⟩
    have e57 : vI V6 6 0 57 = nI n := by rw [e6]; exact k57.trans hr.1
    rw [e57, nI_1] at e7
    have a7 : EA V7 p j1 := by
      show vI V7 6 0 54 = _
      rw [e7, wrI_ne (fun z => by omega), e6]; exact a2
    have hm7 := ((hm.fc f2).fc f6).fc f7
    have r7 : ∀ x, y n = se x → x = v → RW V7 (n + 1) y := fun x hx ex => ⟨by rw [e7, wrI_at], fun j hj => by
      rw [e7]
      show vJ V6 6 37 j = _
      rw [e6]
      by_cases c : j = n
      · subst c; rw [wrJ_at, hx, ex]
      · rw [wrJ_ne (fun z => c (by omega)), (k2 j).1]; exact hr.2 j (by omega)⟩
    have w38 : ∀ k, vJ V7 6 38 k = vJ W 6 38 k := fun k => by
      rw [e7]
      show vJ V6 6 38 k = _
      rw [e6, wrJ_ne (fun z => by omega)]; exact (k2 k).2.1
    by_cases cc : m + 1 = 0 ∨ (least ≤ n + 1 ∧ (T j1).1 ≠ 44)
    · rw [if_pos cc] at e
      have e1 : j1 = i1 := congrArg Prod.fst (Sum.inr.inj e)
      have ex : [v] = vs := congrArg Prod.snd (Sum.inr.inj e)
      subst e1; subst ex
      obtain ⟨q1, q2, _⟩ := hm7.kd a7 (Nat.zero_le _) iL1
      exact w_X12_rowOfNames_28 h0 ⟨q1, fun _ => hk V7 ((f2.trans f6).trans f7) a7 (r7 v (hy 0 (Nat.succ_pos _)) rfl) w38, fun z => absurd ((kq 44 (hg.1 j1).1 (by decide)).mp (q2.symm.trans z)) c44⟩
    · rw [if_neg cc] at e
      by_cases c4 : (T j1).1 = 44
      · rw [if_pos c4] at e
        obtain ⟨j2, us, p2, e⟩ := nrB_inr e
        have e1 : j2 = i1 := congrArg Prod.fst (Sum.inr.inj e)
        have ex : v :: us = vs := congrArg Prod.snd (Sum.inr.inj e)
        subst e1; subst ex
        have jL : j1 < L := hT.lt ft1 (by rw [c4]; decide) (by rw [c4]; decide)
        have jL2 : j1 + 1 < L := by
          rw [nms] at p2
          obtain ⟨j3, v3, p3, _⟩ := nrB_inr p2
          obtain ⟨t1, t2, _⟩ := vrb_ok p3
          exact hT.lt (by omega) (by rw [t1]; decide) (by rw [t1]; decide)
        obtain ⟨q1, q2, _⟩ := hm7.kd a7 (Nat.zero_le _) jL
        refine w_X12_rowOfNames_28 h0 ⟨q1, fun z => absurd (by rw [q2, c4]; rfl) z, fun _ V8 e8 => ?_⟩
        obtain ⟨a8, f8⟩ := a7.st 1 e8 rfl
        have rr := r7 v (hy 0 (Nat.succ_pos _)) rfl
        refine ih (n + 1) (j1 + 1) j2 us V8 p2 c44 jL2 iL1 (by omega) (fun j hj => ?_) (hm7.fc f8) a8 ⟨by rw [e8, wrI_ne (fun z => by omega)]; exact rr.1, fun j hj => by rw [e8]; exact rr.2 j hj⟩ (fun V' f' a' r' w' => ?_)
        · have := hy (j + 1) (Nat.succ_lt_succ hj)
          rw [show n + 1 + j = n + (j + 1) by omega]
          exact this
        · refine hk V' ((((f2.trans f6).trans f7).trans f8).trans f') a' ?_ (fun k => (w' k).trans (by rw [e8]; exact w38 k))
          rw [show n + (v :: us).length = n + 1 + us.length by rw [List.length_cons]; omega]
          exact r'
      · rw [if_neg c4] at e
        exact nomatch e
theorem ev_row {V : VH} {K : VH → Prop} {y : Nat → Int32} {least i i1 m : Nat} {vs : List Nat} (h0 : 0 < d) (hT : TL T L) (hg : EG T M nf nv fa se) (e : nms T M least (m + 1) 0 i = .inr (i1, vs)) (hm12 : m + 1 ≤ 12) (c44 : ¬ (T i1).1 = 44) (iL1 : i1 < L) (hi : i ≤ L) (hy : ∀ j, j < vs.length → y j = se (vs.getD j 0)) (hm : EM V p T M 0 L fa se) (ha : EA V p i) (hk : ∀ V', Fc V V' evS → EA V' p i1 → RW V' vs.length y → (∀ k, vJ V' 6 38 k = vJ V 6 38 k) → K V') : vMV E d M_X12_rowOfNames [sl 6 0] V K := by
  refine w_X12_rowOfNames_0 h0 (fun V1 e1 => ?_)
  have f1 : Fc V V1 evS := by rw [e1]; exact Fc_wrI ⟨rfl, by omega⟩
  have a1 : EA V1 p i := by
    show vI V1 6 0 54 = _
    rw [e1, wrI_ne (fun z => by omega)]; exact ha
  have iL : i < L := by
    rw [nms] at e
    obtain ⟨j3, v3, p3, _⟩ := nrB_inr e
    obtain ⟨t1, t2, _⟩ := vrb_ok p3
    exact hT.lt hi (by rw [t1]; decide) (by rw [t1]; decide)
  refine ev_names (y := y) h0 hT hg m 0 i i1 vs V1 e c44 iL iL1 (by omega) (fun j hj => by rw [Nat.zero_add]; exact hy j hj) (hm.fc f1) a1 ⟨by rw [e1, wrI_at]; rfl, fun j hj => absurd hj (Nat.not_lt_zero j)⟩ (fun V' f' a' r' w' => ?_)
  rw [Nat.zero_add] at r'
  exact hk V' (f1.trans f') a' r' (fun k => (w' k).trans (by rw [e1]; rfl))
/-- how many different values -/
theorem ev_different {V : VH} {K : Int32 → VH → Prop} {y : Nat → Int32} {n : Nat} (hn : n ≤ 12) (hr : RW V n y) (hk : K (nI (n - dup y n)) V) : vMI E d M_X12_different [sl 6 0] V K := by
  have go1 : ∀ (m j : Nat), j + m = n → vwp E d M_X12_different 4 [some (sl 6 0), some (wi (nI (j - dup y j))), some (wi (nI j)), none, none] [] V (zi K) := by
    intro m
    induction m with
    | zero =>
      intro j ej
      have : j = n := by omega
      subst this
      exact w_X12_different_4 ⟨fun _ => hk, fun q => absurd (by rw [hr.1]; exact nI_le (Nat.le_refl _) (by omega)) q⟩
    | succ m ih =>
      intro j ej
      refine w_X12_different_4 ⟨fun q => absurd q (by rw [hr.1]; exact nI_ge (by omega) (by omega)), fun _ => ?_⟩
      have dl := dup_le y j
      have go2 : ∀ (k i : Nat), i + k = j → vwp E d M_X12_different 17 [some (sl 6 0), some (wi (nI (j - dup y j))), some (wi (nI j)), some (wi (bI (!erl y j i))), some (wi (nI i))] [] V (zi K) := by
        intro k
        induction k with
        | zero =>
          intro i ei
          have : i = j := by omega
          subst this
          have nx : ∀ t : Int32, nI (i - dup y i) + t = nI (i + 1 - dup y (i + 1)) → vwp E d M_X12_different 66 [some (sl 6 0), some (wi (nI (i - dup y i))), some (wi (nI i)), some (wi (bI (!erl y i i))), some (wi (nI i))] [wi t, wi (nI (i - dup y i))] V (zi K) := by
            intro t et
            refine w_X12_different_66 ?_
            rw [et, nI_1]
            exact ih (i + 1) (by omega)
          refine w_X12_different_17 ⟨fun _ => ⟨fun q => nx 0 ?_, fun q => nx 1 ?_⟩, fun q => absurd (nI_le (Nat.le_refl _) (by omega)) q⟩
          · have : erl y i i = true := by cases hb : erl y i i with
              | true => rfl
              | false => rw [hb] at q; exact absurd q (by decide)
            rw [dup, this, if_pos rfl, Int32.add_zero]
            exact congrArg nI (by omega)
          · have : erl y i i = false := by cases hb : erl y i i with
              | false => rfl
              | true => rw [hb] at q; exact absurd rfl q
            rw [dup, this, if_neg (by decide), nI_1]
            exact congrArg nI (by omega)
        | succ k ihk =>
          intro i ei
          have nx : ∀ b : Bool, b = (!erl y j (i + 1)) → vwp E d M_X12_different 49 [some (sl 6 0), some (wi (nI (j - dup y j))), some (wi (nI j)), some (wi (bI (!erl y j i))), some (wi (nI i))] [wi (bI b)] V (zi K) := by
            intro b eb
            subst eb
            refine w_X12_different_49 ?_
            rw [nI_1]
            exact ihk (i + 1) (by omega)
          refine w_X12_different_17 ⟨fun q => absurd q (nI_ge (by omega) (by omega)), fun _ => ⟨fun q => w_X12_different_48 (nx false ?_), fun q => ?_⟩⟩
          · rw [erl]
            cases hb : erl y j i with
            | true => rfl
            | false => rw [hb] at q; exact absurd q (by decide)
          · have hb : erl y j i = false := by cases hb : erl y j i with
              | false => rfl
              | true => rw [hb] at q; exact absurd rfl q
            rw [nI_clamp (show i < 2 ^ 31 by omega), nI_clamp (show j < 2 ^ 31 by omega), hr.2 i (by omega), hr.2 j (by omega)]
            refine ⟨vp_in_nI (by omega) (by decide), vp_in_nI (by omega) (by decide), fun z => w_X12_different_48 (nx false ?_), fun z => nx true ?_⟩
            · rw [erl, decide_eq_true (j_inj.mp z), Bool.or_true]; rfl
            · rw [erl, hb, decide_eq_false (fun w => z (by rw [w]))]; rfl
      exact go2 j 0 (by omega)
  exact w_X12_different_0 (go1 n 0 (by omega))
end
