/-! what is read of a text holds together -/
theorem nmr_hi {T : Nat → TK} {sg : Bool} {lo hi i i1 : Nat} {x : Int32} (hh : hi ≤ 9999) (h : nmr T sg lo hi i = .inr (i1, x)) : Bn hi x ∧ i < i1 ∧ i1 ≤ i + 2 ∧ (T (i1 - 1)).1 = 2 ∧ (sg = false → i1 = i + 1 ∧ ∃ n, x = nI n ∧ lo ≤ n ∧ n ≤ hi) := by
  unfold nmr at h
  have hj : nmj T sg i = i ∨ nmj T sg i = i + 1 ∧ sg = true := by
    unfold nmj
    by_cases c : sg = true ∧ (T i).1 = 45
    · rw [if_pos c]; exact Or.inr ⟨rfl, c.1⟩
    · rw [if_neg c]; exact Or.inl rfl
  generalize nmj T sg i = j at h hj
  by_cases c2 : (T j).1 = 2
  · rw [if_pos c2] at h
    by_cases c3 : (T j).2.2.1 < lo ∨ hi < (T j).2.2.1
    · rw [if_pos c3] at h; exact (ncI h).elim
    · rw [if_neg c3] at h
      have e1 : j + 1 = i1 := congrArg Prod.fst (Sum.inr.inj h)
      have ex : (if j = i then nI (T j).2.2.1 else - nI (T j).2.2.1) = x := congrArg Prod.snd (Sum.inr.inj h)
      have bI9 : (nI (T j).2.2.1).toInt = ((T j).2.2.1 : Int) := Int32.toInt_ofNat_of_lt (by omega)
      refine ⟨?_, by omega, by omega, by rw [← e1]; exact c2, fun z => ?_⟩
      · rw [← ex]
        by_cases c : j = i
        · rw [if_pos c]; exact ⟨by rw [bI9]; omega, by rw [bI9]; omega⟩
        · rw [if_neg c]
          have en : (- nI (T j).2.2.1).toInt = -((T j).2.2.1 : Int) := by rw [Int32.toInt_neg, bI9]; exact Int.bmod_eq_of_le (by omega) (by omega)
          exact ⟨by rw [en]; omega, by rw [en]; omega⟩
      · rcases hj with y | ⟨_, y⟩
        · exact ⟨by omega, (T j).2.2.1, by rw [← ex, if_pos y], by omega, by omega⟩
        · rw [z] at y; exact absurd y (by decide)
  · rw [if_neg c2] at h; exact (ncI h).elim
/-- the body of a rule or an aim -/
def bdy (T : Nat → TK) (F L : Nat) (M : MN) (tag : Nat) (r : SR) : Prop := prz T M F tag 0 0 r.b r.nb = .inr (r.i1, r.C, r.N) ∧ r.nb ≤ r.b ∧ r.b ≤ r.i1 ∧ r.i1 < L
/-- a record that may stand -/
def RwS (T : Nat → TK) (F L : Nat) (M : MN) (r : SR) : Prop :=
  r.kd < 4 ∧ (r.i0 + 1 < L ∧ (T (r.i0 + 1)).1 = 1 ∧ r.key = (T (r.i0 + 1)).2.1 ∧ r.na = (T (r.i0 + 1)).f ∧ r.nl = (T (r.i0 + 1)).e - (T (r.i0 + 1)).f)
  ∧ (r.kd = 0 → ∃ x, r.vs = [x] ∧ Bd x) ∧ (r.kd = 1 → 1 ≤ r.vs.length ∧ r.vs.length ≤ 20 ∧ ∀ x, x ∈ r.vs → Bn 99 x)
  ∧ (r.kd = 2 → ∃ l w, r.vs = [nI l, nI w] ∧ l < 3 ∧ 1 ≤ w ∧ w ≤ 1000 ∧ bdy T F L M 0 r) ∧ (r.kd = 3 → ∃ l, r.vs = [nI l] ∧ 1 ≤ l ∧ l < 3 ∧ bdy T F L M 4 r)
theorem bdy.mo {T : Nat → TK} {F L tag : Nat} {M M' : MN} {r : SR} (h : bdy T F L M tag r) (k : MLe M M') : bdy T F L M' tag r := ⟨prz_mo k _ _ _ _ _ _ _ h.1, h.2⟩
theorem RwS.mo {T : Nat → TK} {F L : Nat} {M M' : MN} {r : SR} (h : RwS T F L M r) (k : MLe M M') : RwS T F L M' r := by
  obtain ⟨h1, h2, h3, h4, h5, h6⟩ := h
  refine ⟨h1, h2, h3, h4, fun z => ?_, fun z => ?_⟩
  · obtain ⟨l, w, a, b, c, e, g⟩ := h5 z
    exact ⟨l, w, a, b, c, e, g.mo k⟩
  · obtain ⟨l, a, b, c, g⟩ := h6 z
    exact ⟨l, a, b, c, g.mo k⟩
/-- how many there may be of a kind -/
def moK (s : Nat) : Nat := if s = 0 then 16 else if s = 1 then 12 else if s = 2 then 24 else 6
/-- the statements before token i -/
def WR (T : Nat → TK) (F L : Nat) (R : List SR) (i : Nat) : Prop :=
  (∀ s, s < 4 → tcR R s ≤ moK s) ∧ UqN (tcR R) (nmR R) ∧ (∀ r, r ∈ R → RwS T F L (MR R) r) ∧ plR R ≤ 20000 ∧ hdR R ≤ 12 ∧ nbR R ≤ i ∧ ubR R ≤ 2 * i ∧ i ≤ L
theorem plR_1 {R : List SR} {r : SR} (h : r.kd = 1) : plR (R ++ [r]) = plR R * r.vs.length := by
  unfold plR
  rw [tcR_same h, Tp_add _ 0 (Nat.le_refl _) (Nat.zero_le _), show szR (R ++ [r]) (tcR R 1) = r.vs.length by unfold szR; rw [gtR_new h]]
  congr 1
  exact Tp_ext (fun v hv => by unfold szR; rw [gtR_old hv]) _ 0 (Nat.le_refl _)
theorem plR_ne {R : List SR} {r : SR} (h : r.kd ≠ 1) : plR (R ++ [r]) = plR R := by
  unfold plR
  rw [tcR_ne h]
  exact Tp_ext (fun v hv => by unfold szR; rw [gtR_old hv]) _ 0 (Nat.le_refl _)
section
variable {T : Nat → TK} {F L : Nat} {R : List SR} {i i' : Nat} {r : SR}
theorem WR.add (h : WR T F L R i) (hr : RwS T F L (MR R) r) (hn : MR R r.key = none) (hm : tcR R r.kd < moK r.kd) (hp : r.kd = 1 → plR R * r.vs.length ≤ 20000) (hh : isH r = true → hdR R < 12) (h1 : nbR R + r.N.length ≤ i') (h2 : ubR R + 2 * r.C.length ≤ 2 * i') (h3 : i' ≤ L) : WR T F L (R ++ [r]) i' := by
  obtain ⟨a1, a2, a3, a4, a5, a6, a7, a8⟩ := h
  have le := MR_le a2 hn
  refine ⟨fun s hs => ?_, MR_uq a2 hn, fun r' hr' => ?_, ?_, ?_, by rw [nbR_add]; exact h1, by rw [ubR_add]; exact h2, h3⟩
  · by_cases c : r.kd = s
    · subst c; rw [tcR_same rfl]; exact hm
    · rw [tcR_ne c]; exact a1 s hs
  · rcases List.mem_append.mp hr' with z | z
    · exact (a3 r' z).mo le
    · rw [List.mem_singleton.mp z]; exact hr.mo le
  · by_cases c : r.kd = 1
    · rw [plR_1 c]; exact hp c
    · rw [plR_ne c]; exact a4
  · rw [hdR_add]
    by_cases c : isH r = true
    · rw [if_pos c]; exact hh c
    · rw [if_neg c]; exact a5
theorem nwn_inr {s most j i1 : Nat} (h : nwn T R s most j = .inr i1) : i1 = j + 1 ∧ (T j).1 = 1 ∧ MR R (T j).2.1 = none ∧ tcR R s < most := by
  unfold nwn at h
  by_cases c : (T j).1 = 1
  · rw [if_pos c] at h
    by_cases c2 : MR R (T j).2.1 = none
    · rw [if_pos c2] at h
      by_cases c3 : most ≤ tcR R s
      · rw [if_pos c3] at h; exact (ncI h).elim
      · rw [if_neg c3] at h
        exact ⟨(Sum.inr.inj h).symm, c, c2, by omega⟩
    · rw [if_neg c2] at h; exact (ncI h).elim
  · rw [if_neg c] at h; exact (ncI h).elim
theorem Bn.bd {x : Int32} {B : Nat} (h : Bn B x) (hB : B ≤ 9999) : Bd x := ⟨by have := h.1; omega, by have := h.2; omega⟩
theorem stF_wr (hT : TL T L) (h : WR T F L R i) (hi : i < L) (e : stF T R i = .inr (i', r)) : WR T F L (R ++ [r]) i' ∧ MR R r.key = none ∧ i < i' ∧ r.i0 = i := by
  unfold stF at e
  obtain ⟨i1, p1, e⟩ := nxB_inr e
  obtain ⟨q1, q2, q3, q4⟩ := nwn_inr p1
  subst q1
  have l1 := hT.c (i := i + 1) hi q2 (by decide) (by decide)
  by_cases c : (T (i + 1 + 1)).1 = 61
  · rw [if_pos c] at e
    obtain ⟨i2, x, p2, e⟩ := nrB_inr e
    have l2 := hT.c (i := i + 1 + 1) l1 c (by decide) (by decide)
    by_cases c2 : (T i2).1 = 59
    · rw [if_pos c2] at e
      have e := Sum.inr.inj e
      have e1 : i2 + 1 = i' := congrArg Prod.fst e
      have e2 : mkS 0 T R i [x] 0 0 0 [] [] = r := congrArg Prod.snd e
      obtain ⟨b1, b2, b3, b4, _⟩ := nmr_hi (Nat.le_refl _) p2
      have f2 := nmr_fit (T := T) (sg := true) (lo := 0) (hi := 9999) hT (i := i + 1 + 1 + 1) (by omega)
      rw [p2] at f2
      have f22 : i2 ≤ L := f2.2.1
      have l3 := hT.c f22 c2 (by decide) (by decide)
      subst e2
      subst e1
      have h6 := h.2.2.2.2.2.1
      have h7 := h.2.2.2.2.2.2.1
      refine ⟨h.add ⟨(by decide : (0 : Nat) < 4), ⟨l1, q2, rfl, rfl, rfl⟩, fun _ => ⟨x, rfl, b1.bd (Nat.le_refl _)⟩, fun z => absurd z (by decide : (0 : Nat) ≠ 1), fun z => absurd z (by decide : (0 : Nat) ≠ 2), fun z => absurd z (by decide : (0 : Nat) ≠ 3)⟩ q3 q4 (fun z => absurd z (by decide : (0 : Nat) ≠ 1)) (fun z => absurd (of_decide_eq_true z).1 (by decide : (0 : Nat) ≠ 2)) ?_ ?_ l3, q3, by omega, rfl⟩
      · show nbR R + 0 ≤ i2 + 1; omega
      · show ubR R + 2 * 0 ≤ 2 * (i2 + 1); omega
    · rw [if_neg c2] at e; exact (ncI e).elim
  · rw [if_neg c] at e; exact (ncI e).elim
theorem lsr_mem {x y z : Int32} {B : Nat} (hB : B ≤ 9999) (hx : Bn B x) (hy : Bn B y) (h : z ∈ lsr x y) : Bn B z := by
  unfold lsr at h
  obtain ⟨k, hk, e⟩ := List.mem_map.mp h
  have hk := List.mem_range.mp hk
  have bx := hx.1
  have by1 := hy.2
  have bk : (nI k).toInt = (k : Int) := Int32.toInt_ofNat_of_lt (by omega)
  have es : (x + nI k).toInt = x.toInt + k := by rw [Int32.toInt_add, bk]; exact Int.bmod_eq_of_le (by omega) (by omega)
  rw [← e]
  exact ⟨by rw [es]; omega, by rw [es]; omega⟩
theorem lsr_len (x y : Int32) : (lsr x y).length = (y.toInt - x.toInt + 1).toNat := by unfold lsr; rw [List.length_map, List.length_range]
theorem vst_ok (hT : TL T L) : ∀ (m : Nat) (A : List Int32) (i i1 : Nat) (vs : List Int32), i ≤ L → (∀ x, x ∈ A → Bn 99 x) → vst T m A i = .inr (i1, vs) → (∀ x, x ∈ vs → Bn 99 x) ∧ 1 ≤ vs.length ∧ i < i1 ∧ i1 ≤ L := by
  intro m
  induction m with
  | zero => intro A i i1 vs _ _ h; exact (ncI h).elim
  | succ m ih =>
    intro A i i1 vs hi hA h
    rw [vst] at h
    obtain ⟨j, x, p, h⟩ := nrB_inr h
    obtain ⟨b1, b2, b3, b4, _⟩ := nmr_hi (by decide) p
    have f2 := nmr_fit (T := T) (sg := true) (lo := 0) (hi := 99) hT hi
    rw [p] at f2
    have jL : j ≤ L := f2.2.1
    have hA' : ∀ y, y ∈ A ++ [x] → Bn 99 y := fun y hy => by
      rcases List.mem_append.mp hy with z | z
      · exact hA y z
      · rw [List.mem_singleton.mp z]; exact b1
    by_cases c : x ∈ A
    · rw [if_pos c] at h; exact (ncI h).elim
    · rw [if_neg c] at h
      by_cases c2 : (T j).1 = 44
      · rw [if_pos c2] at h
        have l := hT.c jL c2 (by decide) (by decide)
        obtain ⟨r1, r2, r3, r4⟩ := ih (A ++ [x]) (j + 1) i1 vs l hA' h
        exact ⟨r1, r2, by omega, r4⟩
      · rw [if_neg c2] at h
        by_cases c3 : (T j).1 = 125
        · rw [if_pos c3] at h
          have l := hT.c jL c3 (by decide) (by decide)
          have e := Sum.inr.inj h
          have e1 : j + 1 = i1 := congrArg Prod.fst e
          have e2 : A ++ [x] = vs := congrArg Prod.snd e
          subst e1; subst e2
          exact ⟨hA', by rw [List.length_append]; exact Nat.le_add_left _ _, by omega, l⟩
        · rw [if_neg c3] at h; exact (ncI h).elim
theorem rng_ok (hT : TL T L) {i1 : Nat} {vs : List Int32} (hi : i ≤ L) (h : rng T i = .inr (i1, vs)) : (∀ x, x ∈ vs → Bn 99 x) ∧ 1 ≤ vs.length ∧ i < i1 ∧ i1 ≤ L := by
  unfold rng at h
  obtain ⟨j, x, p, h⟩ := nrB_inr h
  obtain ⟨b1, b2, b3, b4, _⟩ := nmr_hi (by decide) p
  have f2 := nmr_fit (T := T) (sg := true) (lo := 0) (hi := 99) hT hi
  rw [p] at f2
  have jL : j ≤ L := f2.2.1
  by_cases c : (T j).1 = 202
  · rw [if_pos c] at h
    have l := hT.c jL c (by decide) (by decide)
    obtain ⟨k, y, p2, h⟩ := nrB_inr h
    obtain ⟨d1, d2, d3, d4, _⟩ := nmr_hi (by decide) p2
    have f3 := nmr_fit (T := T) (sg := true) (lo := 0) (hi := 99) hT (i := j + 1) l
    rw [p2] at f3
    have kL : k ≤ L := f3.2.1
    by_cases c2 : y < x
    · rw [if_pos c2] at h; exact (ncI h).elim
    · rw [if_neg c2] at h
      have e := Sum.inr.inj h
      have e1 : k = i1 := congrArg Prod.fst e
      have e2 : lsr x y = vs := congrArg Prod.snd e
      subst e1; subst e2
      have c2' : ¬ y.toInt < x.toInt := fun z => c2 (Int32.lt_iff_toInt_lt.mpr z)
      exact ⟨fun z hz => lsr_mem (by decide) b1 d1 hz, by rw [lsr_len]; omega, by omega, kL⟩
  · rw [if_neg c] at h; exact (ncI h).elim
theorem vls_ok (hT : TL T L) {i1 : Nat} {vs : List Int32} (hi : i ≤ L) (h : vls T i = .inr (i1, vs)) : (∀ x, x ∈ vs → Bn 99 x) ∧ 1 ≤ vs.length ∧ i < i1 ∧ i1 ≤ L := by
  unfold vls at h
  by_cases c : (T i).1 = 123
  · rw [if_pos c] at h
    have l := hT.c hi c (by decide) (by decide)
    obtain ⟨a, b, e, g⟩ := vst_ok hT _ _ _ _ _ l (fun x hx => absurd hx List.not_mem_nil) h
    exact ⟨a, b, by omega, g⟩
  · rw [if_neg c] at h; exact rng_ok hT hi h
theorem stV_wr (hT : TL T L) (h : WR T F L R i) (hi : i < L) (e : stV T R i = .inr (i', r)) : WR T F L (R ++ [r]) i' ∧ MR R r.key = none ∧ i < i' ∧ r.i0 = i := by
  unfold stV at e
  obtain ⟨i1, p1, e⟩ := nxB_inr e
  obtain ⟨q1, q2, q3, q4⟩ := nwn_inr p1
  subst q1
  have l1 := hT.c (i := i + 1) hi q2 (by decide) (by decide)
  by_cases c : (T (i + 1 + 1)).1 = 302
  · rw [if_pos c] at e
    obtain ⟨i2, vs, p2, e⟩ := nrB_inr e
    have l2 := hT.c (i := i + 1 + 1) l1 c (by decide) (by decide)
    obtain ⟨b1, b2, b3, b4⟩ := vls_ok hT (i := i + 1 + 1 + 1) l2 p2
    by_cases c2 : (T i2).1 = 59
    · rw [if_pos c2] at e
      have l3 := hT.c b4 c2 (by decide) (by decide)
      by_cases c3 : 20 < vs.length ∨ 20000 < plR R * vs.length
      · rw [if_pos c3] at e; exact (ncI e).elim
      · rw [if_neg c3] at e
        have e := Sum.inr.inj e
        have e1 : i2 + 1 = i' := congrArg Prod.fst e
        have e2 : mkS 1 T R i vs 0 0 0 [] [] = r := congrArg Prod.snd e
        subst e2; subst e1
        have h6 := h.2.2.2.2.2.1
        have h7 := h.2.2.2.2.2.2.1
        refine ⟨h.add ⟨(by decide : (1 : Nat) < 4), ⟨l1, q2, rfl, rfl, rfl⟩, fun z => absurd z (by decide : (1 : Nat) ≠ 0), fun _ => ⟨b2, by show vs.length ≤ 20; omega, b1⟩, fun z => absurd z (by decide : (1 : Nat) ≠ 2), fun z => absurd z (by decide : (1 : Nat) ≠ 3)⟩ q3 q4 (fun _ => by show plR R * vs.length ≤ 20000; omega) (fun z => absurd (of_decide_eq_true z).1 (by decide : (1 : Nat) ≠ 2)) ?_ ?_ l3, q3, by omega, rfl⟩
        · show nbR R + 0 ≤ i2 + 1; omega
        · show ubR R + 2 * 0 ≤ 2 * (i2 + 1); omega
    · rw [if_neg c2] at e; exact (ncI e).elim
  · rw [if_neg c] at e; exact (ncI e).elim
theorem stB_inr {kd tag i3 : Nat} {vs : List Int32} (hT : TL T L) (ht : tag ≤ 6) (hF : 8 * L + 7 < F) (hi : i3 ≤ L) (e : stB T R F kd tag i vs i3 = .inr (i', r)) : ∃ j C N, i3 < L ∧ prz T (MR R) F tag 0 0 (i3 + 1) (nbR R) = .inr (j, C, N) ∧ (T i3).1 = 58 ∧ (T j).1 = 59 ∧ i' = j + 1 ∧ r = mkS kd T R i vs (i3 + 1) j (svx T (MR R) (i3 + 1) j) C N ∧ i3 + 2 ≤ j ∧ j < L ∧ C.length ≤ j - (i3 + 1) ∧ N.length ≤ j - (i3 + 1) := by
  unfold stB at e
  by_cases c : (T i3).1 = 58
  · rw [if_pos c] at e
    have l1 := hT.c hi c (by decide) (by decide)
    cases w : prz T (MR R) F tag 0 0 (i3 + 1) (nbR R) with
    | inl z => rw [w] at e; exact (ncI e).elim
    | inr q =>
      obtain ⟨j, C, N⟩ := q
      rw [w] at e
      have e : (if (T j).1 = 59 then .inr (j + 1, mkS kd T R i vs (i3 + 1) j (svx T (MR R) (i3 + 1) j) C N) else .inl (rfe T j)) = (.inr (i', r) : NR SR) := e
      have rk := rnk_le tag
      obtain ⟨g1, g2, g3, g4⟩ := prs_ok hT (i := i3 + 1) l1 (Or.inl ht) (by omega) w
      rw [if_pos ht] at g1
      by_cases c2 : (T j).1 = 59
      · rw [if_pos c2] at e
        have l2 := hT.c g2 c2 (by decide) (by decide)
        have e := Sum.inr.inj e
        exact ⟨j, C, N, l1, rfl, c, c2, (congrArg Prod.fst e).symm, (congrArg Prod.snd e).symm, by omega, l2, g3, g4⟩
      · rw [if_neg c2] at e; exact (ncI e).elim
  · rw [if_neg c] at e; exact (ncI e).elim
theorem nI_0' {n : Nat} (hn : n < 3) (h : nI n = 0) : n = 0 := by
  have : n = 0 ∨ n = 1 ∨ n = 2 := by omega
  rcases this with z | z | z
  · exact z
  · subst z; exact absurd h (by decide)
  · subst z; exact absurd h (by decide)
theorem stR_wr (hT : TL T L) (hF : 8 * L + 7 < F) (h : WR T F L R i) (hi : i < L) (e : stR T R F i = .inr (i', r)) : WR T F L (R ++ [r]) i' ∧ MR R r.key = none ∧ i < i' ∧ r.i0 = i := by
  unfold stR at e
  obtain ⟨i1, p1, e⟩ := nxB_inr e
  obtain ⟨q1, q2, q3, q4⟩ := nwn_inr p1
  subst q1
  have l1 := hT.c (i := i + 1) hi q2 (by decide) (by decide)
  by_cases c : (T (i + 1 + 1)).1 = 304
  · rw [if_pos c] at e
    obtain ⟨i2, x, p2, e⟩ := nrB_inr e
    have l2 := hT.c (i := i + 1 + 1) l1 c (by decide) (by decide)
    obtain ⟨b1, b2, b3, b4, b5⟩ := nmr_hi (by decide) p2
    obtain ⟨b6, lv, b7, b8, b9⟩ := b5 rfl
    have f2 := nmr_fit (T := T) (sg := false) (lo := 0) (hi := 2) hT (i := i + 1 + 1 + 1) l2
    rw [p2] at f2
    have f22 : i2 ≤ L := f2.2.1
    by_cases c0 : x = 0 ∧ 12 ≤ hdR R
    · rw [if_pos c0] at e; exact (ncI e).elim
    · rw [if_neg c0] at e
      by_cases c2 : (T i2).1 = 42
      · rw [if_pos c2] at e
        have l3 := hT.c f22 c2 (by decide) (by decide)
        obtain ⟨i3, w, p3, e⟩ := nrB_inr e
        obtain ⟨d1, d2, d3, d4, d5⟩ := nmr_hi (by decide) p3
        obtain ⟨d6, wt, d7, d8, d9⟩ := d5 rfl
        have f3 := nmr_fit (T := T) (sg := false) (lo := 1) (hi := 1000) hT (i := i2 + 1) l3
        rw [p3] at f3
        have f33 : i3 ≤ L := f3.2.1
        obtain ⟨j, C, N, g1, g2, g3, g4, g5, g6, g7, g8, g9, g10⟩ := stB_inr hT (by decide) hF f33 e
        have h6 := h.2.2.2.2.2.1
        have h7 := h.2.2.2.2.2.2.1
        subst g6; subst g5
        refine ⟨h.add ⟨(by decide : (2 : Nat) < 4), ⟨l1, q2, rfl, rfl, rfl⟩, fun z => absurd z (by decide : (2 : Nat) ≠ 0), fun z => absurd z (by decide : (2 : Nat) ≠ 1), fun _ => ⟨lv, wt, by rw [← b7, ← d7]; rfl, by omega, d8, d9, g2, ?_, ?_, g8⟩, fun z => absurd z (by decide : (2 : Nat) ≠ 3)⟩ q3 q4 (fun z => absurd z (by decide : (2 : Nat) ≠ 1)) (fun z => ?_) ?_ ?_ g8, q3, by omega, rfl⟩
        · show nbR R ≤ i3 + 1; omega
        · show i3 + 1 ≤ j; omega
        · have z0 : x = 0 := (of_decide_eq_true z).2
          have : ¬ 12 ≤ hdR R := fun y => c0 ⟨z0, y⟩
          omega
        · show nbR R + N.length ≤ j + 1; omega
        · show ubR R + 2 * C.length ≤ 2 * (j + 1); omega
      · rw [if_neg c2] at e; exact (ncI e).elim
  · rw [if_neg c] at e; exact (ncI e).elim
theorem stA_wr (hT : TL T L) (hF : 8 * L + 7 < F) (h : WR T F L R i) (hi : i < L) (e : stA T R F i = .inr (i', r)) : WR T F L (R ++ [r]) i' ∧ MR R r.key = none ∧ i < i' ∧ r.i0 = i := by
  unfold stA at e
  obtain ⟨i1, p1, e⟩ := nxB_inr e
  obtain ⟨q1, q2, q3, q4⟩ := nwn_inr p1
  subst q1
  have l1 := hT.c (i := i + 1) hi q2 (by decide) (by decide)
  by_cases c : (T (i + 1 + 1)).1 = 304
  · rw [if_pos c] at e
    obtain ⟨i2, x, p2, e⟩ := nrB_inr e
    have l2 := hT.c (i := i + 1 + 1) l1 c (by decide) (by decide)
    obtain ⟨b1, b2, b3, b4, b5⟩ := nmr_hi (by decide) p2
    obtain ⟨b6, lv, b7, b8, b9⟩ := b5 rfl
    have f2 := nmr_fit (T := T) (sg := false) (lo := 1) (hi := 2) hT (i := i + 1 + 1 + 1) l2
    rw [p2] at f2
    have f22 : i2 ≤ L := f2.2.1
    obtain ⟨j, C, N, g1, g2, g3, g4, g5, g6, g7, g8, g9, g10⟩ := stB_inr hT (by decide) hF f22 e
    have h6 := h.2.2.2.2.2.1
    have h7 := h.2.2.2.2.2.2.1
    subst g6; subst g5
    refine ⟨h.add ⟨(by decide : (3 : Nat) < 4), ⟨l1, q2, rfl, rfl, rfl⟩, fun z => absurd z (by decide : (3 : Nat) ≠ 0), fun z => absurd z (by decide : (3 : Nat) ≠ 1), fun z => absurd z (by decide : (3 : Nat) ≠ 2), fun _ => ⟨lv, by rw [← b7]; rfl, b8, by omega, g2, ?_, ?_, g8⟩⟩ q3 q4 (fun z => absurd z (by decide : (3 : Nat) ≠ 1)) (fun z => absurd (of_decide_eq_true z).1 (by decide : (3 : Nat) ≠ 2)) ?_ ?_ g8, q3, by omega, rfl⟩
    · show nbR R ≤ i2 + 1; omega
    · show i2 + 1 ≤ j; omega
    · show nbR R + N.length ≤ j + 1; omega
    · show ubR R + 2 * C.length ≤ 2 * (j + 1); omega
  · rw [if_neg c] at e; exact (ncI e).elim
theorem stm_wr (hT : TL T L) (hF : 8 * L + 7 < F) (h : WR T F L R i) (e : stm T R F i = .inr (i', r)) : WR T F L (R ++ [r]) i' ∧ MR R r.key = none ∧ i < i' ∧ i < L ∧ r.i0 = i := by
  have hi := h.2.2.2.2.2.2.2
  unfold stm at e
  by_cases c0 : (T i).1 = 300
  · rw [if_pos c0] at e
    have l := hT.c hi c0 (by decide) (by decide)
    obtain ⟨a, b, c, z⟩ := stF_wr hT h l e
    exact ⟨a, b, c, l, z⟩
  rw [if_neg c0] at e
  by_cases c1 : (T i).1 = 301
  · rw [if_pos c1] at e
    have l := hT.c hi c1 (by decide) (by decide)
    obtain ⟨a, b, c, z⟩ := stV_wr hT h l e
    exact ⟨a, b, c, l, z⟩
  rw [if_neg c1] at e
  by_cases c2 : (T i).1 = 303
  · rw [if_pos c2] at e
    have l := hT.c hi c2 (by decide) (by decide)
    obtain ⟨a, b, c, z⟩ := stR_wr hT hF h l e
    exact ⟨a, b, c, l, z⟩
  rw [if_neg c2] at e
  by_cases c3 : (T i).1 = 305
  · rw [if_pos c3] at e
    have l := hT.c hi c3 (by decide) (by decide)
    obtain ⟨a, b, c, z⟩ := stA_wr hT hF h l e
    exact ⟨a, b, c, l, z⟩
  rw [if_neg c3] at e
  exact (ncI e).elim
theorem WR_nil : WR T F L [] 0 := ⟨fun s _ => Nat.zero_le _, fun s k s' k' _ _ hk => absurd hk (Nat.not_lt_zero _), fun r hr => absurd hr List.not_mem_nil, (by decide : (1 : Nat) ≤ 20000), Nat.zero_le _, Nat.zero_le _, Nat.zero_le _, Nat.zero_le _⟩
end
