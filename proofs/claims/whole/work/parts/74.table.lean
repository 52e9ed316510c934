/-! the class's table: scores, sets, lists of plans -/
/-- p's scores are less than q's -/
def btr (sc : Nat → Nat → Int64) (p q : Nat) : Bool := if sc p 0 ≠ sc q 0 then decide (sc p 0 < sc q 0) else if sc p 1 ≠ sc q 1 then decide (sc p 1 < sc q 1) else decide (sc p 2 < sc q 2)
def bI (b : Bool) : Int32 := if b = true then 1 else 0
/-- the table of group g holds sets st and scores sc of n plans -/
def Tb (V : VH) (g n : Nat) (st : Nat → Int32) (sc : Nat → Nat → Int64) : Prop := n ≤ vN V g 22 ∧ vN V g 22 ≤ 20000 ∧ vN V g 20 = vN V g 22 ∧ vN V g 21 = 3 * vN V g 22 ∧ ∀ p, p < n → vI V g 22 p = st p ∧ ∀ l, l < 3 → vJ V g 21 (3 * p + l) = sc p l
/-- the list of group g is L -/
def Ls (V : VH) (g : Nat) (L : List Nat) : Prop := vI V g 19 3 = nI L.length ∧ ∀ j, j < L.length → vI V g 20 j = nI (L.getD j 0)
section
variable {E : EE} {d : Nat} {V : VH} {g n : Nat} {st : Nat → Int32} {sc : Nat → Nat → Int64}
theorem Tb.of {V' : VH} (h : Tb V g n st sc) (hn : vN V' = vN V) (h22 : ∀ k, vI V' g 22 k = vI V g 22 k) (h21 : ∀ k, vJ V' g 21 k = vJ V g 21 k) : Tb V' g n st sc := by
  unfold Tb
  rw [hn]
  simp only [h22, h21]
  exact h
theorem Tb.fc {V' : VH} {S : Nat → Nat → Nat → Prop} (h : Tb V g n st sc) (k : Fc V V' S) (q : ∀ i, ¬ S g 22 i ∧ ¬ S g 21 i) : Tb V' g n st sc := h.of k.n (fun j => k.i (q j).1) (fun j => k.j (q j).2)
theorem c_setOf {p : Nat} {K : Int32 → VH → Prop} (hg : PG (vL V) g) (h : Tb V g n st sc) (hp : p < n) (hk : K (st p) V) : vMI E d M_X9_setOf [sl g 19, wi (nI p)] V K := by
  obtain ⟨h1, h2, h3, h4, h5⟩ := h
  refine w_X9_setOf_0 hg ⟨fun q => absurd q (nI_pos (by omega)), fun _ => ⟨fun q => absurd q (nI_ge (by omega) (by omega)), fun _ => ⟨vp_in_nI (by omega) (by omega), ?_⟩⟩⟩
  rw [nI_clamp (by omega), (h5 p hp).1]
  exact hk
theorem c_scoreOf {p l : Nat} {K : Int64 → VH → Prop} (hg : PG (vL V) g) (h : Tb V g n st sc) (hp : p < n) (hl : l < 3) (hk : K (sc p l) V) : vMJ E d M_X9_scoreOf [sl g 19, wi (nI p), wi (nI l)] V K := by
  obtain ⟨h1, h2, h3, h4, h5⟩ := h
  have e : (3 : Int32) * nI p + nI l = nI (3 * p + l) := by rw [show (3 : Int32) = nI 3 from rfl, nI_mul, nI_add]
  refine w_X9_scoreOf_0 hg ?_
  rw [e, h4, nI_clamp (show 3 * p + l < 2 ^ 31 by omega), (h5 p hp).2 l hl]
  exact ⟨fun q => absurd q (nI_pos (by omega)), fun _ => ⟨fun q => absurd q (nI_ge (by omega) (by omega)), fun _ => ⟨vp_in_nI (by omega) (by omega), hk⟩⟩⟩
theorem c_isBetter {p q : Nat} {K : Int32 → VH → Prop} (h0 : 0 < d) (hg : PG (vL V) g) (h : Tb V g n st sc) (hp : p < n) (hq : q < n) (hk : K (bI (btr sc p q)) V) : vMI E d M_X9_isBetter [sl g 19, wi (nI p), wi (nI q)] V K := by
  have step : ∀ l, l < 3 → (sc p l = sc q l → vwp E d M_X9_isBetter 2 [some (sl g 19), some (wi (nI p)), some (wi (nI q)), some (wi (nI (l + 1))), none, none, none, none] [] V (zi K)) → (sc p l ≠ sc q l → K (bI (decide (sc p l < sc q l))) V) → vwp E d M_X9_isBetter 2 [some (sl g 19), some (wi (nI p)), some (wi (nI q)), some (wi (nI l)), none, none, none, none] [] V (zi K) := fun l hl k1 k2 => by
    refine w_X9_isBetter_2 hg h0 ⟨fun z => absurd z (nI_ge (b := 3) hl (by decide)), fun _ => c_scoreOf hg h hp hl (c_scoreOf hg h hq hl ⟨fun e => ?_, fun e => ⟨fun z => ?_, fun z => ?_⟩⟩)⟩
    · rw [nI_1]; exact k1 e
    · have := k2 e
      rw [decide_eq_false (Int64.not_lt.mpr z)] at this
      exact this
    · have := k2 e
      rw [decide_eq_true (Int64.not_le.mp z)] at this
      exact this
  refine w_X9_isBetter_0 hg (step 0 (by decide) (fun e0 => step 1 (by decide) (fun e1 => step 2 (by decide) (fun e2 => ?_) (fun n2 => ?_)) (fun n1 => ?_)) (fun n0 => ?_))
  · refine w_X9_isBetter_2 hg h0 ⟨fun _ => ?_, fun z => absurd (by decide) z⟩
    unfold btr at hk
    rw [if_neg (fun z => z e0), if_neg (fun z => z e1), e2, decide_eq_false (fun z => Int64.lt_irrefl z)] at hk
    exact hk
  · unfold btr at hk
    rw [if_neg (fun z => z e0), if_neg (fun z => z e1)] at hk
    exact hk
  · unfold btr at hk
    rw [if_neg (fun z => z e0), if_pos n1] at hk
    exact hk
  · unfold btr at hk
    rw [if_pos n0] at hk
    exact hk
/-- cells that lists are kept in -/
def lsS (g : Nat) : Nat → Nat → Nat → Prop := fun a f i => a = g ∧ (f = 19 ∧ i = 3 ∨ f = 20)
theorem Ls.nil (h : vI V g 19 3 = nI 0) : Ls V g [] := ⟨h, fun j hj => absurd hj (Nat.not_lt_zero j)⟩
theorem getD_app {L : List Nat} {x j : Nat} (h : j < (L ++ [x]).length) : (L ++ [x]).getD j 0 = if j < L.length then L.getD j 0 else x := by
  rw [List.length_append] at h
  have h : j < L.length + 1 := h
  show ((L ++ [x])[j]?).getD 0 = if j < L.length then (L[j]?).getD 0 else x
  by_cases c : j < L.length
  · rw [if_pos c, List.getElem?_append_left c]
  · have : j = L.length := by omega
    subst this
    rw [if_neg (Nat.lt_irrefl _), List.getElem?_append_right (Nat.le_refl _), Nat.sub_self]
    rfl
/-- one more at the end of the list -/
theorem Ls.push {V1 V2 : VH} {L : List Nat} {p : Nat} (h : Ls V g L) (e1 : V1 = wrI V g 19 3 (nI (L.length + 1))) (e2 : V2 = wrI V1 g 20 L.length (nI p)) : Ls V2 g (L ++ [p]) := by
  refine ⟨?_, fun j hj => ?_⟩
  · rw [e2, wrI_ne (fun z => by omega), e1, List.length_append]; exact wrI_at
  · rw [getD_app hj, e2]
    rw [List.length_append] at hj
    have hj : j < L.length + 1 := hj
    by_cases c : j < L.length
    · rw [if_pos c, wrI_ne (fun z => by omega), e1, wrI_ne (fun z => by omega)]; exact h.2 j c
    · have : j = L.length := by omega
      subst this
      rw [if_neg (Nat.lt_irrefl _)]; exact wrI_at
end
/-- feasible plans among those that agree, in order -/
def gth (A F : Nat → Bool) (b : Nat) : List Nat := fA A (fun L p => if F p = true then L ++ [p] else L) [] b
theorem gth_len (A F : Nat → Bool) : ∀ b, (gth A F b).length ≤ b ∧ ∀ x ∈ gth A F b, x < b ∧ A x = true ∧ F x = true := by
  intro b
  induction b with
  | zero => exact ⟨Nat.le_refl _, fun x hx => absurd hx List.not_mem_nil⟩
  | succ b ih =>
    by_cases c : A b = true
    · have e : gth A F (b + 1) = if F b = true then gth A F b ++ [b] else gth A F b := fA_yes c
      by_cases c2 : F b = true
      · rw [if_pos c2] at e
        rw [e]
        refine ⟨by rw [List.length_append]; exact Nat.succ_le_succ ih.1, fun x hx => ?_⟩
        rcases List.mem_append.mp hx with hx | hx
        · have := ih.2 x hx; exact ⟨by omega, this.2⟩
        · rw [List.mem_singleton.mp hx]; exact ⟨Nat.lt_succ_self b, c, c2⟩
      · rw [if_neg c2] at e
        rw [e]
        exact ⟨by omega, fun x hx => ⟨Nat.lt_succ_of_lt (ih.2 x hx).1, (ih.2 x hx).2⟩⟩
    · have e : gth A F (b + 1) = gth A F b := fA_no c
      rw [e]
      exact ⟨by omega, fun x hx => ⟨Nat.lt_succ_of_lt (ih.2 x hx).1, (ih.2 x hx).2⟩⟩
theorem gth_filter (A F : Nat → Bool) : ∀ b, gth A F b = (List.range b).filter (fun p => A p && F p) := by
  intro b
  induction b with
  | zero => rfl
  | succ b ih =>
    rw [List.range_succ, List.filter_append, ← ih]
    by_cases c : A b = true
    · have e : gth A F (b + 1) = if F b = true then gth A F b ++ [b] else gth A F b := fA_yes c
      rw [e]
      by_cases c2 : F b = true
      · rw [if_pos c2, List.filter_cons_of_pos (by rw [c, c2]; rfl), List.filter_nil]
      · rw [if_neg c2, List.filter_cons_of_neg (by rw [c]; simpa using c2), List.filter_nil, List.append_nil]
    · have e : gth A F (b + 1) = gth A F b := fA_no c
      rw [e, List.filter_cons_of_neg (by simp [c]), List.filter_nil, List.append_nil]
section
variable {E : EE} {d : Nat} {V : VH} {g nv : Nat} {sz : Nat → Nat} {vl : Nat → Nat → Int32} {st : Nat → Int32} {sc : Nat → Nat → Int64}
/-- a plan that breaks no hard rule -/
def fea (st : Nat → Int32) (hd : Int32) (p : Nat) : Bool := decide (st p &&& hd = 0)
def cuI (c : Option Nat) : Int32 := match c with
  | some p => nI p
  | none => -1
theorem c_gather {x : Int32} {h : Nat} {K : Int32 → VH → Prop} (h0 : 1 < d) (hS : Sp V g nv sz vl) (hT : Tb V g (Tp sz nv 0) st sc) (hh : vI V g 0 8 = nI h) (hl : h < Tp sz nv 0)
    (hk : ∀ V', Fc V V' (lsS g) → Ls V' g (gth (agr sz nv (tst x) h) (fea st (vI V g 9 0)) (Tp sz nv 0)) → K (nI (gth (agr sz nv (tst x) h) (fea st (vI V g 9 0)) (Tp sz nv 0)).length) V') : vMI E d M_X9_gather [sl g 19, sl g 0, wi x] V K := by
  have hg := hS.1
  have t0 := hS.2.2.2.2.1
  refine w_X9_gather_0 hg (by omega) (fun V1 e1 => ?_)
  have f1 : Fc V V1 (lsS g) := by rw [e1]; exact Fc_wrI ⟨rfl, Or.inl ⟨rfl, rfl⟩⟩
  have k1 : vI V1 g 0 8 = nI h := by rw [f1.i (fun z => by obtain ⟨_, z⟩ := z; omega)]; exact hh
  have spq : ∀ {V V' : VH}, Sp V g nv sz vl → Fc V V' (lsS g) → Sp V' g nv sz vl := fun s f => s.fc f (fun f i q z => by obtain ⟨_, z⟩ := z; omega)
  have tbq : ∀ {V V' : VH}, Tb V g (Tp sz nv 0) st sc → Fc V V' (lsS g) → Tb V' g (Tp sz nv 0) st sc := fun s f => s.fc f (fun i => ⟨fun z => by obtain ⟨_, z⟩ := z; omega, fun z => by obtain ⟨_, z⟩ := z; omega⟩)
  have S1 := spq hS f1
  rw [k1]
  refine c_lowest (by omega) S1 hl ?_
  have end_ : ∀ (n : Nat) (p : Int32) (V2 : VH), Fc V V2 (lsS g) → Ls V2 g (gth (agr sz nv (tst x) h) (fea st (vI V g 9 0)) (Tp sz nv 0)) → vwp E d M_X9_gather 98 [some (sl g 19), some (sl g 0), some (wi x), some (wi p), some (wi (nI n))] [] V2 (zi K) := fun n p V2 f2 l2 => by
    have hg2 : PG (vL V2) g := by rw [f2.l]; exact hg
    refine w_X9_gather_98 hg2 ?_
    rw [l2.1]
    exact hk V2 f2 l2
  have hd2 : ∀ {V2 : VH}, Fc V V2 (lsS g) → vI V2 g 9 0 = vI V g 9 0 := fun f => f.i (fun z => by obtain ⟨_, z⟩ := z; omega)
  refine en_loop (fx := tst x) (h := h) (f := fun L p => if fea st (vI V g 9 0) p = true then L ++ [p] else L) (a := []) hS.pos hl (fun c n L => ∀ V2, Fc V V2 (lsS g) → Ls V2 g L → L.length ≤ n → vwp E d M_X9_gather 21 [some (sl g 19), some (sl g 0), some (wi x), some (wi (cuI c)), some (wi (nI n))] [] V2 (zi K)) (fun n V2 f2 l2 _ => ?_) (fun p n L hp hnp ha ih V2 f2 l2 ll => ?_) V1 f1 (Ls.nil (by rw [e1]; exact wrI_at)) (Nat.le_refl _)
  · have hg2 : PG (vL V2) g := by rw [f2.l]; exact hg
    exact w_X9_gather_21 hg2 (by omega) ⟨fun _ => end_ n _ V2 f2 l2, fun _ => ⟨fun _ => end_ n _ V2 f2 l2, fun q => absurd (by decide) q⟩⟩
  · have S2 := spq hS f2
    have T2 := tbq hT f2
    have hg2 := S2.1
    refine w_X9_gather_21 hg2 (by omega) ⟨fun q => absurd q (by rw [S2.2.2.2.1]; exact nI_ge (by omega) (by omega)), fun _ => ⟨fun q => absurd q (nI_pos (by omega)), fun _ => c_setOf hg2 T2 hp ?_⟩⟩
    have foll : ∀ (V3 : VH) (L' : List Nat), L' = (if fea st (vI V g 9 0) p = true then L ++ [p] else L) → Fc V V3 (lsS g) → Ls V3 g L' → L'.length ≤ n + 1 → vwp E d M_X9_gather 82 [some (sl g 19), some (sl g 0), some (wi x), some (wi (nI p)), some (wi (nI n))] [] V3 (zi K) := fun V3 L' eL f3 l3 ll3 => by
      have S3 := spq hS f3
      rw [← eL] at ih
      have ih := ih V3 f3 l3 ll3
      refine w_X9_gather_82 S3.1 (by omega) (c_following (by omega) S3 hp (fun e => ?_) (fun q e => ?_))
      · rw [e] at ih; rw [nI_1]; exact ih
      · rw [e] at ih; rw [nI_1]; exact ih
    rw [hd2 f2]
    refine ⟨fun q => ?_, fun q => ⟨fun q2 => ?_, fun q2 V5 e5 => ?_⟩⟩
    · exact foll V2 L (by rw [if_neg (by unfold fea; rw [decide_eq_false q]; decide)]) f2 l2 (by omega)
    · have c1 := T2.1
      have c2 := T2.2.1
      have c3 := T2.2.2.1
      rw [l2.1] at q2
      have := (nI_leI (by omega) (by omega)).mp q2
      omega
    · have c1 := T2.1
      have c2 := T2.2.1
      have c3 := T2.2.2.1
      rw [l2.1, nI_1] at e5
      have n5 : vN V5 g 20 = vN V2 g 20 := by rw [e5]; rfl
      rw [l2.1, n5, nI_clamp (show L.length < 2 ^ 31 by omega)]
      refine ⟨vp_in_nI (by omega) (by omega), fun V7 e7 => ?_⟩
      have f7 : Fc V2 V7 (lsS g) := by rw [e7, e5]; exact (Fc_wrI ⟨rfl, Or.inl ⟨rfl, rfl⟩⟩).trans (Fc_wrI ⟨rfl, Or.inr rfl⟩)
      refine foll V7 (L ++ [p]) (by rw [if_pos (by unfold fea; exact decide_eq_true q)]) (f2.trans f7) (l2.push e5 e7) ?_
      rw [List.length_append]; exact Nat.succ_le_succ ll
/-- the first of the best -/
def bst (sc : Nat → Nat → Int64) (L : List Nat) : Nat := L.tail.foldl (fun b x => if btr sc x b = true then x else b) (L.getD 0 0)
/-- the best -/
def bsts (sc : Nat → Nat → Int64) (L : List Nat) : List Nat := L.filter (fun x => !btr sc (bst sc L) x)
/-- a list that is sifted in its place, up to entry j -/
def Sft (V : VH) (g : Nat) (L : List Nat) (P : Nat → Bool) (j : Nat) : Prop := (∀ i, i < ((L.take j).filter P).length → vI V g 20 i = nI (((L.take j).filter P).getD i 0)) ∧ ∀ i, j ≤ i → i < L.length → vI V g 20 i = nI (L.getD i 0)
theorem take1 {L : List Nat} {j : Nat} (h : j < L.length) : L.take (j + 1) = L.take j ++ [L.getD j 0] := by
  rw [List.take_succ]
  congr 1
  show L[j]?.toList = [(L[j]?).getD 0]
  rw [List.getElem?_eq_getElem h]
  rfl
theorem sft_len {L : List Nat} {P : Nat → Bool} {j : Nat} : ((L.take j).filter P).length ≤ j := Nat.le_trans (List.length_filter_le _ _) (by rw [List.length_take]; omega)
theorem Sft.no {L : List Nat} {P : Nat → Bool} {j : Nat} (h : Sft V g L P j) (hj : j < L.length) (hp : ¬ P (L.getD j 0) = true) : Sft V g L P (j + 1) ∧ ((L.take (j + 1)).filter P).length = ((L.take j).filter P).length := by
  have e : (L.take (j + 1)).filter P = (L.take j).filter P := by rw [take1 hj, List.filter_append, List.filter_cons_of_neg hp, List.filter_nil, List.append_nil]
  unfold Sft
  rw [e]
  exact ⟨⟨h.1, fun i h1 h2 => h.2 i (by omega) h2⟩, rfl⟩
theorem Sft.yes {V1 : VH} {L : List Nat} {P : Nat → Bool} {j : Nat} (h : Sft V g L P j) (hj : j < L.length) (hp : P (L.getD j 0) = true) (e1 : V1 = wrI V g 20 ((L.take j).filter P).length (nI (L.getD j 0))) : Sft V1 g L P (j + 1) ∧ ((L.take (j + 1)).filter P).length = ((L.take j).filter P).length + 1 := by
  have e : (L.take (j + 1)).filter P = (L.take j).filter P ++ [L.getD j 0] := by rw [take1 hj, List.filter_append, List.filter_cons_of_pos hp, List.filter_nil]
  have hl := sft_len (L := L) (P := P) (j := j)
  unfold Sft
  rw [e]
  refine ⟨⟨fun i hi => ?_, fun i h1 h2 => ?_⟩, by rw [List.length_append]; rfl⟩
  · rw [getD_app hi, e1]
    rw [List.length_append] at hi
    have hi : i < ((L.take j).filter P).length + 1 := hi
    by_cases c : i < ((L.take j).filter P).length
    · rw [if_pos c, wrI_ne (fun z => by omega)]; exact h.1 i c
    · rw [if_neg c, show i = ((L.take j).filter P).length from by omega]; exact wrI_at
  · rw [e1, wrI_ne (fun z => by omega)]; exact h.2 i (by omega) h2
theorem Sft.start {L : List Nat} {P : Nat → Bool} (h : Ls V g L) : Sft V g L P 0 := ⟨fun i hi => absurd hi (by rw [List.take_zero, List.filter_nil]; exact Nat.not_lt_zero i), fun i _ h2 => h.2 i h2⟩
theorem Sft.end_ {V1 : VH} {L : List Nat} {P : Nat → Bool} {j : Nat} (h : Sft V g L P j) (hj : L.length ≤ j) (e1 : V1 = wrI V g 19 3 (nI ((L.take j).filter P).length)) : Ls V1 g (L.filter P) := by
  have e : L.take j = L := List.take_of_length_le hj
  rw [e] at e1
  have h1 := h.1
  rw [e] at h1
  refine ⟨by rw [e1]; exact wrI_at, fun i hi => ?_⟩
  rw [e1, wrI_ne (fun z => by omega)]
  exact h1 i hi
theorem c_keepBest {n : Nat} {L : List Nat} {K : Int32 → VH → Prop} (h0 : 1 < d) (hg : PG (vL V) g) (hT : Tb V g n st sc) (hL : Ls V g L) (hn : ∀ x ∈ L, x < n) (hlen : L.length ≤ n) (h1 : L = [] → K 0 V) (hk : L ≠ [] → ∀ V', Fc V V' (lsS g) → Ls V' g (bsts sc L) → K (nI (bsts sc L).length) V') : vMI E d M_X9_keepBest [sl g 19] V K := by
  have t1 := hT.1
  have t2 := hT.2.1
  have t3 := hT.2.2.1
  have mem : ∀ j, j < L.length → L.getD j 0 < n := fun j hj => hn _ (by
    show (L[j]?).getD 0 ∈ L
    rw [List.getElem?_eq_getElem hj]
    exact List.getElem_mem hj)
  refine w_X9_keepBest_0 hg ⟨fun q => ?_, fun q => h1 ?_⟩
  · have hne : L ≠ [] := fun z => q (by rw [hL.1, z]; rfl)
    have hpos : 0 < L.length := List.length_pos_iff.mpr hne
    refine ⟨by unfold vp_in; intro z; rcases z with z | z; exact absurd z (by decide); exact absurd z (by have : Int32.toNatClampNeg 0 = 0 := rfl; omega), ?_⟩
    rw [show vI V g 20 (Int32.toNatClampNeg 0) = nI (L.getD 0 0) from hL.2 0 hpos]
    have sift : ∀ (m j : Nat) (V1 : VH) (b : Nat), b < n → j + m = L.length → Fc V V1 (lsS g) → vI V1 g 19 3 = nI L.length → Sft V1 g L (fun x => !btr sc b x) j → (∀ V', Fc V V' (lsS g) → Ls V' g (L.filter (fun x => !btr sc b x)) → K (nI (L.filter (fun x => !btr sc b x)).length) V') → vwp E d M_X9_keepBest 57 [some (sl g 19), some (wi (nI b)), some (wi (nI ((L.take j).filter (fun x => !btr sc b x)).length)), some (wi (nI j))] [] V1 (zi K) := by
      intro m
      induction m with
      | zero =>
        intro j V1 b hb ej f1 l1 s1 kk
        have hg1 : PG (vL V1) g := by rw [f1.l]; exact hg
        refine w_X9_keepBest_57 hg1 (by omega) ⟨fun _ V2 e2 => ?_, fun z => absurd (by rw [l1]; exact nI_le (by omega) (by omega)) z⟩
        have e : L.take j = L := List.take_of_length_le (by omega)
        have l2 := s1.end_ (by omega) e2
        rw [e]
        exact kk V2 (f1.trans (by rw [e2]; exact Fc_wrI ⟨rfl, Or.inl ⟨rfl, rfl⟩⟩)) l2
      | succ m ih =>
        intro j V1 b hb ej f1 l1 s1 kk
        have hg1 : PG (vL V1) g := by rw [f1.l]; exact hg
        have T1 : Tb V1 g n st sc := hT.fc f1 (fun i => ⟨fun z => by obtain ⟨_, z⟩ := z; omega, fun z => by obtain ⟨_, z⟩ := z; omega⟩)
        have n1 : vN V1 = vN V := f1.n
        have sl := sft_len (L := L) (P := fun x => !btr sc b x) (j := j)
        refine w_X9_keepBest_57 hg1 (by omega) ⟨fun z => absurd z (by rw [l1]; exact nI_ge (by omega) (by omega)), fun _ => ?_⟩
        rw [n1, nI_clamp (show j < 2 ^ 31 by omega), s1.2 j (Nat.le_refl _) (by omega)]
        refine ⟨vp_in_nI (by omega) (by omega), c_isBetter (by omega) hg1 T1 hb (mem j (by omega)) ⟨fun z => ?_, fun z => ?_⟩⟩
        · have hb1 : btr sc b (L.getD j 0) = true := by
            cases c : btr sc b (L.getD j 0)
            · rw [c] at z; exact absurd rfl z
            · rfl
          obtain ⟨s2, e2⟩ := s1.no (by omega) (by rw [hb1]; decide)
          refine w_X9_keepBest_94 hg1 ?_
          rw [nI_1, ← e2]
          exact ih (j + 1) V1 b hb (by omega) f1 l1 s2 kk
        · have hb1 : btr sc b (L.getD j 0) = false := by
            cases c : btr sc b (L.getD j 0)
            · rfl
            · rw [c] at z; exact absurd z (by decide)
          rw [n1, nI_clamp (show ((L.take j).filter (fun x => !btr sc b x)).length < 2 ^ 31 by omega), s1.2 j (Nat.le_refl _) (by omega)]
          refine ⟨vp_in_nI (by omega) (by omega), vp_in_nI (by omega) (by omega), fun V8 e8 => ?_⟩
          obtain ⟨s2, e2⟩ := s1.yes (by omega) (by rw [hb1]; rfl) e8
          have f8 : Fc V1 V8 (lsS g) := by rw [e8]; exact Fc_wrI ⟨rfl, Or.inr rfl⟩
          have hg8 : PG (vL V8) g := by rw [f8.l]; exact hg1
          refine w_X9_keepBest_94 hg8 ?_
          rw [nI_1, nI_1, ← e2]
          exact ih (j + 1) V8 b hb (by omega) (f1.trans f8) (by rw [e8, wrI_ne (fun z => by omega)]; exact l1) s2 kk
    have find : ∀ (m j b : Nat), b < n → j + m = L.length → 1 ≤ j → bst sc L = (L.drop j).foldl (fun b x => if btr sc x b = true then x else b) b → vwp E d M_X9_keepBest 18 [some (sl g 19), some (wi (nI b)), some (wi (nI j)), none] [] V (zi K) := by
      intro m
      induction m with
      | zero =>
        intro j b hb ej _ eb
        rw [List.drop_of_length_le (by omega), List.foldl_nil] at eb
        refine w_X9_keepBest_18 hg (by omega) ⟨fun _ => ?_, fun z => absurd (by rw [hL.1]; exact nI_le (by omega) (by omega)) z⟩
        have := sift L.length 0 V b hb (by omega) Fc.refl hL.1 (Sft.start hL) (fun V' f l => by
          have e : L.filter (fun x => !btr sc b x) = bsts sc L := by unfold bsts; rw [eb]
          rw [e] at l ⊢
          exact hk hne V' f l)
        rw [List.take_zero, List.filter_nil] at this
        exact this
      | succ m ih =>
        intro j b hb ej h1j eb
        have hj : j < L.length := by omega
        have ed : L.drop j = L.getD j 0 :: L.drop (j + 1) := by
          rw [List.drop_eq_getElem_cons hj]
          congr 1
          show L[j] = (L[j]?).getD 0
          rw [List.getElem?_eq_getElem hj]; rfl
        rw [ed, List.foldl_cons] at eb
        refine w_X9_keepBest_18 hg (by omega) ⟨fun z => absurd z (by rw [hL.1]; exact nI_ge hj (by omega)), fun _ => ?_⟩
        rw [nI_clamp (show j < 2 ^ 31 by omega), hL.2 j hj]
        refine ⟨vp_in_nI (by omega) (by omega), c_isBetter (by omega) hg hT (mem j hj) hb ⟨fun z => ?_, fun z => ⟨vp_in_nI (by omega) (by omega), ?_⟩⟩⟩
        · have hb1 : ¬ btr sc (L.getD j 0) b = true := fun c => by rw [c] at z; exact absurd z (by decide)
          rw [if_neg hb1] at eb
          refine w_X9_keepBest_47 hg ?_
          rw [nI_1]
          exact ih (j + 1) b hb (by omega) (by omega) eb
        · have hb1 : btr sc (L.getD j 0) b = true := by
            cases c : btr sc (L.getD j 0) b
            · rw [c] at z; exact absurd rfl z
            · rfl
          rw [if_pos hb1] at eb
          refine w_X9_keepBest_47 hg ?_
          rw [nI_1, hL.2 j hj]
          exact ih (j + 1) (L.getD j 0) (mem j hj) (by omega) (by omega) eb
    refine find (L.length - 1) 1 (L.getD 0 0) (mem 0 hpos) (by omega) (Nat.le_refl _) ?_
    unfold bst
    rw [List.drop_one]
  · rw [hL.1] at q
    have := (nI_eq (b := 0) (by omega) (by decide)).mp q
    exact List.length_eq_zero_iff.mp this
end
