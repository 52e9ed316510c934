/-! values of the reference: factors -/
def pck (v : Int32) : List Int32 → Nat → Int32 → Int32
  | [], _, u => u
  | x :: xs, k, u => pck v xs (k + 1) (if nI k = v then x else u)
theorem pck_out {v : Int32} : ∀ (xs : List Int32) (k : Nat) (u : Int32), (∀ j, j < xs.length → ¬ nI (k + j) = v) → pck v xs k u = u := by
  intro xs
  induction xs with
  | nil => intro k u _; rfl
  | cons x xs ih =>
    intro k u h
    rw [pck, if_neg (show ¬ nI k = v from h 0 (Nat.succ_pos _))]
    exact ih (k + 1) u (fun j hj => by rw [show k + 1 + j = k + (j + 1) by omega]; exact h (j + 1) (Nat.succ_lt_succ hj))
theorem pck_in {j : Nat} : ∀ (xs : List Int32) (k : Nat) (u : Int32), k ≤ j → j < k + xs.length → k + xs.length < 2 ^ 31 → pck (nI j) xs k u = xs.getD (j - k) 0 := by
  intro xs
  induction xs with
  | nil => intro k u h1 h2 _; exact absurd h2 (by show ¬ j < k + 0; omega)
  | cons x xs ih =>
    intro k u h1 h2 h3
    have h2' : j < k + (xs.length + 1) := h2
    have h3' : k + (xs.length + 1) < 2 ^ 31 := h3
    rw [pck]
    by_cases c : k = j
    · subst c
      rw [if_pos rfl, pck_out xs (k + 1) x (fun i hi z => by have := (nI_eq (by omega) (by omega)).mp z; omega), Nat.sub_self]
      rfl
    · rw [if_neg (fun z => c ((nI_eq (by omega) (by omega)).mp z)), ih (k + 1) u (by omega) (by omega) (by omega), show j - k = (j - (k + 1)) + 1 by omega]
      rfl
theorem pck_all {v : Int32} {xs : List Int32} (h : xs.length < 2 ^ 31) : pck v xs 0 0 = if 0 ≤ v ∧ v < nI xs.length then xs.getD v.toNatClampNeg 0 else 0 := by
  by_cases c : 0 ≤ v ∧ v < nI xs.length
  · rw [if_pos c]
    obtain ⟨j, ej, lj⟩ := nI_of_lt c.1 c.2 h
    subst ej
    rw [pck_in xs 0 0 (Nat.zero_le _) (by omega) (by omega), nI_clamp (show j < 2 ^ 31 by omega)]
    rfl
  · rw [if_neg c]
    refine pck_out xs 0 0 (fun j hj z => c ?_)
    rw [Nat.zero_add] at z
    rw [← z]
    exact ⟨nI_le (a := 0) (Nat.zero_le _) (by omega), nI_lt hj h⟩
theorem pck_b {P : Int32 → Prop} {v : Int32} : ∀ (xs : List Int32) (k : Nat) (u : Int32), (∀ x, x ∈ xs → P x) → P u → P (pck v xs k u) := by
  intro xs
  induction xs with
  | nil => intro k u _ h; exact h
  | cons x xs ih =>
    intro k u h hu
    rw [pck]
    refine ih (k + 1) _ (fun y hy => h y (List.mem_cons_of_mem _ hy)) ?_
    by_cases c : nI k = v
    · rw [if_pos c]; exact h x List.mem_cons_self
    · rw [if_neg c]; exact hu
theorem nmr_b {T : Nat → TK} {sg : Bool} {lo hi i i1 : Nat} {x : Int32} (hT : ∀ j, (T j).1 = 2 → (T j).2.2.1 ≤ 9999) (h : nmr T sg lo hi i = .inr (i1, x)) : Bn 9999 x := by
  unfold nmr at h
  by_cases c2 : (T (nmj T sg i)).1 = 2
  · rw [if_pos c2] at h
    by_cases c3 : (T (nmj T sg i)).2.2.1 < lo ∨ hi < (T (nmj T sg i)).2.2.1
    · rw [if_pos c3] at h; exact nomatch h
    · rw [if_neg c3] at h
      have ex : (if nmj T sg i = i then nI (T (nmj T sg i)).2.2.1 else - nI (T (nmj T sg i)).2.2.1) = x := congrArg Prod.snd (Sum.inr.inj h)
      have b9 := hT _ c2
      have bI9 : (nI (T (nmj T sg i)).2.2.1).toInt = ((T (nmj T sg i)).2.2.1 : Int) := Int32.toInt_ofNat_of_lt (by omega)
      rw [← ex]
      by_cases c : nmj T sg i = i
      · rw [if_pos c]; exact ⟨by rw [bI9]; omega, by rw [bI9]; omega⟩
      · rw [if_neg c]
        have en : (- nI (T (nmj T sg i)).2.2.1).toInt = -((T (nmj T sg i)).2.2.1 : Int) := by rw [Int32.toInt_neg, bI9]; exact Int.bmod_eq_of_le (by omega) (by omega)
        exact ⟨by rw [en]; omega, by rw [en]; omega⟩
  · rw [if_neg c2] at h; exact nomatch h
theorem nls_b {T : Nat → TK} {sg : Bool} {top : Nat} (hT : ∀ j, (T j).1 = 2 → (T j).2.2.1 ≤ 9999) : ∀ (m i i1 : Nat) (xs : List Int32), nls T sg top m i = .inr (i1, xs) → xs.length ≤ m ∧ ∀ x, x ∈ xs → Bn 9999 x := by
  intro m
  induction m with
  | zero =>
    intro i i1 xs h
    have ex : ([] : List Int32) = xs := congrArg Prod.snd (Sum.inr.inj (show (Sum.inr (i, []) : NR (List Int32)) = Sum.inr (i1, xs) from h))
    subst ex
    exact ⟨Nat.le_refl 0, fun x hx => nomatch hx⟩
  | succ m ih =>
    intro i i1 xs h
    rw [nls] at h
    obtain ⟨j1, x, p1, h⟩ := nrB_inr h
    have bx := nmr_b hT p1
    by_cases c : m = 0 ∨ (T j1).1 ≠ 44
    · rw [if_pos c] at h
      have ex : [x] = xs := congrArg Prod.snd (Sum.inr.inj h)
      subst ex
      exact ⟨by show 1 ≤ m + 1; omega, fun y hy => by rw [List.mem_singleton.mp hy]; exact bx⟩
    · rw [if_neg c] at h
      obtain ⟨j2, ys, p2, h⟩ := nrB_inr h
      have ex : x :: ys = xs := congrArg Prod.snd (Sum.inr.inj h)
      subst ex
      obtain ⟨l1, b1⟩ := ih _ _ _ p2
      refine ⟨by show ys.length + 1 ≤ m + 1; omega, fun y hy => ?_⟩
      rcases List.mem_cons.mp hy with z | z
      · rw [z]; exact bx
      · exact b1 y z
section
variable {E : EE} {p : Nat} {T : Nat → TK} {M : MN} {L nf nv : Nat} {fa se nt : Nat → Int32} {f o : Nat}
theorem ev_pick {d : Nat} {c v : Int32} {K : Int64 → VH → Prop} (h0 : 1 < d) (hT : TL T L) (hg : EG T M nf nv fa se) : ∀ (m j k i2 : Nat) (u : Int32) (xs : List Int32) (V : VH), nls T true 9999 (m + 1) (j + 1) = .inr (i2, xs) → (T i2).1 = 41 → ¬ (T j).1 = 41 → j < L → i2 < L → k + m < 2 ^ 20 → EM V p T M 0 L fa se → EA V p j → (∀ V', Fc V V' evS → EA V' p i2 → vwp E d M_X12_factorValue 297 [some (sl 6 0), some (wi c), some (wj (Int32.toInt64 (pck v xs k u))), none, none, none, none, none, none, none] [] V' (zj K)) → vwp E d M_X12_factorValue 243 [some (sl 6 0), some (wi c), some (wj (Int32.toInt64 u)), none, some (wj (Int32.toInt64 v)), none, some (wj (Int32.toInt64 (nI k))), none, none, none] [] V (zj K) := by
  intro m
  induction m with
  | zero =>
    intro j k i2 u xs V e c41 cj jL iL hk0 hm ha hk
    rw [nls] at e
    obtain ⟨j1, x, p1, e⟩ := nrB_inr e
    rw [if_pos (Or.inl rfl)] at e
    have e1 : j1 = i2 := congrArg Prod.fst (Sum.inr.inj e)
    have ex : [x] = xs := congrArg Prod.snd (Sum.inr.inj e)
    subst e1; subst ex
    obtain ⟨k1, k2, _⟩ := hm.kd ha (Nat.zero_le _) jL
    refine w_X12_factorValue_243 (by omega) ⟨k1, fun z => absurd ((kq 41 (hg.1 j).1 (by decide)).mp (k2.symm.trans z)) cj, fun _ V2 v2 => ?_⟩
    obtain ⟨a2, f2⟩ := ha.st 1 v2 rfl
    refine ev_int hg (hm.fc f2) a2 (Nat.zero_le _) (by omega) rfl p1 (fun V3 f3 a3 bx => ?_)
    have en : Int32.toInt64 (nI k) + 1 = Int32.toInt64 (nI (k + 1)) := by
      rw [i2l_nI (by omega), i2l_nI (by omega)]
      exact (Int64.ofNat_add k 1).symm
    have fin : ∀ y : Int32, y = (if nI k = v then x else u) → vwp E d M_X12_factorValue 287 [some (sl 6 0), some (wi c), some (wj (Int32.toInt64 u)), none, some (wj (Int32.toInt64 v)), none, some (wj (Int32.toInt64 (nI k))), none, some (wj (Int32.toInt64 x)), none] [wj (Int32.toInt64 y)] V3 (zj K) := by
      intro y ey
      refine w_X12_factorValue_287 ?_
      obtain ⟨m1, m2, _⟩ := ((hm.fc f2).fc f3).kd a3 (Nat.zero_le _) iL
      refine w_X12_factorValue_243 (by omega) ⟨m1, fun _ => ?_, fun z => absurd (by rw [m2, c41]; rfl) z⟩
      have kk := hk V3 (f2.trans f3) a3
      rw [pck, pck, ← ey] at kk
      exact kk
    exact ⟨fun z => fin u (by rw [if_neg (fun y => z (by rw [y]))]), fun z => fin x (by rw [if_pos (j_inj.mp z)])⟩
  | succ m ih =>
    intro j k i2 u xs V e c41 cj jL iL hk0 hm ha hk
    rw [nls] at e
    obtain ⟨j1, x, p1, e⟩ := nrB_inr e
    obtain ⟨k1, k2, _⟩ := hm.kd ha (Nat.zero_le _) jL
    have ft := nmr_fit (sg := true) (lo := 0) (hi := 9999) hT (show j + 1 ≤ L by omega)
    rw [p1] at ft
    have ft1 : j1 ≤ L := ft.2.1
    refine w_X12_factorValue_243 (by omega) ⟨k1, fun z => absurd ((kq 41 (hg.1 j).1 (by decide)).mp (k2.symm.trans z)) cj, fun _ V2 v2 => ?_⟩
    obtain ⟨a2, f2⟩ := ha.st 1 v2 rfl
    refine ev_int hg (hm.fc f2) a2 (Nat.zero_le _) ft1 rfl p1 (fun V3 f3 a3 bx => ?_)
    have en : Int32.toInt64 (nI k) + 1 = Int32.toInt64 (nI (k + 1)) := by
      rw [i2l_nI (by omega), i2l_nI (by omega)]
      exact (Int64.ofNat_add k 1).symm
    have fin : ∀ y : Int32, y = (if nI k = v then x else u) → vwp E d M_X12_factorValue 287 [some (sl 6 0), some (wi c), some (wj (Int32.toInt64 u)), none, some (wj (Int32.toInt64 v)), none, some (wj (Int32.toInt64 (nI k))), none, some (wj (Int32.toInt64 x)), none] [wj (Int32.toInt64 y)] V3 (zj K) := by
      intro y ey
      refine w_X12_factorValue_287 ?_
      by_cases cc : m + 1 = 0 ∨ (T j1).1 ≠ 44
      · rw [if_pos cc] at e
        have e1 : j1 = i2 := congrArg Prod.fst (Sum.inr.inj e)
        have ex : [x] = xs := congrArg Prod.snd (Sum.inr.inj e)
        subst e1; subst ex
        obtain ⟨m1, m2, _⟩ := ((hm.fc f2).fc f3).kd a3 (Nat.zero_le _) iL
        refine w_X12_factorValue_243 (by omega) ⟨m1, fun _ => ?_, fun z => absurd (by rw [m2, c41]; rfl) z⟩
        have kk := hk V3 (f2.trans f3) a3
        rw [pck, pck, ← ey] at kk
        exact kk
      · rw [if_neg cc] at e
        obtain ⟨j2, ys, p2, e⟩ := nrB_inr e
        have e1 : j2 = i2 := congrArg Prod.fst (Sum.inr.inj e)
        have ex : x :: ys = xs := congrArg Prod.snd (Sum.inr.inj e)
        subst e1; subst ex
        have c44 : (T j1).1 = 44 := by
          by_cases z : (T j1).1 = 44
          · exact z
          · exact absurd (Or.inr z) cc
        rw [en]
        refine ih j1 (k + 1) j2 y ys V3 p2 c41 (by rw [c44]; decide) (hT.lt ft1 (by rw [c44]; decide) (by rw [c44]; decide)) iL (by omega) ((hm.fc f2).fc f3) a3 (fun V' f' a' => ?_)
        have kk := hk V' ((f2.trans f3).trans f') a'
        rw [pck, ← ey] at kk
        exact kk
    exact ⟨fun z => fin u (by rw [if_neg (fun y => z (by rw [y]))]), fun z => fin x (by rw [if_pos (j_inj.mp z)])⟩
end
