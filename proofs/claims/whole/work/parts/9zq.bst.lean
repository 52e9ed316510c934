/-! lists of plans -/
section
variable {sc : Nat → Nat → Int64}
theorem btr_iff {p q : Nat} : btr sc p q = true ↔ (sc p 0).toInt < (sc q 0).toInt ∨ (sc p 0).toInt = (sc q 0).toInt ∧ ((sc p 1).toInt < (sc q 1).toInt ∨ (sc p 1).toInt = (sc q 1).toInt ∧ (sc p 2).toInt < (sc q 2).toInt) := by
  unfold btr
  by_cases c0 : sc p 0 = sc q 0
  · rw [if_neg (fun z => z c0)]
    have e0 : (sc p 0).toInt = (sc q 0).toInt := by rw [c0]
    by_cases c1 : sc p 1 = sc q 1
    · rw [if_neg (fun z => z c1)]
      have e1 : (sc p 1).toInt = (sc q 1).toInt := by rw [c1]
      rw [decide_eq_true_iff, Int64.lt_iff_toInt_lt]
      omega
    · rw [if_pos c1]
      have e1 : (sc p 1).toInt ≠ (sc q 1).toInt := fun z => c1 (Int64.toInt_inj.mp z)
      rw [decide_eq_true_iff, Int64.lt_iff_toInt_lt]
      omega
  · rw [if_pos c0]
    have e0 : (sc p 0).toInt ≠ (sc q 0).toInt := fun z => c0 (Int64.toInt_inj.mp z)
    rw [decide_eq_true_iff, Int64.lt_iff_toInt_lt]
    omega
theorem btr_irr {p : Nat} : ¬ btr sc p p = true := fun z => by rw [btr_iff] at z; omega
theorem btr_tr {a b c : Nat} (h1 : btr sc a b = true) (h2 : btr sc b c = true) : btr sc a c = true := by rw [btr_iff] at *; omega
theorem btr_nt {a b c : Nat} (h1 : btr sc a b = true) (h2 : ¬ btr sc c b = true) : btr sc a c = true := by rw [btr_iff] at *; omega
theorem bst_go : ∀ (L A B : List Nat) (c : Nat), (∀ x ∈ A, btr sc c x = true) → (∀ x ∈ B, ¬ btr sc x c = true) → ∃ A' B', A ++ c :: B ++ L = A' ++ (L.foldl (fun b x => if btr sc x b = true then x else b) c) :: B' ∧ (∀ x ∈ A', btr sc (L.foldl (fun b x => if btr sc x b = true then x else b) c) x = true) ∧ ∀ x ∈ B', ¬ btr sc x (L.foldl (fun b x => if btr sc x b = true then x else b) c) = true := by
  intro L
  induction L with
  | nil => intro A B c h1 h2; exact ⟨A, B, by rw [List.append_nil]; rfl, h1, h2⟩
  | cons y L ih =>
    intro A B c h1 h2
    rw [List.foldl_cons]
    by_cases u : btr sc y c = true
    · rw [if_pos u]
      have hx' : ∀ x ∈ A ++ c :: B, btr sc y x = true := fun x hx => by
        rcases List.mem_append.mp hx with z | z
        · exact btr_tr u (h1 x z)
        · rcases List.mem_cons.mp z with z | z
          · rw [z]; exact u
          · exact btr_nt u (h2 x z)
      obtain ⟨A', B', e, p1, p2⟩ := ih (A ++ c :: B) [] y hx' (fun x hx => absurd hx (List.not_mem_nil))
      exact ⟨A', B', by rw [← e]; simp, p1, p2⟩
    · rw [if_neg u]
      have hx' : ∀ x ∈ B ++ [y], ¬ btr sc x c = true := fun x hx => by
        rcases List.mem_append.mp hx with z | z
        · exact h2 x z
        · rw [List.mem_singleton.mp z]; exact u
      obtain ⟨A', B', e, p1, p2⟩ := ih A (B ++ [y]) c h1 hx'
      exact ⟨A', B', by rw [← e]; simp, p1, p2⟩
theorem bst_split {L : List Nat} (h : L ≠ []) : ∃ A B, L = A ++ bst sc L :: B ∧ (∀ x ∈ A, btr sc (bst sc L) x = true) ∧ ∀ x ∈ B, ¬ btr sc x (bst sc L) = true := by
  cases L with
  | nil => exact absurd rfl h
  | cons y L =>
    obtain ⟨A, B, e, p1, p2⟩ := bst_go (sc := sc) L [] [] y (fun x hx => absurd hx (List.not_mem_nil)) (fun x hx => absurd hx (List.not_mem_nil))
    exact ⟨A, B, e, p1, p2⟩
theorem bsts_0 {L : List Nat} (h : L ≠ []) : ∃ B, bsts sc L = bst sc L :: B := by
  obtain ⟨A, B, e, p1, p2⟩ := bst_split (sc := sc) h
  refine ⟨B.filter (fun x => !btr sc (bst sc L) x), ?_⟩
  unfold bsts
  generalize bst sc L = c at *
  rw [e, List.filter_append, List.filter_eq_nil_iff.mpr (fun x hx => by rw [p1 x hx]; decide), List.nil_append, List.filter_cons_of_pos]
  rw [Bool.eq_false_iff.mpr (btr_irr (sc := sc) (p := c))]; rfl
theorem bsts_nil : bsts sc [] = [] := rfl
end
/-- how many below n -/
def cnL (P : Nat → Bool) (n : Nat) : Nat := ((List.range n).filter P).length
theorem cnL_s (P : Nat → Bool) (n : Nat) : cnL P (n + 1) = cnL P n + (if P n = true then 1 else 0) := by
  unfold cnL
  rw [List.range_succ, List.filter_append, List.length_append]
  by_cases c : P n = true
  · rw [List.filter_cons_of_pos c, if_pos c, List.filter_nil]; rfl
  · rw [List.filter_cons_of_neg c, if_neg c, List.filter_nil]; rfl
theorem cnL_le (P : Nat → Bool) : ∀ n, cnL P n ≤ n := fun n => Nat.le_trans (List.length_filter_le _ _) (by rw [List.length_range]; exact Nat.le_refl _)
theorem cnL_mono (P : Nat → Bool) {m n : Nat} (h : m ≤ n) : cnL P m ≤ cnL P n := by
  induction n with
  | zero => rw [Nat.le_zero.mp h]; exact Nat.le_refl _
  | succ n ih =>
    by_cases c : m = n + 1
    · rw [c]; exact Nat.le_refl _
    · rw [cnL_s]; have := ih (by omega); omega
theorem flt_at {P : Nat → Bool} {p : Nat} (hP : P p = true) : ∀ n, p < n → ((List.range n).filter P).getD (cnL P p) 0 = p := by
  intro n
  induction n with
  | zero => intro h; exact absurd h (Nat.not_lt_zero p)
  | succ n ih =>
    intro h
    rw [List.range_succ, List.filter_append]
    by_cases c : p = n
    · subst c
      rw [List.filter_cons_of_pos hP, List.filter_nil]
      show (List.filter P (List.range p) ++ [p]).getD (List.filter P (List.range p)).length 0 = p
      rw [List.getD_eq_getElem?_getD, List.getElem?_append_right (Nat.le_refl _), Nat.sub_self]
      rfl
    · have lt : cnL P p < ((List.range n).filter P).length := by
        have a := cnL_mono P (show p + 1 ≤ n by omega)
        rw [cnL_s, if_pos hP] at a
        unfold cnL at a ⊢; omega
      rw [List.getD_eq_getElem?_getD, List.getElem?_append_left lt, ← List.getD_eq_getElem?_getD]
      exact ih (by omega)
/-! the end of a call that looked at problem q -/
/-- cells that a call on problem q may change, but facts, pins, costs -/
def enS (q a f j : Nat) : Prop := a = q + 1 ∧ (f = 0 ∧ j = 8 ∨ f = 9 ∧ j = 13 ∨ f = 17 ∨ f = 18 ∨ f = 27 ∨ f = 28 ∨ f = 30 ∨ f = 31 ∨ f = 19 ∧ 2 < j ∨ f = 20) ∨ a = 6 ∧ (f = 0 ∧ (j = 2 ∨ j = 3 ∨ 37 ≤ j ∧ (j < 89 ∨ 92 < j)) ∨ f = 19 ∧ 12 * q ≤ j ∧ j < 12 * q + 12 ∨ 34 ≤ f ∧ f ≠ 59 ∧ f ≠ 60) ∨ a = 0 ∧ (f = 28 ∧ (j = 10 ∨ j = 11) ∨ 7 ≤ f ∧ f ≤ 22 ∨ f = 27)
section
variable {E : EE} {d : Nat} {V V' : VH} {q B : Nat} {t : Nat → Int32} {n : Nat} {R : List SR} {nt fa : Nat → Int32} {h h' : Nat} {x : Int32} {cs : Nat → Int32}
theorem PbI.en (hI : PbI V q t n R nt fa h x cs) (k : Fc V V' (enS q)) (ch : CchM V' q R nt fa) (hh : vI V' (q + 1) 0 8 = nI h' ∧ h' < plR R) (hm : Hq V' q (tcR R 1) (szR R) h') : PbI V' q t n R nt fa h' x cs := by
  have hq6 : q + 1 ≠ 6 := hI.2.1.1.2.2
  have hq0 : q + 1 ≠ 0 := by omega
  have c : ∀ f j, ¬ (f = 0 ∧ j = 8 ∨ f = 9 ∧ j = 13 ∨ f = 17 ∨ f = 18 ∨ f = 27 ∨ f = 28 ∨ f = 30 ∨ f = 31 ∨ f = 19 ∧ 2 < j ∨ f = 20) → vI V' (q + 1) f j = vI V (q + 1) f j := fun f j z => k.i (fun y => by rcases y with y | y | y; exact z y.2; exact hq6 y.1; exact hq0 y.1)
  have cj : ∀ f j, f = 3 ∨ f = 21 → vJ V' (q + 1) f j = vJ V (q + 1) f j := fun f j z => k.j (fun y => by rcases y with y | y | y; have := y.2; omega; exact hq6 y.1; exact hq0 y.1)
  have m : ∀ f j, 1 ≤ f → f < 34 → f ≠ 19 → vI V' 6 f j = vI V 6 f j := fun f j z1 z2 z3 => k.i (fun y => by rcases y with y | y | y; exact hq6 y.1.symm; have := y.2; omega; exact absurd y.1 (by decide))
  have pc := hI.2.1
  have pm := hI.2.2.1
  have tb : TabC V' (q + 1) R nt fa := by
    rcases hI.2.2.2.2.2.1 with z | ⟨z1, z2⟩
    · exact Or.inl (by rw [c 19 0 (by omega)]; exact z)
    · exact Or.inr ⟨z1.ex (fun f _ => by rw [k.n]) (fun j => c 22 j (by omega)) (fun j => cj 21 j (by omega)), by rw [c 19 1 (by omega)]; exact z2⟩
  refine ⟨hI.1, pc.up (by rw [k.l]) (fun f _ => by rw [k.n]) (fun f j z => c f j (by unfold kpD at z; omega)) (fun j => cj 3 j (by omega)) ⟨fun u hu => by rw [c 23 u (by omega)]; exact hI.bd.1 u hu, hI.bd.2⟩ hh ?_ ?_, pm.up hI.1 (fun f j z l z1 z2 z3 z4 => m f j (by have := z.1; omega) (by omega) z2) ?_ hm ?_ ?_, ⟨by rw [c 0 0 (by omega)]; exact hI.2.2.2.1.1, by rw [m 2 q (by omega) (by omega) (by omega)]; exact hI.2.2.2.1.2⟩, hI.2.2.2.2.1.ex hI.f16 (fun f j z => c f j (by omega)) (fun f j _ z1 z2 => m f j (by omega) (by omega) (by omega)), tb, ch, hI.2.2.2.2.2.2.2⟩
  · rw [c 0 9 (by omega)]; exact pc.2.2.2.2.2.2.2.2.2.1
  · exact fun v hv => by rw [c 24 v (by omega)]; exact pc.2.2.2.2.2.2.2.2.2.2 v hv
  · exact fun u hu => by rw [m 15 _ (by omega) (by omega) (by omega)]; exact pm.2.2.2.2.2.2.2.1 u hu
  · exact fun v hv => by rw [m 21 _ (by omega) (by omega) (by omega)]; exact hI.pq v hv
  · exact fun v hv => by rw [m 20 _ (by omega) (by omega) (by omega)]; exact pm.2.2.2.2.2.2.2.2.2.2 v hv
theorem JS.en (hJ : JS B V) (hq : q < 4) (k : Fc V V' (enS q)) (hb : BdJ V') (he : SeJ V') (hs : StpJ B V') (hc : ∀ q', q' < 4 → q' ≠ q → ¬ vI V' 6 0 62 = nI q') (hp : PbJ V' q) : JS B V' := by
  obtain ⟨a1, a2, ⟨cap, a3⟩, a4, a5, a6, a7, a8, a9⟩ := hJ
  refine ⟨?_, hb, ⟨cap, a3.fc k⟩, he, ?_, a6.fc k (fun g j h1 h2 y => ?_), hs, k.cap a8, fun q' hq' => ?_⟩
  · obtain ⟨n, h1, h2, h3⟩ := a1
    have i0 : ∀ f j, f = 0 ∨ f = 1 → vI V' 0 f j = vI V 0 f j := fun f j z => k.i (fun y => by unfold enS at y; omega)
    have i6 : ∀ f j, f = 1 ∨ f = 0 ∧ j = 1 → vI V' 6 f j = vI V 6 f j := fun f j z => k.i (fun y => by unfold enS at y; omega)
    exact ⟨n, h1.fc2 k (fun y => by unfold enS at y; omega), ⟨by rw [i6 0 1 (by omega)]; exact h2.1, h2.2⟩, fun i hi => by rw [i0 1 i (by omega), i6 1 i (by omega)]; exact h3 i hi⟩
  · obtain ⟨c, m, en, ⟨b1, b2, b3⟩, ⟨c1, c2, c3⟩, ⟨d1, d2, d3, d4⟩, e⟩ := a5
    have i0 : ∀ f j, 23 ≤ f ∧ f ≤ 26 → vI V' 0 f j = vI V 0 f j := fun f j z => k.i (fun y => by unfold enS at y; omega)
    have i6 : ∀ f j, f = 59 ∨ f = 60 ∨ f = 0 ∧ (j = 89 ∨ j = 91 ∨ j = 92) → vI V' 6 f j = vI V 6 f j := fun f j z => k.i (fun y => by unfold enS at y; omega)
    have r25 : vI V' 0 25 = vI V 0 25 := funext fun j => i0 25 j (by omega)
    refine ⟨c, m, en, ⟨by rw [i0 23 1 (by omega)]; exact b1, by rw [i6 0 91 (by omega)]; exact b2, b3⟩, ⟨c1.fc2 k (fun y => by unfold enS at y; omega), ⟨by rw [i6 0 89 (by omega)]; exact c2.1, c2.2⟩, fun i hi => by rw [r25, i6 59 i (by omega)]; exact c3 i hi⟩, ⟨d1, d2, fun i hi => by rw [i0 26 i (by omega), r25]; exact d3 i hi, fun i hi => by rw [i6 60 i (by omega)]; exact d4 i hi⟩, ?_⟩
    rw [i0 23 4 (by omega), i6 0 92 (by omega)]
    exact e
  · unfold enS at y; omega
  · by_cases z : q' = q
    · subst z; exact hp
    · refine (a9 q' hq').fc hq' k (fun a f j y w => ?_) (Or.inr (hc q' hq' z))
      rcases y with ⟨y1, y2⟩ | ⟨y1, y2⟩ | ⟨y1, y2⟩
      · rcases w with w | ⟨w, _⟩ <;> omega
      · rcases w with w | ⟨w, ⟨w1, w2⟩ | w⟩
        · omega
        · omega
        · have w1 := w.1
          have w2 := w.2.1
          by_cases u : f = 19
          · subst u
            have w3 : 12 * q' ≤ j := w.2.2.1
            have w4 : j < 12 * q' + 12 := w.2.2.2
            omega
          · omega
      · rcases w with w | ⟨w, _⟩ <;> omega
theorem BdJ.ex {S : Nat → Nat → Nat → Prop} (h : BdJ V) (k : Fc V V' S) (q1 : ¬ S 0 28 9) (q2 : ¬ S 0 28 10) (q3 : ¬ S 0 28 11) (q4 : ¬ S 6 0 2) (q5 : ¬ S 6 0 3) (q6 : ¬ S 6 0 4) : BdJ V' := ⟨by rw [k.i q1, k.i q6]; exact h.1, by rw [k.j q2, k.j q4]; exact h.2.1, by rw [k.j q3, k.j q5]; exact h.2.2⟩
theorem SeJ.ex {S : Nat → Nat → Nat → Prop} (h : SeJ V) (k : Fc V V' S) (q1 : ∀ j, j < 4 → ¬ S 0 16 j) (q2 : ∀ j, 76 ≤ j → j ≤ 79 → ¬ S 6 0 j) : SeJ V' := by
  unfold SeJ
  rw [k.i (q1 0 (by omega)), k.i (q1 1 (by omega)), k.i (q1 2 (by omega)), k.i (q1 3 (by omega)), k.i (q2 76 (by omega) (by omega)), k.i (q2 77 (by omega) (by omega)), k.i (q2 78 (by omega) (by omega)), k.i (q2 79 (by omega) (by omega))]
  exact h
/-- a call that knows problem q -/
def enK (q a f j : Nat) : Prop := enS q a f j ∧ ¬ (a = 0 ∧ (f = 28 ∨ f = 16)) ∧ ¬ (a = 6 ∧ f = 0 ∧ (j = 2 ∨ j = 3 ∨ 76 ≤ j ∧ j ≤ 79)) 
theorem StpJ.kn (hS : StpJ B V) (hq : q < 4) (e1 : vI V' 6 0 62 = nI q) (e2 : vI V' 6 0 63 = vI V 6 33 q) (e3 : ∀ j, vI V' 6 33 j = vI V 6 33 j) : StpJ B V' := by
  obtain ⟨s, c, a1, a2, a3, a4⟩ := hS
  refine ⟨s, s q, fun u hu => by rw [e3]; exact a1 u hu, by rw [e2]; exact (a1 q (by omega)).1, (a1 q (by omega)).2, fun u hu z => ?_⟩
  rw [e1] at z
  have : q = u := (nI_eq (by omega) (by omega)).mp z
  subst this; exact Nat.le_refl _
theorem JS.ek (hJ : JS B V) (hI : PbI V q t n R nt fa h x cs) (hq : q < 4) (k : Fc V V' (enK q)) (w : WqR V' R nt fa) (e1 : vI V' 6 0 62 = nI q) (e2 : vI V' 6 0 63 = vI V 6 33 q) (hh : vI V' (q + 1) 0 8 = nI h' ∧ h' < plR R) (hm : Hq V' q (tcR R 1) (szR R) h') : JS B V' ∧ PbI V' q t n R nt fa h' x cs := by
  have k' : Fc V V' (enS q) := k.mono (fun a f j y => y.1)
  have hI' := hI.en k' (fun _ _ => w) hh hm
  refine ⟨hJ.en hq k' (hJ.2.1.ex k (fun y => y.2.1 (by omega)) (fun y => y.2.1 (by omega)) (fun y => y.2.1 (by omega)) (fun y => y.2.2 (by omega)) (fun y => y.2.2 (by omega)) (fun y => by have := y.1; unfold enS at this; omega)) (hJ.2.2.2.1.ex k (fun j hj y => y.2.1 (by omega)) (fun j h1 h2 y => y.2.2 (by omega))) (hJ.2.2.2.2.2.2.1.kn hq e1 e2 (fun j => k.i (fun y => by have := y.1; unfold enS at this; omega))) (fun q' h1 h2 z => ?_) (Or.inr ⟨t, n, R, nt, fa, h', x, cs, hI'⟩), hI'⟩
  rw [e1] at z
  exact h2 ((nI_eq (by omega) (by omega)).mp z).symm
/-- the reference knows, behind the class's part -/
theorem know_go {S : Nat → Nat → Nat → Prop} {K : VH → Prop} (h0 : 170 < d) (hI : PbI V q t n R nt fa h x cs) (k : Fc V V' S) (c : ∀ f j, ¬ S 6 f j) (hk : ∀ V2, Fc V' V2 waS → WqR V2 R nt fa → MiQ V2 q t n R fa h x cs → vI V2 6 0 62 = nI q → vI V2 6 0 63 = vI V 6 33 q → K V2) : vMV E d M_X12_know [sl 6 0, wi (nI q)] V' K := by
  have mi := hI.mi.fc hI.1 k (fun f j y => absurd y (c f j))
  refine k_know h0 hI.1 mi hI.bd.2 (hI.2.2.2.2.2.2.1.cl k c) (fun V2 f2 w e1 e2 => hk V2 f2 w (mi.fc hI.1 f2 (fun f j y => ?_)) e1 (by rw [e2, k.i (c _ _)]))
  rcases y with ⟨_, y2⟩ | ⟨_, y2⟩ <;> omega
end
