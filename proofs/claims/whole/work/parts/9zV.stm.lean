/-! how a text is read: statements -/
theorem fsb_all {P : Nat → Bool} : ∀ {n : Nat}, fsb P n = none → ∀ k, k < n → P k = false := by
  intro n
  induction n with
  | zero => intro _ k hk; exact absurd hk (Nat.not_lt_zero k)
  | succ n ih =>
    intro h k hk
    rw [fsb] at h
    cases w : fsb P n with
    | some j => rw [w] at h; cases h
    | none =>
      rw [w] at h
      have h : (if P n = true then some n else none) = none := h
      by_cases c : P n = true
      · rw [if_pos c] at h; cases h
      · by_cases z : k = n
        · subst z; exact Bool.eq_false_iff.mpr c
        · exact ih w k (by omega)
theorem fsb_min {P : Nat → Bool} {k : Nat} : ∀ {n : Nat}, fsb P n = some k → ∀ j, j < k → P j = false := by
  intro n
  induction n with
  | zero => intro h; rw [fsb] at h; cases h
  | succ n ih =>
    intro h j hj
    rw [fsb] at h
    cases w : fsb P n with
    | some i => rw [w] at h; have h : some i = some k := h; rw [h] at w; exact ih w j hj
    | none =>
      rw [w] at h
      have h : (if P n = true then some n else none) = some k := h
      by_cases c : P n = true
      · rw [if_pos c] at h
        have := Option.some.inj h
        subst this
        exact fsb_all w j hj
      · rw [if_neg c] at h; cases h
section
variable {tc tc' : Nat → Nat} {nm nm' : Nat → Nat → Int64} {key : Int64}
theorem lkf_none : ∀ (m s : Nat), s + m = 4 → lkf tc nm key m s = none → ∀ s', s ≤ s' → s' < 4 → ∀ k, k < tc s' → nm s' k ≠ key := by
  intro m
  induction m with
  | zero => intro s e _ s' h1 h2; omega
  | succ m ih =>
    intro s e h s' h1 h2 k hk
    rw [lkf] at h
    cases w : fsb (fun k => decide (nm s k = key)) (tc s) with
    | some j => rw [w] at h; cases h
    | none =>
      rw [w] at h
      by_cases c : s' = s
      · subst c; exact of_decide_eq_false (fsb_all w k hk)
      · exact ih (s + 1) (by omega) h s' (by omega) h2 k hk
theorem lku_none (h : lku tc nm key = none) {s k : Nat} (hs : s < 4) (hk : k < tc s) : nm s k ≠ key := lkf_none 4 0 (by omega) h s (Nat.zero_le _) hs k hk
/-- no name is told twice -/
def UqN (tc : Nat → Nat) (nm : Nat → Nat → Int64) : Prop := ∀ s k s' k', s < 4 → s' < 4 → k < tc s → k' < tc s' → nm s k = nm s' k' → s = s' ∧ k = k'
theorem lku_uq (h : UqN tc nm) {s k : Nat} (hs : s < 4) (hk : k < tc s) (e : nm s k = key) : lku tc nm key = some (s, k) := by
  cases w : lku tc nm key with
  | none => exact absurd e (lku_none w hs hk)
  | some q =>
    obtain ⟨a, b, c⟩ := lku_lt w
    obtain ⟨z1, z2⟩ := h s k q.1 q.2 hs a hk b (e.trans c.symm)
    rw [z1, z2]
theorem UqN.add (h : UqN tc nm) {s0 : Nat} (hn : lku tc nm key = none) (h1 : tc' s0 = tc s0 + 1) (h2 : ∀ s, s ≠ s0 → tc' s = tc s) (h3 : nm' s0 (tc s0) = key) (h4 : ∀ s k, k < tc s → nm' s k = nm s k) : UqN tc' nm' := by
  have b : ∀ s k, k < tc' s → k < tc s ∨ s = s0 ∧ k = tc s0 := fun s k hk => by
    by_cases c : s = s0
    · subst c; rw [h1] at hk
      by_cases z : k < tc s
      · exact Or.inl z
      · exact Or.inr ⟨rfl, by omega⟩
    · rw [h2 s c] at hk; exact Or.inl hk
  intro s k s' k' hs hs' hk hk' e
  rcases b s k hk with z | ⟨z1, z2⟩
  · rcases b s' k' hk' with y | ⟨y1, y2⟩
    · rw [h4 s k z, h4 s' k' y] at e
      exact h s k s' k' hs hs' z y e
    · subst y1; subst y2
      rw [h4 s k z, h3] at e
      exact absurd e (lku_none hn hs z)
  · rcases b s' k' hk' with y | ⟨y1, y2⟩
    · subst z1; subst z2
      rw [h4 s' k' y, h3] at e
      exact absurd e.symm (lku_none hn hs' y)
    · exact ⟨z1.trans y1.symm, z2.trans y2.symm⟩
theorem UqN.le (h : UqN tc' nm') (h2 : ∀ s, tc s ≤ tc' s) (h4 : ∀ s k, k < tc s → nm' s k = nm s k) : MLe (lku tc nm) (lku tc' nm') := fun key q w => by
  obtain ⟨a, b, c⟩ := lku_lt w
  exact lku_uq h a (Nat.lt_of_lt_of_le b (h2 _)) ((h4 _ _ b).trans c)
end
/-- a statement: kind; name's key, place and length; values; first token, body's first and last, notes and steps before; vars seen; steps, notes -/
abbrev SR : Type := Nat × Int64 × (Nat × Nat) × List Int32 × (Nat × Nat × Nat × Nat × Nat) × Int32 × CD × List Int32
def SR.kd (r : SR) : Nat := r.1
def SR.key (r : SR) : Int64 := r.2.1
def SR.na (r : SR) : Nat := r.2.2.1.1
def SR.nl (r : SR) : Nat := r.2.2.1.2
def SR.vs (r : SR) : List Int32 := r.2.2.2.1
def SR.i0 (r : SR) : Nat := r.2.2.2.2.1.1
def SR.b (r : SR) : Nat := r.2.2.2.2.1.2.1
def SR.i1 (r : SR) : Nat := r.2.2.2.2.1.2.2.1
def SR.nb (r : SR) : Nat := r.2.2.2.2.1.2.2.2.1
def SR.ub (r : SR) : Nat := r.2.2.2.2.1.2.2.2.2
def SR.sv (r : SR) : Int32 := r.2.2.2.2.2.1
def SR.C (r : SR) : CD := r.2.2.2.2.2.2.1
def SR.N (r : SR) : List Int32 := r.2.2.2.2.2.2.2
def sr0 : SR := (0, 0, (0, 0), [], (0, 0, 0, 0, 0), 0, [], [])
/-- those of a kind -/
def ofk (R : List SR) (s : Nat) : List SR := R.filter (fun r => decide (r.kd = s))
def tcR (R : List SR) (s : Nat) : Nat := (ofk R s).length
def gtR (R : List SR) (s k : Nat) : SR := (ofk R s).getD k sr0
def nmR (R : List SR) (s k : Nat) : Int64 := (gtR R s k).key
def MR (R : List SR) : MN := lku (tcR R) (nmR R)
def nbR : List SR → Nat
  | [] => 0
  | r :: R => r.N.length + nbR R
def ubR : List SR → Nat
  | [] => 0
  | r :: R => 2 * r.C.length + ubR R
def szR (R : List SR) (v : Nat) : Nat := (gtR R 1 v).vs.length
def vlR (R : List SR) (v k : Nat) : Int32 := (gtR R 1 v).vs.getD k 0
def plR (R : List SR) : Nat := Tp (szR R) (tcR R 1) 0
def fcR (R : List SR) (k : Nat) : Int32 := (gtR R 0 k).vs.getD 0 0
def lvR (R : List SR) (k : Nat) : Int32 := (gtR R 2 k).vs.getD 0 0
def wtR (R : List SR) (k : Nat) : Int32 := (gtR R 2 k).vs.getD 1 0
def alR (R : List SR) (k : Nat) : Int32 := (gtR R 3 k).vs.getD 0 0
def isH (r : SR) : Bool := decide (r.kd = 2 ∧ r.vs.getD 0 0 = 0)
/-- how many hard rules -/
def hdR (R : List SR) : Nat := (R.filter isH).length
section
variable {R : List SR} {r : SR} {s k : Nat}
theorem ofk_same (h : r.kd = s) : ofk (R ++ [r]) s = ofk R s ++ [r] := by
  unfold ofk
  rw [List.filter_append, List.filter_cons_of_pos (by exact decide_eq_true h), List.filter_nil]
theorem ofk_ne (h : r.kd ≠ s) : ofk (R ++ [r]) s = ofk R s := by
  unfold ofk
  rw [List.filter_append, List.filter_cons_of_neg (by exact fun z => h (of_decide_eq_true z)), List.filter_nil, List.append_nil]
theorem tcR_same (h : r.kd = s) : tcR (R ++ [r]) s = tcR R s + 1 := by unfold tcR; rw [ofk_same h, List.length_append]; rfl
theorem tcR_ne (h : r.kd ≠ s) : tcR (R ++ [r]) s = tcR R s := by unfold tcR; rw [ofk_ne h]
theorem tcR_le : tcR R s ≤ tcR (R ++ [r]) s := by
  by_cases c : r.kd = s
  · rw [tcR_same c]; omega
  · rw [tcR_ne c]; exact Nat.le_refl _
theorem gtR_old (h : k < tcR R s) : gtR (R ++ [r]) s k = gtR R s k := by
  unfold gtR
  by_cases c : r.kd = s
  · rw [ofk_same c, getD_appl, if_pos (show k < (ofk R s).length from h)]
  · rw [ofk_ne c]
theorem gtR_new (h : r.kd = s) : gtR (R ++ [r]) s (tcR R s) = r := by
  unfold gtR
  rw [ofk_same h, getD_appl, if_neg (show ¬ tcR R s < (ofk R s).length from Nat.lt_irrefl _), show tcR R s - (ofk R s).length = 0 from Nat.sub_self _]
  rfl
theorem gtR_mem (h : k < tcR R s) : gtR R s k ∈ R ∧ (gtR R s k).kd = s := by
  have m : gtR R s k ∈ ofk R s := by
    unfold gtR
    rw [List.getD_eq_getElem?_getD, List.getElem?_eq_getElem h]
    exact List.getElem_mem _
  have := List.mem_filter.mp m
  exact ⟨this.1, of_decide_eq_true this.2⟩
theorem nmR_old (h : k < tcR R s) : nmR (R ++ [r]) s k = nmR R s k := by unfold nmR; rw [gtR_old h]
theorem nbR_add : nbR (R ++ [r]) = nbR R + r.N.length := by
  induction R with
  | nil => show r.N.length + 0 = 0 + r.N.length; omega
  | cons a R ih => show a.N.length + nbR (R ++ [r]) = a.N.length + nbR R + r.N.length; rw [ih]; omega
theorem ubR_add : ubR (R ++ [r]) = ubR R + 2 * r.C.length := by
  induction R with
  | nil => show 2 * r.C.length + 0 = 0 + 2 * r.C.length; omega
  | cons a R ih => show 2 * a.C.length + ubR (R ++ [r]) = 2 * a.C.length + ubR R + 2 * r.C.length; rw [ih]; omega
theorem hdR_add : hdR (R ++ [r]) = hdR R + (if isH r = true then 1 else 0) := by
  unfold hdR
  rw [List.filter_append, List.length_append]
  by_cases c : isH r = true
  · rw [List.filter_cons_of_pos c, List.filter_nil, if_pos c]; rfl
  · rw [List.filter_cons_of_neg c, List.filter_nil, if_neg c]; rfl
theorem MR_uq (h : UqN (tcR R) (nmR R)) (hn : MR R r.key = none) : UqN (tcR (R ++ [r])) (nmR (R ++ [r])) :=
  h.add (s0 := r.kd) hn (tcR_same rfl) (fun s hs => tcR_ne (Ne.symm hs)) (by unfold nmR; rw [gtR_new rfl]) (fun s k hk => nmR_old hk)
theorem MR_le (h : UqN (tcR R) (nmR R)) (hn : MR R r.key = none) : MLe (MR R) (MR (R ++ [r])) :=
  (MR_uq h hn).le (fun s => tcR_le) (fun s k hk => nmR_old hk)
theorem MR_new (h : UqN (tcR R) (nmR R)) (hn : MR R r.key = none) (h4 : r.kd < 4) : MR (R ++ [r]) r.key = some (r.kd, tcR R r.kd) :=
  lku_uq (MR_uq h hn) h4 (by rw [tcR_same rfl]; omega) (by unfold nmR; rw [gtR_new rfl])
end
theorem Tp_ext {sz sz' : Nat → Nat} {nv : Nat} (h : ∀ v, v < nv → sz v = sz' v) : ∀ (k v : Nat), nv - v ≤ k → Tp sz nv v = Tp sz' nv v := by
  intro k
  induction k with
  | zero => intro v hv; rw [Tp_nv (by omega), Tp_nv (by omega)]
  | succ k ih =>
    intro v hv
    by_cases c : v < nv
    · rw [Tp_lt c, Tp_lt c, h v c, ih (v + 1) (by omega)]
    · rw [Tp_nv (by omega), Tp_nv (by omega)]
theorem Tp_add {sz : Nat → Nat} {nv : Nat} : ∀ (k v : Nat), nv - v ≤ k → v ≤ nv → Tp sz (nv + 1) v = Tp sz nv v * sz nv := by
  intro k
  induction k with
  | zero =>
    intro v hv h
    have : v = nv := by omega
    subst this
    rw [Tp_lt (Nat.lt_succ_self _), Tp_nv (Nat.le_refl _), Tp_nv (Nat.le_refl _), Nat.mul_one, Nat.one_mul]
  | succ k ih =>
    intro v hv h
    by_cases c : v < nv
    · rw [Tp_lt (show v < nv + 1 by omega), Tp_lt c, ih (v + 1) (by omega) c, Nat.mul_assoc]
    · have : v = nv := by omega
      subst this
      rw [Tp_lt (Nat.lt_succ_self _), Tp_nv (Nat.le_refl _), Tp_nv (Nat.le_refl _), Nat.mul_one, Nat.one_mul]
/-- one statement's record -/
def mkS (kd : Nat) (T : Nat → TK) (R : List SR) (i : Nat) (vs : List Int32) (b i1 : Nat) (sv : Int32) (C : CD) (N : List Int32) : SR := (kd, (T (i + 1)).2.1, ((T (i + 1)).f, (T (i + 1)).e - (T (i + 1)).f), vs, (i, b, i1, nbR R, ubR R), sv, C, N)
/-- a name that is new -/
def nwn (T : Nat → TK) (R : List SR) (s most i : Nat) : (Nat × Nat) ⊕ Nat :=
  if (T i).1 = 1 then (if MR R (T i).2.1 = none then (if most ≤ tcR R s then .inl (6, (T i).f) else .inr (i + 1)) else .inl (3, (T i).f)) else .inl (rfe T i)
def nxB {β : Type} (r : (Nat × Nat) ⊕ Nat) (f : Nat → (Nat × Nat) ⊕ β) : (Nat × Nat) ⊕ β := match r with
  | .inl e => .inl e
  | .inr i => f i
theorem nxB_inr {β : Type} {r : (Nat × Nat) ⊕ Nat} {g : Nat → (Nat × Nat) ⊕ β} {q : β} (h : nxB r g = .inr q) : ∃ i, r = .inr i ∧ g i = .inr q := by
  cases r with
  | inl e => exact (ncI h).elim
  | inr i => exact ⟨i, rfl, h⟩
def stF (T : Nat → TK) (R : List SR) (i : Nat) : NR SR :=
  nxB (nwn T R 0 16 (i + 1)) (fun i1 => if (T i1).1 = 61 then nrB (nmr T true 0 9999 (i1 + 1)) (fun i2 x => if (T i2).1 = 59 then .inr (i2 + 1, mkS 0 T R i [x] 0 0 0 [] []) else .inl (rfe T i2)) else .inl (rfe T i1))
/-- all from one value to another -/
def lsr (x y : Int32) : List Int32 := (List.range (y.toInt - x.toInt + 1).toNat).map (fun k => x + nI k)
def rng (T : Nat → TK) (i : Nat) : NR (List Int32) :=
  nrB (nmr T true 0 99 i) (fun i1 x => if (T i1).1 = 202 then nrB (nmr T true 0 99 (i1 + 1)) (fun i2 y => if y < x then .inl (5, (T (i2 - 1)).f) else .inr (i2, lsr x y)) else .inl (rfe T i1))
/-- values in braces, A before -/
def vst (T : Nat → TK) : Nat → List Int32 → Nat → NR (List Int32)
  | 0, _, i => .inl (99, i)
  | m + 1, A, i => nrB (nmr T true 0 99 i) (fun i1 x => if x ∈ A then .inl (5, (T (i1 - 1)).f) else if (T i1).1 = 44 then vst T m (A ++ [x]) (i1 + 1) else if (T i1).1 = 125 then .inr (i1 + 1, A ++ [x]) else .inl (rfe T i1))
def vls (T : Nat → TK) (i : Nat) : NR (List Int32) := if (T i).1 = 123 then vst T 200 [] (i + 1) else rng T i
def stV (T : Nat → TK) (R : List SR) (i : Nat) : NR SR :=
  nxB (nwn T R 1 12 (i + 1)) (fun i1 => if (T i1).1 = 302 then nrB (vls T (i1 + 1)) (fun i2 vs => if (T i2).1 = 59 then (if 20 < vs.length ∨ 20000 < plR R * vs.length then .inl (6, (T (i + 1)).f) else .inr (i2 + 1, mkS 1 T R i vs 0 0 0 [] [])) else .inl (rfe T i2)) else .inl (rfe T i1))
def stB (T : Nat → TK) (R : List SR) (F kd tag i : Nat) (vs : List Int32) (i3 : Nat) : NR SR :=
  if (T i3).1 = 58 then (match prz T (MR R) F tag 0 0 (i3 + 1) (nbR R) with
    | .inl e => .inl e
    | .inr q => if (T q.1).1 = 59 then .inr (q.1 + 1, mkS kd T R i vs (i3 + 1) q.1 (svx T (MR R) (i3 + 1) q.1) q.2.1 q.2.2) else .inl (rfe T q.1)) else .inl (rfe T i3)
def stR (T : Nat → TK) (R : List SR) (F i : Nat) : NR SR :=
  nxB (nwn T R 2 24 (i + 1)) (fun i1 => if (T i1).1 = 304 then nrB (nmr T false 0 2 (i1 + 1)) (fun i2 x => if x = 0 ∧ 12 ≤ hdR R then .inl (6, (T (i2 - 1)).f) else if (T i2).1 = 42 then nrB (nmr T false 1 1000 (i2 + 1)) (fun i3 w => stB T R F 2 0 i [x, w] i3) else .inl (rfe T i2)) else .inl (rfe T i1))
def stA (T : Nat → TK) (R : List SR) (F i : Nat) : NR SR :=
  nxB (nwn T R 3 6 (i + 1)) (fun i1 => if (T i1).1 = 304 then nrB (nmr T false 1 2 (i1 + 1)) (fun i2 x => stB T R F 3 4 i [x] i2) else .inl (rfe T i1))
def stm (T : Nat → TK) (R : List SR) (F i : Nat) : NR SR :=
  if (T i).1 = 300 then stF T R i else if (T i).1 = 301 then stV T R i else if (T i).1 = 303 then stR T R F i else if (T i).1 = 305 then stA T R F i else .inl (rfe T i)
/-- statements to the end -/
def rdl (T : Nat → TK) (F : Nat) : Nat → List SR → Nat → (Nat × Nat) ⊕ (Nat × List SR)
  | 0, _, i => .inl (99, i)
  | m + 1, R, i => if R ≠ [] ∧ (T i).1 = 0 then .inr (i, R) else nrB (stm T R F i) (fun i1 r => rdl T F m (R ++ [r]) i1)
/-- a whole text -/
def rdx (T : Nat → TK) (F m : Nat) : (Nat × Nat) ⊕ (Nat × List SR) := match rdl T F m [] 0 with
  | .inl e => .inl e
  | .inr q => if tcR q.2 1 = 0 ∨ 20000000 < plR q.2 * q.1 then .inl (6, (T q.1).f) else .inr q
