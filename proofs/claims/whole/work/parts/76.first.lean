/-! the first of the best, both ways -/
theorem fA_foldl {α : Type} {A : Nat → Bool} {f : α → Nat → α} {a : α} : ∀ b, fA A f a b = ((List.range b).filter A).foldl f a := by
  intro b
  induction b with
  | zero => rfl
  | succ b ih =>
    rw [List.range_succ, List.filter_append, List.foldl_append, ← ih]
    by_cases c : A b = true
    · rw [fA_yes c, List.filter_cons_of_pos c, List.filter_nil, List.foldl_cons, List.foldl_nil]
    · rw [fA_no c, List.filter_cons_of_neg c, List.filter_nil, List.foldl_nil]
/-- one more plan for the first of the best -/
def fbs (sc : Nat → Nat → Int64) (b : Option Nat) (p : Nat) : Option Nat := match b with
  | none => some p
  | some q => if btr sc p q = true then some p else some q
theorem fbs_some {sc : Nat → Nat → Int64} : ∀ (L : List Nat) (b : Nat), L.foldl (fbs sc) (some b) = some (L.foldl (fun b x => if btr sc x b = true then x else b) b) := by
  intro L
  induction L with
  | nil => intro b; rfl
  | cons x L ih =>
    intro b
    rw [List.foldl_cons, List.foldl_cons]
    have e : fbs sc (some b) x = some (if btr sc x b = true then x else b) := by
      show (if btr sc x b = true then some x else some b) = _
      split <;> rfl
    rw [e]
    exact ih _
theorem fbs_list {sc : Nat → Nat → Int64} (L : List Nat) : L.foldl (fbs sc) none = if L = [] then none else some (bst sc L) := by
  cases L with
  | nil => rfl
  | cons x L =>
    rw [if_neg (List.cons_ne_nil x L), List.foldl_cons]
    show L.foldl (fbs sc) (some x) = _
    rw [fbs_some]
    rfl
/-- the best of a list are there, if it isn't empty -/
theorem foldl_mem {sc : Nat → Nat → Int64} : ∀ (L : List Nat) (b : Nat), L.foldl (fun b x => if btr sc x b = true then x else b) b ∈ b :: L := by
  intro L
  induction L with
  | nil => intro b; exact List.mem_cons_self
  | cons x L ih =>
    intro b
    rw [List.foldl_cons]
    by_cases c : btr sc x b = true
    · rw [if_pos c]; exact List.mem_cons_of_mem _ (ih x)
    · rw [if_neg c]
      rcases List.mem_cons.mp (ih b) with q | q
      · rw [q]; exact List.mem_cons_self
      · exact List.mem_cons_of_mem _ (List.mem_cons_of_mem _ q)
theorem bst_mem {sc : Nat → Nat → Int64} {L : List Nat} (h : L ≠ []) : bst sc L ∈ L := by
  cases L with
  | nil => exact absurd rfl h
  | cons x L => exact foldl_mem L x
section
variable {E : EE} {d : Nat} {V : VH} {p nv : Nat} {sz : Nat → Nat} {vl : Nat → Nat → Int32} {fx : Nat → Bool} {h : Nat} {sc : Nat → Nat → Int64}
/-- the reference's search for the first of the best, among good plans that W has -/
theorem c_firstBest_go {v k : Int32} {W : Nat → Bool} {K : Int32 → VH → Prop} (h0 : 2 < d) (s : Sq V p nv sz vl) (hh : Hq V p nv sz h) (hp : Pq V p nv fx) (t : Tq V (Tp sz nv 0) sc)
    (hW : v < 0 ∧ (∀ q, W q = true) ∨ ∃ u j, u < nv ∧ v = nI u ∧ j < sz u ∧ k = nI j ∧ ∀ q, W q = decide (Dg sz nv u q = j))
    (hk : K (cuI (fA (fun q => goo sz nv fx h sc q && W q) (fbs sc) none (Tp sz nv 0))) V) : vMI E d M_X12_firstBest [sl 6 0, wi (nI p), wi v, wi k] V K := by
  have hp5 := s.1
  have t0 := s.2.2.2.2.1
  have A := fun q => goo sz nv fx h sc q && W q
  have bound : ∀ b c, fA (fun q => goo sz nv fx h sc q && W q) (fbs sc) none b = some c → c < b := by
    intro b
    induction b with
    | zero => intro c e; rw [fA_zero] at e; exact absurd e (by simp)
    | succ b ih =>
      intro c e
      by_cases z : (goo sz nv fx h sc b && W b) = true
      · rw [fA_yes z] at e
        cases y : fA (fun q => goo sz nv fx h sc q && W q) (fbs sc) none b with
        | none => rw [y] at e; have : b = c := Option.some.inj e; omega
        | some w =>
          rw [y] at e
          have lw := ih w y
          have e : (if btr sc b w = true then some b else some w) = some c := e
          split at e
          · have := Option.some.inj e; omega
          · have := Option.some.inj e; omega
      · rw [fA_no z] at e
        have := ih c e; omega
  have go : ∀ (m q : Nat), q + m = Tp sz nv 0 → vwp E d M_X12_firstBest 6 [some (sl 6 0), some (wi (nI p)), some (wi v), some (wi k), some (wi (cuI (fA (fun q => goo sz nv fx h sc q && W q) (fbs sc) none q))), some (wi (nI q))] [] V (zi K) := by
    intro m
    induction m with
    | zero =>
      intro q eq
      have : q = Tp sz nv 0 := by omega
      subst this
      refine w_X12_firstBest_6 (by omega) ?_
      rw [nI_clamp (show p < 2 ^ 31 by omega), s.2.2.2.1]
      exact ⟨vp_in_nI (by omega) (by decide), fun _ => hk, fun z => absurd (nI_le (Nat.le_refl _) (by omega)) z⟩
    | succ m ih =>
      intro q eq
      have hq : q < Tp sz nv 0 := by omega
      have ih := ih (q + 1) (by omega)
      refine w_X12_firstBest_6 (by omega) ?_
      rw [nI_clamp (show p < 2 ^ 31 by omega), s.2.2.2.1]
      refine ⟨vp_in_nI (by omega) (by decide), fun z => absurd z (nI_ge hq (by omega)), fun _ => c_isGood (by omega) s hh hp t hq ⟨fun z => ?_, fun z => ?_⟩⟩
      · have c : ¬ (goo sz nv fx h sc q && W q) = true := by rw [bI_0.mp z, Bool.false_and]; decide
        rw [fA_no c, ← nI_1] at ih
        exact w_X12_firstBest_63 ih
      · have g1 : goo sz nv fx h sc q = true := by
          cases c : goo sz nv fx h sc q
          · rw [c] at z; exact absurd rfl z
          · rfl
        have take : W q = true → vwp E d M_X12_firstBest 43 [some (sl 6 0), some (wi (nI p)), some (wi v), some (wi k), some (wi (cuI (fA (fun q => goo sz nv fx h sc q && W q) (fbs sc) none q))), some (wi (nI q))] [] V (zi K) := fun w => by
          have c : (goo sz nv fx h sc q && W q) = true := by rw [g1, w]; rfl
          rw [fA_yes c, ← nI_1] at ih
          cases y : fA (fun q => goo sz nv fx h sc q && W q) (fbs sc) none q with
          | none =>
            rw [y] at ih
            exact w_X12_firstBest_43 (by omega) ⟨fun _ => w_X12_firstBest_59 (w_X12_firstBest_63 ih), fun r => absurd (by decide) r⟩
          | some b =>
            rw [y] at ih
            have lb := bound q b y
            refine w_X12_firstBest_43 (by omega) ⟨fun r => absurd r (nI_pos (by omega)), fun _ => c_isBetterM t hq (by omega) ⟨fun r => ?_, fun r => ?_⟩⟩
            · have nb : ¬ btr sc q b = true := by rw [bI_0.mp r]; decide
              have e : fbs sc (some b) q = some b := if_neg nb
              rw [e] at ih
              exact w_X12_firstBest_63 ih
            · have nb : btr sc q b = true := by
                cases c : btr sc q b
                · rw [c] at r; exact absurd rfl r
                · rfl
              have e : fbs sc (some b) q = some q := if_pos nb
              rw [e] at ih
              exact w_X12_firstBest_59 (w_X12_firstBest_63 ih)
        rcases hW with ⟨v0, w⟩ | ⟨u, j, hu, rfl, hj, rfl, w⟩
        · exact ⟨fun _ => take (w q), fun r => absurd v0 r⟩
        · have d1 := Dg_lt s.pos (p := q) hu
          have s20 := (s.2.2.2.2.2 u hu).2.2.1
          have n12 := s.2.2.1
          refine ⟨fun r => absurd r (nI_pos (by omega)), fun _ => c_place s hu (by omega) ⟨fun r => ?_, fun r => ?_⟩⟩
          · have c : ¬ (goo sz nv fx h sc q && W q) = true := by
              have : W q = false := by rw [w q]; exact decide_eq_false (fun y => r (by rw [y]))
              rw [this, Bool.and_false]; decide
            rw [fA_no c, ← nI_1] at ih
            exact w_X12_firstBest_63 ih
          · exact take (by rw [w q]; exact decide_eq_true ((nI_eq (by omega) (by omega)).mp r))
  have := go (Tp sz nv 0) 0 (by omega)
  rw [fA_zero] at this
  exact w_X12_firstBest_0 this
/-- the list of good plans -/
def gds (sz : Nat → Nat) (nv : Nat) (fx : Nat → Bool) (h : Nat) (sc : Nat → Nat → Int64) : List Nat := (List.range (Tp sz nv 0)).filter (goo sz nv fx h sc)
theorem c_firstBest {k : Int32} {K : Int32 → VH → Prop} (h0 : 2 < d) (s : Sq V p nv sz vl) (hh : Hq V p nv sz h) (hp : Pq V p nv fx) (t : Tq V (Tp sz nv 0) sc) (h1 : gds sz nv fx h sc = [] → K (-1) V) (h2 : gds sz nv fx h sc ≠ [] → K (nI (bst sc (gds sz nv fx h sc))) V) : vMI E d M_X12_firstBest [sl 6 0, wi (nI p), wi (-1), wi k] V K := by
  refine c_firstBest_go (W := fun _ => true) h0 s hh hp t (Or.inl ⟨by decide, fun _ => rfl⟩) ?_
  have e : (fun q => goo sz nv fx h sc q && (fun _ : Nat => true) q) = goo sz nv fx h sc := funext fun q => Bool.and_true _
  rw [e, fA_foldl, fbs_list]
  by_cases c : (List.range (Tp sz nv 0)).filter (goo sz nv fx h sc) = []
  · rw [if_pos c]; exact h1 c
  · rw [if_neg c]; exact h2 c
end
