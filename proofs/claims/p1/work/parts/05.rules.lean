/-! rules: constants, locals, stack, arithmetic, branches -/
def isJ : Option AV → Bool
  | some (.inr (.inl _)) => true
  | _ => false
def clL (lv : List (Option AV)) (i : Nat) : List (Option AV) := if isJ (lv[i - 1]?.getD none) && !(i == 0) then lv.set (i - 1) none else lv
def setL (lv : List (Option AV)) (i : Nat) (v : AV) : List (Option AV) := (clL lv i).set i (some v)
def setJ (lv : List (Option AV)) (i : Nat) (x : Int64) : List (Option AV) := ((clL lv i).set i (some (vj x))).set (i + 1) none
def prs (lv : List (Option AV)) : List (Nat × Value) := (List.range lv.length).filterMap (fun i => (lv[i]?.getD none).map (fun v => (i, cv v)))
theorem prs_mem {lv : List (Option AV)} {q : Nat × Value} : q ∈ prs lv ↔ ∃ v, lv[q.1]? = some (some v) ∧ q.2 = cv v := by
  unfold prs
  simp only [List.mem_filterMap, List.mem_range, Option.map_eq_some_iff]
  constructor
  · rintro ⟨i, hi, v, hv, rfl⟩
    refine ⟨v, ?_, rfl⟩
    rw [List.getElem?_eq_getElem hi] at hv ⊢
    simpa using hv
  · rintro ⟨v, hv, he⟩
    refine ⟨q.1, (List.getElem?_eq_some_iff.mp hv).1, v, by rw [hv]; rfl, by rw [← he]⟩
theorem lh.has {ls : Array Slot} {n : Nat} {lv : List (Option AV)} (h : lh ls n lv) : lv_has ls n (prs lv) := ⟨h.1, h.2.1, fun q hq => by
  obtain ⟨v, hv, he⟩ := prs_mem.mp hq
  rw [he]; exact h.2.2 _ _ hv⟩
theorem lh.at {ls : Array Slot} {n : Nat} {lv : List (Option AV)} (h : lh ls n lv) {i : Nat} {v : AV} (hi : lv[i]? = some (some v)) : ls[i]? = some (.val (cv v)) := h.2.2 i v hi
theorem cv_two {v : AV} (h : (cv v).category = 2) : ∃ x, v = vj x := by
  rcases v with x | x | a | b
  · cases h
  · exact ⟨x, rfl⟩
  · exact absurd h (by show ¬ (rv a).category = 2; rw [rv_cat]; decide)
  · cases h
theorem clL_get {lv : List (Option AV)} {i j : Nat} {v : AV} (h : (clL lv i)[j]? = some (some v)) : lv[j]? = some (some v) ∧ ¬ (j + 1 = i ∧ (cv v).category = 2) := by
  unfold clL at h
  split at h
  · rename_i hc
    by_cases hj : j = i - 1
    · subst hj
      rw [List.getElem?_set_self'] at h
      cases hx : lv[i - 1]? with
      | none => rw [hx] at h; simp at h
      | some y => rw [hx] at h; simp at h
    · rw [List.getElem?_set_ne (Ne.symm hj)] at h
      exact ⟨h, fun q => hj (by omega)⟩
  · rename_i hc
    refine ⟨h, fun q => hc ?_⟩
    obtain ⟨x, rfl⟩ := cv_two q.2
    have : i - 1 = j := by omega
    rw [this, h]
    have h0 : (i == 0) = false := by simp; omega
    rw [h0]; rfl
theorem setL_get {lv : List (Option AV)} {i j : Nat} {v w : AV} (h : (setL lv i w)[j]? = some (some v)) : (j = i ∧ v = w) ∨ (j ≠ i ∧ lv[j]? = some (some v) ∧ ¬ (j + 1 = i ∧ (cv v).category = 2)) := by
  unfold setL at h
  by_cases hj : j = i
  · subst hj
    left
    rw [List.getElem?_set_self'] at h
    cases hx : (clL lv j)[j]? with
    | none => rw [hx] at h; simp at h
    | some y => rw [hx] at h; simp at h; exact ⟨rfl, h.symm⟩
  · right
    rw [List.getElem?_set_ne (Ne.symm hj)] at h
    exact ⟨hj, clL_get h⟩
theorem lh.set1 {ls : Array Slot} {n i : Nat} {lv : List (Option AV)} {w : AV} (h : lv_has ls n ((i, cv w) :: (prs lv).filter (fun q => !(q.1 == i) && !(q.1 + 1 == i && q.2.category == 2)))) : lh ls n (setL lv i w) := by
  refine ⟨h.1, h.2.1, fun j v hj => ?_⟩
  rcases setL_get hj with ⟨rfl, rfl⟩ | ⟨h1, h2, h3⟩
  · exact h.2.2 (j, cv v) List.mem_cons_self
  · refine h.2.2 (j, cv v) (List.mem_cons_of_mem _ (List.mem_filter.mpr ⟨prs_mem.mpr ⟨v, h2, rfl⟩, ?_⟩))
    simp only [Bool.and_eq_true, Bool.not_eq_true', beq_eq_false_iff_ne, ne_eq, Bool.and_eq_false_iff]
    refine ⟨h1, ?_⟩
    by_cases q : j + 1 = i
    · exact Or.inr (fun z => h3 ⟨q, z⟩)
    · exact Or.inl q
theorem lh.set2 {ls : Array Slot} {n i : Nat} {lv : List (Option AV)} {x : Int64} (h : lv_has ls n ((i, Value.long x) :: (prs lv).filter (fun q => !(q.1 == i) && (!(q.1 == i + 1) && !(q.1 + 1 == i && q.2.category == 2))))) : lh ls n (setJ lv i x) := by
  refine ⟨h.1, h.2.1, fun j v hj => ?_⟩
  unfold setJ at hj
  by_cases hj1 : j = i + 1
  · subst hj1
    rw [List.getElem?_set_self'] at hj
    cases hx : ((clL lv i).set i (some (vj x)))[i + 1]? with
    | none => rw [hx] at hj; simp at hj
    | some y => rw [hx] at hj; simp at hj
  · rw [List.getElem?_set_ne (Ne.symm hj1)] at hj
    rcases setL_get (w := vj x) (lv := lv) hj with ⟨rfl, rfl⟩ | ⟨h1, h2, h3⟩
    · exact h.2.2 (j, cv (vj x)) List.mem_cons_self
    · refine h.2.2 (j, cv v) (List.mem_cons_of_mem _ (List.mem_filter.mpr ⟨prs_mem.mpr ⟨v, h2, rfl⟩, ?_⟩))
      simp only [Bool.and_eq_true, Bool.not_eq_true', beq_eq_false_iff_ne, ne_eq, Bool.and_eq_false_iff]
      refine ⟨h1, hj1, ?_⟩
      by_cases q : j + 1 = i
      · exact Or.inr (fun z => h3 ⟨q, z⟩)
      · exact Or.inl q
/-- fewer known locals -/
def subL : List (Option AV) → List (Option AV) → Prop
  | [], _ => True
  | none :: r, l => subL r l.tail
  | some v :: r, l => l.head? = some (some v) ∧ subL r l.tail
theorem subL_get : ∀ {a b : List (Option AV)}, subL a b → ∀ (i : Nat) (v : AV), a[i]? = some (some v) → b[i]? = some (some v)
  | [], _, _, i, v, h => by simp at h
  | none :: r, l, hs, i, v, h => by
    cases i with
    | zero => simp at h
    | succ i =>
      have := subL_get (a := r) (b := l.tail) hs i v (by simpa using h)
      rw [List.getElem?_tail] at this; exact this
  | some w :: r, l, hs, i, v, h => by
    cases i with
    | zero =>
      simp at h
      rw [← h, ← List.head?_eq_getElem?]; exact hs.1
    | succ i =>
      have := subL_get (a := r) (b := l.tail) hs.2 i v (by simpa using h)
      rw [List.getElem?_tail] at this; exact this
section
variable {E : EE} {d : Nat} {M : MD} {pc : Nat} {lv : List (Option AV)} {st : List AV} {G : AH} {Q : Option AV → AH → Prop}
theorem wp_sub {lv' : List (Option AV)} (h : subL lv' lv) (k : wp E d M pc lv' st G Q) : wp E d M pc lv st G Q :=
  wp_go (fun p e R s m args below meth c H locs ls cells slots Z C hW hS hl kk => kk ls ⟨hl.1, hl.2.1, fun i v hi => hl.2.2 i v (subL_get h i v hi)⟩) k

theorem wp_iconst {n : Int} {v : Int32} (hd : decode M.2.1 pc = .ok (.iconst n, 1)) (hv : Int32.ofInt n = v) (k : wp E d M (pc + 1) lv (vi v :: st) G Q) : wp E d M pc lv st G Q :=
  wp_go (fun p e R s m args below meth c H locs ls cells slots Z C hW hS hl kk => lv_iconst C.1 C.2.1 hd hv (kk ls hl)) k
theorem wp_bipush {n : Int} {v : Int32} (hd : decode M.2.1 pc = .ok (.bipush n, 2)) (hv : (Int8.ofInt n).toInt32 = v) (k : wp E d M (pc + 2) lv (vi v :: st) G Q) : wp E d M pc lv st G Q :=
  wp_go (fun p e R s m args below meth c H locs ls cells slots Z C hW hS hl kk => lv_bipush C.1 C.2.1 hd hv (kk ls hl)) k
theorem wp_sipush {n : Int} {v : Int32} (hd : decode M.2.1 pc = .ok (.sipush n, 3)) (hv : (Int16.ofInt n).toInt32 = v) (k : wp E d M (pc + 3) lv (vi v :: st) G Q) : wp E d M pc lv st G Q :=
  wp_go (fun p e R s m args below meth c H locs ls cells slots Z C hW hS hl kk => lv_sipush C.1 C.2.1 hd hv (kk ls hl)) k
theorem wp_lconst {n : Fin 2} {v : Int64} (hd : decode M.2.1 pc = .ok (.lconst n, 1)) (hv : Int64.ofNat (n : Nat) = v) (k : wp E d M (pc + 1) lv (vj v :: st) G Q) : wp E d M pc lv st G Q :=
  wp_go (fun p e R s m args below meth c H locs ls cells slots Z C hW hS hl kk => lv_lconst C.1 C.2.1 hd hv (kk ls hl)) k
theorem wp_null (hd : decode M.2.1 pc = .ok (.aconst_null, 1)) (k : wp E d M (pc + 1) lv (vr 0 :: st) G Q) : wp E d M pc lv st G Q :=
  wp_go (fun p e R s m args below meth c H locs ls cells slots Z C hW hS hl kk => lv_null C.1 C.2.1 hd (kk ls hl)) k
theorem wp_ldc {i : Nat} {v : Int32} (hd : decode M.2.1 pc = .ok (.ldc i, 2)) (hc : Cond.constant M.1.cls i v ∈ TB) (k : wp E d M (pc + 2) lv (vi v :: st) G Q) : wp E d M pc lv st G Q :=
  wp_go (fun p e R s m args below meth c H locs ls cells slots Z C hW hS hl kk => lv_ldc C.1 C.2.1 C.2.2.2.2.2.1 (C.2.2.2.2.2.2.1 _ hc) hd (kk ls hl)) k
theorem wp_ldc2 {i : Nat} {v : Int64} (hd : decode M.2.1 pc = .ok (.ldc2_w i, 3)) (hc : Cond.constantLong M.1.cls i v ∈ TB) (k : wp E d M (pc + 3) lv (vj v :: st) G Q) : wp E d M pc lv st G Q :=
  wp_go (fun p e R s m args below meth c H locs ls cells slots Z C hW hS hl kk => lv_ldc2 C.1 C.2.1 C.2.2.2.2.2.1 (C.2.2.2.2.2.2.1 _ hc) hd (kk ls hl)) k
theorem wp_iload_n {n : Fin 4} {x : Int32} (hd : decode M.2.1 pc = .ok (.iload_n n, 1)) (hx : lv[(n : Nat)]? = some (some (vi x))) (k : wp E d M (pc + 1) lv (vi x :: st) G Q) : wp E d M pc lv st G Q :=
  wp_go (fun p e R s m args below meth c H locs ls cells slots Z C hW hS hl kk => lv_iload_n C.1 C.2.1 hd rfl (hl.at hx) (kk ls hl)) k
theorem wp_iload {i : Nat} {x : Int32} (hd : decode M.2.1 pc = .ok (.iload i, 2)) (hx : lv[i]? = some (some (vi x))) (k : wp E d M (pc + 2) lv (vi x :: st) G Q) : wp E d M pc lv st G Q :=
  wp_go (fun p e R s m args below meth c H locs ls cells slots Z C hW hS hl kk => lv_iload C.1 C.2.1 hd (hl.at hx) (kk ls hl)) k
theorem wp_lload_n {n : Fin 4} {x : Int64} (hd : decode M.2.1 pc = .ok (.lload_n n, 1)) (hx : lv[(n : Nat)]? = some (some (vj x))) (k : wp E d M (pc + 1) lv (vj x :: st) G Q) : wp E d M pc lv st G Q :=
  wp_go (fun p e R s m args below meth c H locs ls cells slots Z C hW hS hl kk => lv_lload_n C.1 C.2.1 hd rfl (hl.at hx) (kk ls hl)) k
theorem rv_cases (a : Nat) : rv a = .null ∨ rv a = .ref a := by unfold rv; split; exact Or.inl rfl; exact Or.inr rfl
theorem wp_aload_n {n : Fin 4} {a : Nat} (hd : decode M.2.1 pc = .ok (.aload_n n, 1)) (hx : lv[(n : Nat)]? = some (some (vr a))) (k : wp E d M (pc + 1) lv (vr a :: st) G Q) : wp E d M pc lv st G Q := by
  refine wp_go (fun p e R s m args below meth c H locs ls cells slots Z C hW hS hl kk => ?_) k
  have h1 : ls[(n : Nat)]? = some (.val (rv a)) := hl.at hx
  have h2 : W p E.1 e R s m args below meth c H locs cells slots Z (F0 m (pc + 1) ls (rv a :: st.map cv)) := kk ls hl
  rcases rv_cases a with q | q <;> rw [q] at h1 h2
  · exact lv_aload_nN C.1 C.2.1 hd rfl h1 h2
  · exact lv_aload_n C.1 C.2.1 hd rfl h1 h2
theorem wp_aload {i : Nat} {a : Nat} (hd : decode M.2.1 pc = .ok (.aload i, 2)) (hx : lv[i]? = some (some (vr a))) (k : wp E d M (pc + 2) lv (vr a :: st) G Q) : wp E d M pc lv st G Q := by
  refine wp_go (fun p e R s m args below meth c H locs ls cells slots Z C hW hS hl kk => ?_) k
  have h1 : ls[i]? = some (.val (rv a)) := hl.at hx
  have h2 : W p E.1 e R s m args below meth c H locs cells slots Z (F0 m (pc + 2) ls (rv a :: st.map cv)) := kk ls hl
  rcases rv_cases a with q | q <;> rw [q] at h1 h2
  · exact lv_aloadN C.1 C.2.1 hd h1 h2
  · exact lv_aload C.1 C.2.1 hd h1 h2
theorem wp_aload_nS {n : Fin 4} {a : Nat} (hd : decode M.2.1 pc = .ok (.aload_n n, 1)) (hx : lv[(n : Nat)]? = some (some (vs a))) (k : wp E d M (pc + 1) lv (vs a :: st) G Q) : wp E d M pc lv st G Q :=
  wp_go (fun p e R s m args below meth c H locs ls cells slots Z C hW hS hl kk => lv_aload_n C.1 C.2.1 hd rfl (hl.at hx) (kk ls hl)) k
theorem wp_istore_n {n : Fin 4} {x : Int32} {lv' : List (Option AV)} (hd : decode M.2.1 pc = .ok (.istore_n n, 1)) (hn : (n : Nat) < M.2.2.1) (hs : setL lv (n : Nat) (vi x) = lv') (k : wp E d M (pc + 1) lv' st G Q) : wp E d M pc lv (vi x :: st) G Q := by
  subst hs
  exact wp_go (fun p e R s m args below meth c H locs ls cells slots Z C hW hS hl kk => lv_istore_n C.1 C.2.1 hd rfl hl.has hn rfl (fun ls' hl' => kk ls' (lh.set1 (w := vi x) hl'))) k
theorem wp_istore {i : Nat} {x : Int32} {lv' : List (Option AV)} (hd : decode M.2.1 pc = .ok (.istore i, 2)) (hn : i < M.2.2.1) (hs : setL lv i (vi x) = lv') (k : wp E d M (pc + 2) lv' st G Q) : wp E d M pc lv (vi x :: st) G Q := by
  subst hs
  exact wp_go (fun p e R s m args below meth c H locs ls cells slots Z C hW hS hl kk => lv_istore C.1 C.2.1 hd hl.has hn rfl (fun ls' hl' => kk ls' (lh.set1 (w := vi x) hl'))) k
theorem wp_lstore_n {n : Fin 4} {x : Int64} {lv' : List (Option AV)} (hd : decode M.2.1 pc = .ok (.lstore_n n, 1)) (hn : (n : Nat) + 1 < M.2.2.1) (hs : setJ lv (n : Nat) x = lv') (k : wp E d M (pc + 1) lv' st G Q) : wp E d M pc lv (vj x :: st) G Q := by
  subst hs
  exact wp_go (fun p e R s m args below meth c H locs ls cells slots Z C hW hS hl kk => lv_lstore_n C.1 C.2.1 hd rfl hl.has hn rfl (fun ls' hl' => kk ls' (lh.set2 hl'))) k
theorem wp_lstore {i : Nat} {x : Int64} {lv' : List (Option AV)} (hd : decode M.2.1 pc = .ok (.lstore i, 2)) (hn : i + 1 < M.2.2.1) (hs : setJ lv i x = lv') (k : wp E d M (pc + 2) lv' st G Q) : wp E d M pc lv (vj x :: st) G Q := by
  subst hs
  exact wp_go (fun p e R s m args below meth c H locs ls cells slots Z C hW hS hl kk => lv_lstore C.1 C.2.1 hd hl.has hn rfl (fun ls' hl' => kk ls' (lh.set2 hl'))) k
theorem wp_astore_n {n : Fin 4} {a : Nat} {lv' : List (Option AV)} (hd : decode M.2.1 pc = .ok (.astore_n n, 1)) (hn : (n : Nat) < M.2.2.1) (hs : setL lv (n : Nat) (vr a) = lv') (k : wp E d M (pc + 1) lv' st G Q) : wp E d M pc lv (vr a :: st) G Q := by
  subst hs
  refine wp_go (fun p e R s m args below meth c H locs ls cells slots Z C hW hS hl kk => ?_) k
  have h2 : ∀ ls' : Array Slot, lv_has ls' M.2.2.1 (((n : Nat), rv a) :: (prs lv).filter (fun q => !(q.1 == (n : Nat)) && !(q.1 + 1 == (n : Nat) && q.2.category == 2))) → W p E.1 e R s m args below meth c H locs cells slots Z (F0 m (pc + 1) ls' (st.map cv)) := fun ls' hl' => kk ls' (lh.set1 (w := vr a) hl')
  show W p E.1 e R s m args below meth c H locs cells slots Z (F0 m pc ls (rv a :: st.map cv))
  rcases rv_cases a with q | q <;> rw [q] at h2 ⊢
  · exact lv_astore_nN C.1 C.2.1 hd rfl hl.has hn rfl h2
  · exact lv_astore_n C.1 C.2.1 hd rfl hl.has hn rfl h2
theorem wp_astore {i : Nat} {a : Nat} {lv' : List (Option AV)} (hd : decode M.2.1 pc = .ok (.astore i, 2)) (hn : i < M.2.2.1) (hs : setL lv i (vr a) = lv') (k : wp E d M (pc + 2) lv' st G Q) : wp E d M pc lv (vr a :: st) G Q := by
  subst hs
  refine wp_go (fun p e R s m args below meth c H locs ls cells slots Z C hW hS hl kk => ?_) k
  have h2 : ∀ ls' : Array Slot, lv_has ls' M.2.2.1 ((i, rv a) :: (prs lv).filter (fun q => !(q.1 == i) && !(q.1 + 1 == i && q.2.category == 2))) → W p E.1 e R s m args below meth c H locs cells slots Z (F0 m (pc + 2) ls' (st.map cv)) := fun ls' hl' => kk ls' (lh.set1 (w := vr a) hl')
  show W p E.1 e R s m args below meth c H locs cells slots Z (F0 m pc ls (rv a :: st.map cv))
  rcases rv_cases a with q | q <;> rw [q] at h2 ⊢
  · exact lv_astoreN C.1 C.2.1 hd hl.has hn rfl h2
  · exact lv_astore C.1 C.2.1 hd hl.has hn rfl h2
theorem wp_iinc {i : Nat} {n : Int} {x v : Int32} {lv' : List (Option AV)} (hd : decode M.2.1 pc = .ok (.iinc i n, 3)) (hn : i < M.2.2.1) (hx : lv[i]? = some (some (vi x))) (hv : Int32.ofInt n = v) (hs : setL lv i (vi (x + v)) = lv') (k : wp E d M (pc + 3) lv' st G Q) : wp E d M pc lv st G Q := by
  subst hs
  subst hv
  obtain ⟨j, hj⟩ := List.getElem?_of_mem (prs_mem (lv := lv) (q := (i, .int x)).mpr ⟨vi x, hx, rfl⟩)
  exact wp_go (fun p e R s m args below meth c H locs ls cells slots Z C hW hS hl kk => lv_iinc C.1 C.2.1 hd hl.has hj rfl hn rfl (fun ls' hl' => kk ls' (lh.set1 (w := vi (x + Int32.ofInt n)) hl'))) k
theorem wp_iadd {x y : Int32} (hd : decode M.2.1 pc = .ok (.iadd, 1)) (k : wp E d M (pc + 1) lv (vi (x + y) :: st) G Q) : wp E d M pc lv (vi y :: vi x :: st) G Q :=
  wp_go (fun p e R s m args below meth c H locs ls cells slots Z C hW hS hl kk => lv_iadd C.1 C.2.1 hd (kk ls hl)) k
theorem wp_ladd {x y : Int64} (hd : decode M.2.1 pc = .ok (.ladd, 1)) (k : wp E d M (pc + 1) lv (vj (x + y) :: st) G Q) : wp E d M pc lv (vj y :: vj x :: st) G Q :=
  wp_go (fun p e R s m args below meth c H locs ls cells slots Z C hW hS hl kk => lv_ladd C.1 C.2.1 hd (kk ls hl)) k
theorem wp_isub {x y : Int32} (hd : decode M.2.1 pc = .ok (.isub, 1)) (k : wp E d M (pc + 1) lv (vi (x - y) :: st) G Q) : wp E d M pc lv (vi y :: vi x :: st) G Q :=
  wp_go (fun p e R s m args below meth c H locs ls cells slots Z C hW hS hl kk => lv_isub C.1 C.2.1 hd (kk ls hl)) k
theorem wp_imul {x y : Int32} (hd : decode M.2.1 pc = .ok (.imul, 1)) (k : wp E d M (pc + 1) lv (vi (x * y) :: st) G Q) : wp E d M pc lv (vi y :: vi x :: st) G Q :=
  wp_go (fun p e R s m args below meth c H locs ls cells slots Z C hW hS hl kk => lv_imul C.1 C.2.1 hd (kk ls hl)) k
theorem wp_lmul {x y : Int64} (hd : decode M.2.1 pc = .ok (.lmul, 1)) (k : wp E d M (pc + 1) lv (vj (x * y) :: st) G Q) : wp E d M pc lv (vj y :: vj x :: st) G Q :=
  wp_go (fun p e R s m args below meth c H locs ls cells slots Z C hW hS hl kk => lv_lmul C.1 C.2.1 hd (kk ls hl)) k
theorem wp_iand {x y : Int32} (hd : decode M.2.1 pc = .ok (.iand, 1)) (k : wp E d M (pc + 1) lv (vi (x &&& y) :: st) G Q) : wp E d M pc lv (vi y :: vi x :: st) G Q :=
  wp_go (fun p e R s m args below meth c H locs ls cells slots Z C hW hS hl kk => lv_iand C.1 C.2.1 hd (kk ls hl)) k
theorem wp_land {x y : Int64} (hd : decode M.2.1 pc = .ok (.land, 1)) (k : wp E d M (pc + 1) lv (vj (x &&& y) :: st) G Q) : wp E d M pc lv (vj y :: vj x :: st) G Q :=
  wp_go (fun p e R s m args below meth c H locs ls cells slots Z C hW hS hl kk => lv_land C.1 C.2.1 hd (kk ls hl)) k
theorem wp_ior {x y : Int32} (hd : decode M.2.1 pc = .ok (.ior, 1)) (k : wp E d M (pc + 1) lv (vi (x ||| y) :: st) G Q) : wp E d M pc lv (vi y :: vi x :: st) G Q :=
  wp_go (fun p e R s m args below meth c H locs ls cells slots Z C hW hS hl kk => lv_ior C.1 C.2.1 hd (kk ls hl)) k
theorem wp_lor {x y : Int64} (hd : decode M.2.1 pc = .ok (.lor, 1)) (k : wp E d M (pc + 1) lv (vj (x ||| y) :: st) G Q) : wp E d M pc lv (vj y :: vj x :: st) G Q :=
  wp_go (fun p e R s m args below meth c H locs ls cells slots Z C hW hS hl kk => lv_lor C.1 C.2.1 hd (kk ls hl)) k
theorem wp_ixor {x y : Int32} (hd : decode M.2.1 pc = .ok (.ixor, 1)) (k : wp E d M (pc + 1) lv (vi (x ^^^ y) :: st) G Q) : wp E d M pc lv (vi y :: vi x :: st) G Q :=
  wp_go (fun p e R s m args below meth c H locs ls cells slots Z C hW hS hl kk => lv_ixor C.1 C.2.1 hd (kk ls hl)) k
theorem wp_lxor {x y : Int64} (hd : decode M.2.1 pc = .ok (.lxor, 1)) (k : wp E d M (pc + 1) lv (vj (x ^^^ y) :: st) G Q) : wp E d M pc lv (vj y :: vj x :: st) G Q :=
  wp_go (fun p e R s m args below meth c H locs ls cells slots Z C hW hS hl kk => lv_lxor C.1 C.2.1 hd (kk ls hl)) k
theorem wp_idiv {x y : Int32} (hd : decode M.2.1 pc = .ok (.idiv, 1)) (h0 : ¬ y = 0) (k : wp E d M (pc + 1) lv (vi (x / y) :: st) G Q) : wp E d M pc lv (vi y :: vi x :: st) G Q :=
  wp_go (fun p e R s m args below meth c H locs ls cells slots Z C hW hS hl kk => lv_idiv C.1 C.2.1 hd h0 (kk ls hl)) k
theorem wp_irem {x y : Int32} (hd : decode M.2.1 pc = .ok (.irem, 1)) (h0 : ¬ y = 0) (k : wp E d M (pc + 1) lv (vi (x - x / y * y) :: st) G Q) : wp E d M pc lv (vi y :: vi x :: st) G Q :=
  wp_go (fun p e R s m args below meth c H locs ls cells slots Z C hW hS hl kk => lv_irem C.1 C.2.1 hd h0 (kk ls hl)) k
theorem wp_ishl {x y : Int32} (hd : decode M.2.1 pc = .ok (.ishl, 1)) (k : wp E d M (pc + 1) lv (vi (x <<< (y &&& 31)) :: st) G Q) : wp E d M pc lv (vi y :: vi x :: st) G Q :=
  wp_go (fun p e R s m args below meth c H locs ls cells slots Z C hW hS hl kk => lv_ishl C.1 C.2.1 hd (kk ls hl)) k
theorem wp_ishr {x y : Int32} (hd : decode M.2.1 pc = .ok (.ishr, 1)) (k : wp E d M (pc + 1) lv (vi (x >>> (y &&& 31)) :: st) G Q) : wp E d M pc lv (vi y :: vi x :: st) G Q :=
  wp_go (fun p e R s m args below meth c H locs ls cells slots Z C hW hS hl kk => lv_ishr C.1 C.2.1 hd (kk ls hl)) k
def lushr (x : Int64) (y : Int32) : Int64 := (x.toUInt64 >>> (y.toInt64.toUInt64 &&& Int64.toUInt64 63)).toInt64
def i2b (x : Int32) : Int32 := x.toInt8.toInt32
theorem wp_lushr {x : Int64} {y : Int32} (hd : decode M.2.1 pc = .ok (.lushr, 1)) (k : wp E d M (pc + 1) lv (vj (lushr x y) :: st) G Q) : wp E d M pc lv (vi y :: vj x :: st) G Q :=
  wp_go (fun p e R s m args below meth c H locs ls cells slots Z C hW hS hl kk => lv_lushr C.1 C.2.1 hd rfl (kk ls hl)) k
theorem wp_lshl {x : Int64} {y : Int32} (hd : decode M.2.1 pc = .ok (.lshl, 1)) (k : wp E d M (pc + 1) lv (vj (x <<< (y.toInt64 &&& 63)) :: st) G Q) : wp E d M pc lv (vi y :: vj x :: st) G Q :=
  wp_go (fun p e R s m args below meth c H locs ls cells slots Z C hW hS hl kk => lv_lshl C.1 C.2.1 hd rfl (kk ls hl)) k
theorem wp_lshr {x : Int64} {y : Int32} (hd : decode M.2.1 pc = .ok (.lshr, 1)) (k : wp E d M (pc + 1) lv (vj (x >>> (y.toInt64 &&& 63)) :: st) G Q) : wp E d M pc lv (vi y :: vj x :: st) G Q :=
  wp_go (fun p e R s m args below meth c H locs ls cells slots Z C hW hS hl kk => lv_lshr C.1 C.2.1 hd rfl (kk ls hl)) k
theorem wp_i2l {x : Int32} (hd : decode M.2.1 pc = .ok (.i2l, 1)) (k : wp E d M (pc + 1) lv (vj x.toInt64 :: st) G Q) : wp E d M pc lv (vi x :: st) G Q :=
  wp_go (fun p e R s m args below meth c H locs ls cells slots Z C hW hS hl kk => lv_i2l C.1 C.2.1 hd rfl (kk ls hl)) k
theorem wp_l2i {x : Int64} (hd : decode M.2.1 pc = .ok (.l2i, 1)) (k : wp E d M (pc + 1) lv (vi x.toInt32 :: st) G Q) : wp E d M pc lv (vj x :: st) G Q :=
  wp_go (fun p e R s m args below meth c H locs ls cells slots Z C hW hS hl kk => lv_l2i C.1 C.2.1 hd rfl (kk ls hl)) k
theorem wp_i2b {x : Int32} (hd : decode M.2.1 pc = .ok (.i2b, 1)) (k : wp E d M (pc + 1) lv (vi (i2b x) :: st) G Q) : wp E d M pc lv (vi x :: st) G Q :=
  wp_go (fun p e R s m args below meth c H locs ls cells slots Z C hW hS hl kk => lv_i2b C.1 C.2.1 hd rfl (kk ls hl)) k
def c1 (v : AV) : Prop := (cv v).category = 1
theorem c1_i (x : Int32) : c1 (vi x) := rfl
theorem c1_r (a : Nat) : c1 (vr a) := rv_cat a
theorem wp_dup {a : AV} (hd : decode M.2.1 pc = .ok (.dup, 1)) (ha : c1 a) (k : wp E d M (pc + 1) lv (a :: a :: st) G Q) : wp E d M pc lv (a :: st) G Q :=
  wp_go (fun p e R s m args below meth c H locs ls cells slots Z C hW hS hl kk => lv_dup C.1 C.2.1 hd ha (kk ls hl)) k
theorem wp_pop {a : AV} (hd : decode M.2.1 pc = .ok (.pop, 1)) (ha : c1 a) (k : wp E d M (pc + 1) lv st G Q) : wp E d M pc lv (a :: st) G Q :=
  wp_go (fun p e R s m args below meth c H locs ls cells slots Z C hW hS hl kk => lv_pop C.1 C.2.1 hd ha (kk ls hl)) k
theorem wp_dup_x1 {a b : AV} (hd : decode M.2.1 pc = .ok (.dup_x1, 1)) (ha : c1 a) (hb : c1 b) (k : wp E d M (pc + 1) lv (a :: b :: a :: st) G Q) : wp E d M pc lv (a :: b :: st) G Q :=
  wp_go (fun p e R s m args below meth c H locs ls cells slots Z C hW hS hl kk => lv_dup_x1 C.1 C.2.1 hd ha hb (kk ls hl)) k
theorem wp_dup2 {a b : AV} (hd : decode M.2.1 pc = .ok (.dup2, 1)) (ha : c1 a) (hb : c1 b) (k : wp E d M (pc + 1) lv (a :: b :: a :: b :: st) G Q) : wp E d M pc lv (a :: b :: st) G Q :=
  wp_go (fun p e R s m args below meth c H locs ls cells slots Z C hW hS hl kk => lv_dup2_11 C.1 C.2.1 hd ha hb (kk ls hl)) k
theorem wp_if_eq {x : Int32} {off : Int} {tgt : Nat} (hd : decode M.2.1 pc = .ok (.ifCond .eq off, 3)) (ht : (pc : Int) + off = (tgt : Int)) (kt : x = 0 → wp E d M tgt lv st G Q) (kf : ¬ (x = 0) → wp E d M (pc + 3) lv st G Q) : wp E d M pc lv (vi x :: st) G Q := by
  by_cases hq : x = 0
  · exact wp_go (fun p e R s m args below meth c H locs ls cells slots Z C hW hS hl kk => lv_if_eq C.1 C.2.1 hd ht (fun _ => kk ls hl) (fun h => absurd hq h)) (kt hq)
  · exact wp_go (fun p e R s m args below meth c H locs ls cells slots Z C hW hS hl kk => lv_if_eq C.1 C.2.1 hd ht (fun h => absurd h hq) (fun _ => kk ls hl)) (kf hq)
theorem wp_icmp_eq {x y : Int32} {off : Int} {tgt : Nat} (hd : decode M.2.1 pc = .ok (.if_icmp .eq off, 3)) (ht : (pc : Int) + off = (tgt : Int)) (kt : x = y → wp E d M tgt lv st G Q) (kf : ¬ (x = y) → wp E d M (pc + 3) lv st G Q) : wp E d M pc lv (vi y :: vi x :: st) G Q := by
  by_cases hq : x = y
  · exact wp_go (fun p e R s m args below meth c H locs ls cells slots Z C hW hS hl kk => lv_icmp_eq C.1 C.2.1 hd ht (fun _ => kk ls hl) (fun h => absurd hq h)) (kt hq)
  · exact wp_go (fun p e R s m args below meth c H locs ls cells slots Z C hW hS hl kk => lv_icmp_eq C.1 C.2.1 hd ht (fun h => absurd h hq) (fun _ => kk ls hl)) (kf hq)
theorem wp_if_ne {x : Int32} {off : Int} {tgt : Nat} (hd : decode M.2.1 pc = .ok (.ifCond .ne off, 3)) (ht : (pc : Int) + off = (tgt : Int)) (kt : ¬ x = 0 → wp E d M tgt lv st G Q) (kf : x = 0 → wp E d M (pc + 3) lv st G Q) : wp E d M pc lv (vi x :: st) G Q := by
  by_cases hq : x = 0
  · exact wp_go (fun p e R s m args below meth c H locs ls cells slots Z C hW hS hl kk => lv_if_ne C.1 C.2.1 hd ht (fun h => absurd hq h) (fun _ => kk ls hl)) (kf hq)
  · exact wp_go (fun p e R s m args below meth c H locs ls cells slots Z C hW hS hl kk => lv_if_ne C.1 C.2.1 hd ht (fun _ => kk ls hl) (fun h => absurd h hq)) (kt hq)
theorem wp_icmp_ne {x y : Int32} {off : Int} {tgt : Nat} (hd : decode M.2.1 pc = .ok (.if_icmp .ne off, 3)) (ht : (pc : Int) + off = (tgt : Int)) (kt : ¬ x = y → wp E d M tgt lv st G Q) (kf : x = y → wp E d M (pc + 3) lv st G Q) : wp E d M pc lv (vi y :: vi x :: st) G Q := by
  by_cases hq : x = y
  · exact wp_go (fun p e R s m args below meth c H locs ls cells slots Z C hW hS hl kk => lv_icmp_ne C.1 C.2.1 hd ht (fun h => absurd hq h) (fun _ => kk ls hl)) (kf hq)
  · exact wp_go (fun p e R s m args below meth c H locs ls cells slots Z C hW hS hl kk => lv_icmp_ne C.1 C.2.1 hd ht (fun _ => kk ls hl) (fun h => absurd h hq)) (kt hq)
theorem wp_if_lt {x : Int32} {off : Int} {tgt : Nat} (hd : decode M.2.1 pc = .ok (.ifCond .lt off, 3)) (ht : (pc : Int) + off = (tgt : Int)) (kt : x < 0 → wp E d M tgt lv st G Q) (kf : ¬ (x < 0) → wp E d M (pc + 3) lv st G Q) : wp E d M pc lv (vi x :: st) G Q := by
  by_cases hq : x < 0
  · exact wp_go (fun p e R s m args below meth c H locs ls cells slots Z C hW hS hl kk => lv_if_lt C.1 C.2.1 hd ht (fun _ => kk ls hl) (fun h => absurd hq h)) (kt hq)
  · exact wp_go (fun p e R s m args below meth c H locs ls cells slots Z C hW hS hl kk => lv_if_lt C.1 C.2.1 hd ht (fun h => absurd h hq) (fun _ => kk ls hl)) (kf hq)
theorem wp_icmp_lt {x y : Int32} {off : Int} {tgt : Nat} (hd : decode M.2.1 pc = .ok (.if_icmp .lt off, 3)) (ht : (pc : Int) + off = (tgt : Int)) (kt : x < y → wp E d M tgt lv st G Q) (kf : ¬ (x < y) → wp E d M (pc + 3) lv st G Q) : wp E d M pc lv (vi y :: vi x :: st) G Q := by
  by_cases hq : x < y
  · exact wp_go (fun p e R s m args below meth c H locs ls cells slots Z C hW hS hl kk => lv_icmp_lt C.1 C.2.1 hd ht (fun _ => kk ls hl) (fun h => absurd hq h)) (kt hq)
  · exact wp_go (fun p e R s m args below meth c H locs ls cells slots Z C hW hS hl kk => lv_icmp_lt C.1 C.2.1 hd ht (fun h => absurd h hq) (fun _ => kk ls hl)) (kf hq)
theorem wp_if_ge {x : Int32} {off : Int} {tgt : Nat} (hd : decode M.2.1 pc = .ok (.ifCond .ge off, 3)) (ht : (pc : Int) + off = (tgt : Int)) (kt : 0 ≤ x → wp E d M tgt lv st G Q) (kf : ¬ (0 ≤ x) → wp E d M (pc + 3) lv st G Q) : wp E d M pc lv (vi x :: st) G Q := by
  by_cases hq : 0 ≤ x
  · exact wp_go (fun p e R s m args below meth c H locs ls cells slots Z C hW hS hl kk => lv_if_ge C.1 C.2.1 hd ht (fun _ => kk ls hl) (fun h => absurd hq h)) (kt hq)
  · exact wp_go (fun p e R s m args below meth c H locs ls cells slots Z C hW hS hl kk => lv_if_ge C.1 C.2.1 hd ht (fun h => absurd h hq) (fun _ => kk ls hl)) (kf hq)
theorem wp_icmp_ge {x y : Int32} {off : Int} {tgt : Nat} (hd : decode M.2.1 pc = .ok (.if_icmp .ge off, 3)) (ht : (pc : Int) + off = (tgt : Int)) (kt : y ≤ x → wp E d M tgt lv st G Q) (kf : ¬ (y ≤ x) → wp E d M (pc + 3) lv st G Q) : wp E d M pc lv (vi y :: vi x :: st) G Q := by
  by_cases hq : y ≤ x
  · exact wp_go (fun p e R s m args below meth c H locs ls cells slots Z C hW hS hl kk => lv_icmp_ge C.1 C.2.1 hd ht (fun _ => kk ls hl) (fun h => absurd hq h)) (kt hq)
  · exact wp_go (fun p e R s m args below meth c H locs ls cells slots Z C hW hS hl kk => lv_icmp_ge C.1 C.2.1 hd ht (fun h => absurd h hq) (fun _ => kk ls hl)) (kf hq)
theorem wp_icmp_gt {x y : Int32} {off : Int} {tgt : Nat} (hd : decode M.2.1 pc = .ok (.if_icmp .gt off, 3)) (ht : (pc : Int) + off = (tgt : Int)) (kt : y < x → wp E d M tgt lv st G Q) (kf : ¬ (y < x) → wp E d M (pc + 3) lv st G Q) : wp E d M pc lv (vi y :: vi x :: st) G Q := by
  by_cases hq : y < x
  · exact wp_go (fun p e R s m args below meth c H locs ls cells slots Z C hW hS hl kk => lv_icmp_gt C.1 C.2.1 hd ht (fun _ => kk ls hl) (fun h => absurd hq h)) (kt hq)
  · exact wp_go (fun p e R s m args below meth c H locs ls cells slots Z C hW hS hl kk => lv_icmp_gt C.1 C.2.1 hd ht (fun h => absurd h hq) (fun _ => kk ls hl)) (kf hq)
theorem wp_if_le {x : Int32} {off : Int} {tgt : Nat} (hd : decode M.2.1 pc = .ok (.ifCond .le off, 3)) (ht : (pc : Int) + off = (tgt : Int)) (kt : x ≤ 0 → wp E d M tgt lv st G Q) (kf : ¬ (x ≤ 0) → wp E d M (pc + 3) lv st G Q) : wp E d M pc lv (vi x :: st) G Q := by
  by_cases hq : x ≤ 0
  · exact wp_go (fun p e R s m args below meth c H locs ls cells slots Z C hW hS hl kk => lv_if_le C.1 C.2.1 hd ht (fun _ => kk ls hl) (fun h => absurd hq h)) (kt hq)
  · exact wp_go (fun p e R s m args below meth c H locs ls cells slots Z C hW hS hl kk => lv_if_le C.1 C.2.1 hd ht (fun h => absurd h hq) (fun _ => kk ls hl)) (kf hq)
theorem wp_icmp_le {x y : Int32} {off : Int} {tgt : Nat} (hd : decode M.2.1 pc = .ok (.if_icmp .le off, 3)) (ht : (pc : Int) + off = (tgt : Int)) (kt : x ≤ y → wp E d M tgt lv st G Q) (kf : ¬ (x ≤ y) → wp E d M (pc + 3) lv st G Q) : wp E d M pc lv (vi y :: vi x :: st) G Q := by
  by_cases hq : x ≤ y
  · exact wp_go (fun p e R s m args below meth c H locs ls cells slots Z C hW hS hl kk => lv_icmp_le C.1 C.2.1 hd ht (fun _ => kk ls hl) (fun h => absurd hq h)) (kt hq)
  · exact wp_go (fun p e R s m args below meth c H locs ls cells slots Z C hW hS hl kk => lv_icmp_le C.1 C.2.1 hd ht (fun h => absurd h hq) (fun _ => kk ls hl)) (kf hq)
theorem wp_goto {off : Int} {tgt : Nat} (hd : decode M.2.1 pc = .ok (.goto off, 3)) (ht : (pc : Int) + off = (tgt : Int)) (k : wp E d M tgt lv st G Q) : wp E d M pc lv st G Q :=
  wp_go (fun p e R s m args below meth c H locs ls cells slots Z C hW hS hl kk => lv_goto C.1 C.2.1 hd ht (kk ls hl)) k
theorem wp_lcmp_eq {x y : Int64} {off : Int} {tgt : Nat} (h0 : decode M.2.1 pc = .ok (.lcmp, 1)) (hd : decode M.2.1 (pc + 1) = .ok (.ifCond .eq off, 3)) (ht : ((pc + 1 : Nat) : Int) + off = (tgt : Int)) (kt : x = y → wp E d M tgt lv st G Q) (kf : ¬ (x = y) → wp E d M (pc + 1 + 3) lv st G Q) : wp E d M pc lv (vj y :: vj x :: st) G Q := by
  refine wp_go (pc' := pc + 1) (lv' := lv) (st' := vi (lg_cmp x y) :: st) (fun p e R s m args below meth c H locs ls cells slots Z C hW hS hl kk => W.lcmp C.1 C.2.1 h0 (kk ls hl)) ?_
  exact wp_if_eq hd ht (fun h => kt ((lg_cmp_eq x y).mp h)) (fun h => kf (fun q => h ((lg_cmp_eq x y).mpr q)))
theorem wp_lcmp_ne {x y : Int64} {off : Int} {tgt : Nat} (h0 : decode M.2.1 pc = .ok (.lcmp, 1)) (hd : decode M.2.1 (pc + 1) = .ok (.ifCond .ne off, 3)) (ht : ((pc + 1 : Nat) : Int) + off = (tgt : Int)) (kt : ¬ x = y → wp E d M tgt lv st G Q) (kf : x = y → wp E d M (pc + 1 + 3) lv st G Q) : wp E d M pc lv (vj y :: vj x :: st) G Q := by
  refine wp_go (pc' := pc + 1) (lv' := lv) (st' := vi (lg_cmp x y) :: st) (fun p e R s m args below meth c H locs ls cells slots Z C hW hS hl kk => W.lcmp C.1 C.2.1 h0 (kk ls hl)) ?_
  exact wp_if_ne hd ht (fun h => kt (fun q => h ((lg_cmp_eq x y).mpr q))) (fun h => kf ((lg_cmp_eq x y).mp h))
theorem wp_lcmp_le {x y : Int64} {off : Int} {tgt : Nat} (h0 : decode M.2.1 pc = .ok (.lcmp, 1)) (hd : decode M.2.1 (pc + 1) = .ok (.ifCond .le off, 3)) (ht : ((pc + 1 : Nat) : Int) + off = (tgt : Int)) (kt : x ≤ y → wp E d M tgt lv st G Q) (kf : ¬ (x ≤ y) → wp E d M (pc + 1 + 3) lv st G Q) : wp E d M pc lv (vj y :: vj x :: st) G Q := by
  refine wp_go (pc' := pc + 1) (lv' := lv) (st' := vi (lg_cmp x y) :: st) (fun p e R s m args below meth c H locs ls cells slots Z C hW hS hl kk => W.lcmp C.1 C.2.1 h0 (kk ls hl)) ?_
  exact wp_if_le hd ht (fun h => kt ((lg_cmp_le x y).mp h)) (fun h => kf (fun q => h ((lg_cmp_le x y).mpr q)))
theorem wp_ifnull {a : Nat} {off : Int} {tgt : Nat} (hd : decode M.2.1 pc = .ok (.ifnull off, 3)) (ht : (pc : Int) + off = (tgt : Int)) (kt : a = 0 → wp E d M tgt lv st G Q) (kf : ¬ (a = 0) → wp E d M (pc + 3) lv st G Q) : wp E d M pc lv (vr a :: st) G Q := by
  by_cases hq : a = 0
  · subst hq
    exact wp_go (fun p e R s m args below meth c H locs ls cells slots Z C hW hS hl kk => lv_ifnullN C.1 C.2.1 hd ht (kk ls hl)) (kt rfl)
  · refine wp_go (fun p e R s m args below meth c H locs ls cells slots Z C hW hS hl kk => ?_) (kf hq)
    show W p E.1 e R s m args below meth c H locs cells slots Z (F0 m pc ls (rv a :: st.map cv))
    rw [rv_ne hq]
    exact lv_ifnull C.1 C.2.1 hd (kk ls hl)
theorem wp_ifnonnull {a : Nat} {off : Int} {tgt : Nat} (hd : decode M.2.1 pc = .ok (.ifnonnull off, 3)) (ht : (pc : Int) + off = (tgt : Int)) (kt : ¬ (a = 0) → wp E d M tgt lv st G Q) (kf : a = 0 → wp E d M (pc + 3) lv st G Q) : wp E d M pc lv (vr a :: st) G Q := by
  by_cases hq : a = 0
  · subst hq
    exact wp_go (fun p e R s m args below meth c H locs ls cells slots Z C hW hS hl kk => lv_ifnonnullN C.1 C.2.1 hd (kk ls hl)) (kf rfl)
  · refine wp_go (fun p e R s m args below meth c H locs ls cells slots Z C hW hS hl kk => ?_) (kt hq)
    show W p E.1 e R s m args below meth c H locs cells slots Z (F0 m pc ls (rv a :: st.map cv))
    rw [rv_ne hq]
    exact lv_ifnonnull C.1 C.2.1 hd ht (kk ls hl)
theorem wp_tblO {x : Int32} {dflt lo hi : Int} {offs : Array Int} {len tgt : Nat} (hd : decode M.2.1 pc = .ok (.tableswitch dflt lo hi offs, len)) (h : x.toInt < lo ∨ hi < x.toInt) (ht : (pc : Int) + dflt = (tgt : Int)) (k : wp E d M tgt lv st G Q) : wp E d M pc lv (vi x :: st) G Q :=
  wp_go (fun p e R s m args below meth c H locs ls cells slots Z C hW hS hl kk => lv_tableOut C.1 C.2.1 hd h ht (kk ls hl)) k
theorem wp_tblI {x : Int32} {dflt lo hi off : Int} {offs : Array Int} {len tgt : Nat} (hd : decode M.2.1 pc = .ok (.tableswitch dflt lo hi offs, len)) (h1 : ¬ x.toInt < lo) (h2 : ¬ hi < x.toInt) (ho : offs[(x.toInt - lo).toNat]? = some off) (ht : (pc : Int) + off = (tgt : Int)) (k : wp E d M tgt lv st G Q) : wp E d M pc lv (vi x :: st) G Q :=
  wp_go (fun p e R s m args below meth c H locs ls cells slots Z C hW hS hl kk => lv_tableIn C.1 C.2.1 hd h1 h2 ho ht (kk ls hl)) k
end
