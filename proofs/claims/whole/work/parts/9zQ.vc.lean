/-! special tests of the reference: automata, the last states -/
section
variable {E : EE} {d : Nat} {p : Nat} {T : Nat → TK} {M : MN} {L nf nv : Nat} {fa se nt : Nat → Int32}
theorem ev_autoS1 {K : Int64 → VH → Prop} {x1 s : Int32} {V : VH} {c : Nat} {b : Bool} (hg : EG T M nf nv fa se) (cc : ¬ (T c).1 = 41) (cL : c + 1 < L) (c2 : (T (c + 1)).1 = 2) (hm : EM V p T M 0 L fa se) (ha : EA V p c) (hk : ∀ V', Fc V V' s54 → EA V' p (c + 2) → vwp E d M_X12_autoValue 168 [some (sl 6 0), some (wi x1), some (wi s), some (wi (bI (b || decide (nI (T (c + 1)).2.2.1 = s)))), none, none, none, none, none] [] V' (zj K)) : vwp E d M_X12_autoValue 168 [some (sl 6 0), some (wi x1), some (wi s), some (wi (bI b)), none, none, none, none, none] [] V (zj K) := by
  obtain ⟨m1, m2, _⟩ := hm.kd ha (Nat.zero_le _) (show c < L by omega)
  refine w_X12_autoValue_168 ⟨m1, fun z => absurd ((kq 41 (hg.1 c).1 (by decide)).mp (m2.symm.trans z)) cc, fun _ V2 v2 => ?_⟩
  obtain ⟨a2, f2⟩ := ha.st 1 v2 rfl
  obtain ⟨r1, r2⟩ := ev_tok (hm.fc f2) a2 cL c2
  have fin : ∀ b' : Bool, b' = (b || decide (nI (T (c + 1)).2.2.1 = s)) → vwp E d M_X12_autoValue 214 [some (sl 6 0), some (wi x1), some (wi s), some (wi (bI b)), none, none, none, none, none] [wi (bI b')] V2 (zj K) := by
    intro b' eb
    subst eb
    refine w_X12_autoValue_214 (fun V3 v3 => ?_)
    obtain ⟨a3, _⟩ := a2.st 1 v3 rfl
    exact hk V3 ((s54_w v2).trans (s54_w v3)) a3
  rw [r2]
  refine ⟨fun z => w_X12_autoValue_209 (fin true ?_), fun z => ⟨r1, fun z1 => fin false ?_, fun z1 => w_X12_autoValue_209 (fin true ?_)⟩⟩
  · have : b = true := by cases b with
      | true => rfl
      | false => exact absurd rfl z
    rw [this]; rfl
  · rw [bI_0.mp z, decide_eq_false z1]; rfl
  · rw [decide_eq_true z1, Bool.or_true]
theorem ev_autoS0 {K : Int64 → VH → Prop} {x1 s : Int32} {V : VH} {i2 : Nat} {b : Bool} (c41 : (T i2).1 = 41) (iL : i2 < L) (hm : EM V p T M 0 L fa se) (ha : EA V p i2) (hk : K (Int32.toInt64 (if 0 ≤ s then (if b = true then 0 else 1) else 1)) V) : vwp E d M_X12_autoValue 168 [some (sl 6 0), some (wi x1), some (wi s), some (wi (bI b)), none, none, none, none, none] [] V (zj K) := by
  obtain ⟨m1, m2, _⟩ := hm.kd ha (Nat.zero_le _) iL
  refine w_X12_autoValue_168 ⟨m1, fun _ => ⟨fun z => ?_, fun z => ⟨fun z1 => ?_, fun z1 => ?_⟩⟩, fun z => absurd (by rw [m2, c41]; rfl) z⟩
  · rw [if_neg (fun w => Int32.not_lt.mpr w z), j_1] at hk; exact hk
  · rw [if_pos (Int32.not_lt.mp z), if_neg (by rw [bI_0.mp z1]; decide), j_1] at hk; exact hk
  · have : b = true := by cases b with
      | true => rfl
      | false => exact absurd rfl z1
    rw [if_pos (Int32.not_lt.mp z), if_pos this, j_0] at hk; exact hk
theorem ev_autoS {K : Int64 → VH → Prop} {x1 s : Int32} {S : Nat → Int32} (hT : TL T L) (hg : EG T M nf nv fa se) : ∀ (m c i2 i : Nat) (b : Bool) (ss : List Int32) (V : VH), nls T false 9 (m + 1) (c + 1) = .inr (i2, ss) → (T i2).1 = 41 → ¬ (T c).1 = 41 → c < L → i2 < L → (∀ k, k < ss.length → S (i + k) = ss.getD k 0) → EM V p T M 0 L fa se → EA V p c → (∀ V', Fc V V' s54 → EA V' p i2 → K (Int32.toInt64 (if 0 ≤ s then (if b = true then 0 else afs S s ss.length i) else 1)) V') → vwp E d M_X12_autoValue 168 [some (sl 6 0), some (wi x1), some (wi s), some (wi (bI b)), none, none, none, none, none] [] V (zj K) := by
  intro m
  induction m with
  | zero =>
    intro c i2 i b ss V e c41 cc cL iL hS hm ha hk
    rw [nls] at e
    obtain ⟨j1, x, p1, e⟩ := nrB_inr e
    rw [if_pos (Or.inl rfl)] at e
    have e1 : j1 = i2 := congrArg Prod.fst (Sum.inr.inj e)
    have ex : [x] = ss := congrArg Prod.snd (Sum.inr.inj e)
    subst e1; subst ex
    obtain ⟨q2, ej, exx⟩ := nmr_f p1
    subst ej; subst exx
    have s0 : S i = nI (T (c + 1)).2.2.1 := hS 0 (Nat.succ_pos _)
    refine ev_autoS1 hg cc (by omega) q2 hm ha (fun V' f' a' => ?_)
    refine ev_autoS0 c41 iL (hm.fc (s54_e f')) a' ?_
    have kk := hk V' f' a'
    rw [show ([nI (T (c + 1)).2.2.1] : List Int32).length = 1 from rfl, afs, afs, s0] at kk
    by_cases z : nI (T (c + 1)).2.2.1 = s
    · rw [if_pos z] at kk
      rw [decide_eq_true z, Bool.or_true, if_pos rfl]
      cases b <;> exact kk
    · rw [if_neg z] at kk
      rw [decide_eq_false z, Bool.or_false]
      exact kk
  | succ m ih =>
    intro c i2 i b ss V e c41 cc cL iL hS hm ha hk
    rw [nls] at e
    obtain ⟨j1, x, p1, e⟩ := nrB_inr e
    obtain ⟨q2, ej, exx⟩ := nmr_f p1
    subst ej; subst exx
    have c1L : c + 1 < L := hT.lt (by omega) (by rw [q2]; decide) (by rw [q2]; decide)
    refine ev_autoS1 hg cc c1L q2 hm ha (fun V' f' a' => ?_)
    by_cases ce : m + 1 = 0 ∨ (T (c + 1 + 1)).1 ≠ 44
    · rw [if_pos ce] at e
      have e1 : c + 1 + 1 = i2 := congrArg Prod.fst (Sum.inr.inj e)
      have ex : [nI (T (c + 1)).2.2.1] = ss := congrArg Prod.snd (Sum.inr.inj e)
      subst e1; subst ex
      have s0 : S i = nI (T (c + 1)).2.2.1 := hS 0 (Nat.succ_pos _)
      refine ev_autoS0 c41 iL (hm.fc (s54_e f')) a' ?_
      have kk := hk V' f' a'
      rw [show ([nI (T (c + 1)).2.2.1] : List Int32).length = 1 from rfl, afs, afs, s0] at kk
      by_cases z : nI (T (c + 1)).2.2.1 = s
      · rw [if_pos z] at kk
        rw [decide_eq_true z, Bool.or_true, if_pos rfl]
        cases b <;> exact kk
      · rw [if_neg z] at kk
        rw [decide_eq_false z, Bool.or_false]
        exact kk
    · rw [if_neg ce] at e
      obtain ⟨j2, ys, p2, e⟩ := nrB_inr e
      have e1 : j2 = i2 := congrArg Prod.fst (Sum.inr.inj e)
      have ex : nI (T (c + 1)).2.2.1 :: ys = ss := congrArg Prod.snd (Sum.inr.inj e)
      subst e1; subst ex
      have c44 : (T (c + 2)).1 = 44 := by
        by_cases z : (T (c + 2)).1 = 44
        · exact z
        · exact absurd (Or.inr z) ce
      have s0 : S i = nI (T (c + 1)).2.2.1 := hS 0 (Nat.succ_pos _)
      refine ih (c + 2) j2 (i + 1) _ ys V' p2 c41 (by rw [c44]; decide) (hT.lt (by omega) (by rw [c44]; decide) (by rw [c44]; decide)) iL (fun k hk => ?_) (hm.fc (s54_e f')) a' (fun V2 f2 a2 => ?_)
      · have := hS (k + 1) (Nat.succ_lt_succ hk)
        rw [show i + 1 + k = i + (k + 1) by omega]
        exact this
      · have kk := hk V2 (f'.trans f2) a2
        rw [List.length_cons, afs, s0] at kk
        by_cases z : nI (T (c + 1)).2.2.1 = s
        · rw [if_pos z] at kk
          rw [decide_eq_true z, Bool.or_true, if_pos rfl]
          cases b <;> exact kk
        · rw [if_neg z] at kk
          rw [decide_eq_false z, Bool.or_false]
          exact kk
end
