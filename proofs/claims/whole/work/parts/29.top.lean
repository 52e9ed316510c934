/-! the law's start: what the Statement gives, as an environment E -/
theorem room_mono {s : State} {pl : Platform} {r r' : Room} (h : s.hasRoom pl r' = true) (h1 : r.frames ≤ r'.frames) (h2 : r.cells ≤ r'.cells) (h3 : r.slots ≤ r'.slots) (h4 : r.locals ≤ r'.locals) : s.hasRoom pl r = true := by
  simp only [State.hasRoom, Bool.and_eq_true, decide_eq_true_eq] at h ⊢
  obtain ⟨⟨⟨⟨a1, a2, a3, a4, a5, a6⟩, a7⟩, a8⟩, a9⟩ := h
  exact ⟨⟨⟨⟨by omega, by omega, by omega, by omega, by omega, a6⟩, by omega⟩, by omega⟩, a9⟩
theorem W_room {p : Program} {l : Launch} {e : Env} {R R' : Room} {s : State} {m : MethodId} {args : Array Value} {below : List Frame} {meth : Method} {c : Code} {H : Heap} {locs : List Loc} {cells slots : Nat} {Q Q' : State → Prop} {g : JFrame}
    (h : W p l e R s m args below meth c H locs cells slots Q g) (h1 : R.frames ≤ R'.frames) (h2 : R.cells ≤ R'.cells) (h3 : R.slots ≤ R'.slots) (h4 : R.locals ≤ R'.locals) (hq : ∀ t, Q t → Q' t) : W p l e R' s m args below meth c H locs cells slots Q' g := by
  intro T hT X
  obtain ⟨t, a, b⟩ := h T hT { X with room := room_mono X.room h1 h2 h3 h4 }
  exact ⟨t, a, hq t b⟩
def tmT (i : Nat) : Term := .string (txts.getD i ("", 0, "")).1 (txts.getD i ("", 0, "")).2.1
def lawC : Cond := Jvm.Cond.and given_1 narrow_1
theorem tx_ex : ∀ i, i < 22 → Cond.exactly (tmT i) "java/lang/String" ∈ flatC lawC := by decide +kernel
theorem tx_co : ∀ i, i < 22 → Cond.eq (.field (tmT i) "java/lang/String" "coder" "B") (.int 0) ∈ flatC lawC := by decide +kernel
theorem tx_ar : ∀ i, i < 22 → Cond.arrayOf (.field (tmT i) "java/lang/String" "value" "[B") .byte ∈ flatC lawC := by decide +kernel
theorem tx_le : ∀ i, i < 22 → Cond.eq (.length (.field (tmT i) "java/lang/String" "value" "[B")) (.int (Int32.ofNat (txLen.getD i 0))) ∈ flatC lawC := by decide +kernel
theorem tx_el : ∀ i, i < 22 → ∀ j, j < txLen.getD i 0 → Cond.eq (.elem (.field (tmT i) "java/lang/String" "value" "[B") (.int (Int32.ofNat j))) (.int ((txByt.getD i []).getD j 0)) ∈ flatC lawC := by decide +kernel
theorem tx_ne_0 : ∀ j, j < 0 → Cond.not (Cond.eq (tmT 0) (tmT j)) ∈ flatC lawC ∨ Cond.not (Cond.eq (tmT j) (tmT 0)) ∈ flatC lawC := by decide +kernel
theorem tx_ne_1 : ∀ j, j < 1 → Cond.not (Cond.eq (tmT 1) (tmT j)) ∈ flatC lawC ∨ Cond.not (Cond.eq (tmT j) (tmT 1)) ∈ flatC lawC := by decide +kernel
theorem tx_ne_2 : ∀ j, j < 2 → Cond.not (Cond.eq (tmT 2) (tmT j)) ∈ flatC lawC ∨ Cond.not (Cond.eq (tmT j) (tmT 2)) ∈ flatC lawC := by decide +kernel
theorem tx_ne_3 : ∀ j, j < 3 → Cond.not (Cond.eq (tmT 3) (tmT j)) ∈ flatC lawC ∨ Cond.not (Cond.eq (tmT j) (tmT 3)) ∈ flatC lawC := by decide +kernel
theorem tx_ne_4 : ∀ j, j < 4 → Cond.not (Cond.eq (tmT 4) (tmT j)) ∈ flatC lawC ∨ Cond.not (Cond.eq (tmT j) (tmT 4)) ∈ flatC lawC := by decide +kernel
theorem tx_ne_5 : ∀ j, j < 5 → Cond.not (Cond.eq (tmT 5) (tmT j)) ∈ flatC lawC ∨ Cond.not (Cond.eq (tmT j) (tmT 5)) ∈ flatC lawC := by decide +kernel
theorem tx_ne_6 : ∀ j, j < 6 → Cond.not (Cond.eq (tmT 6) (tmT j)) ∈ flatC lawC ∨ Cond.not (Cond.eq (tmT j) (tmT 6)) ∈ flatC lawC := by decide +kernel
theorem tx_ne_7 : ∀ j, j < 7 → Cond.not (Cond.eq (tmT 7) (tmT j)) ∈ flatC lawC ∨ Cond.not (Cond.eq (tmT j) (tmT 7)) ∈ flatC lawC := by decide +kernel
theorem tx_ne_8 : ∀ j, j < 8 → Cond.not (Cond.eq (tmT 8) (tmT j)) ∈ flatC lawC ∨ Cond.not (Cond.eq (tmT j) (tmT 8)) ∈ flatC lawC := by decide +kernel
theorem tx_ne_9 : ∀ j, j < 9 → Cond.not (Cond.eq (tmT 9) (tmT j)) ∈ flatC lawC ∨ Cond.not (Cond.eq (tmT j) (tmT 9)) ∈ flatC lawC := by decide +kernel
theorem tx_ne_10 : ∀ j, j < 10 → Cond.not (Cond.eq (tmT 10) (tmT j)) ∈ flatC lawC ∨ Cond.not (Cond.eq (tmT j) (tmT 10)) ∈ flatC lawC := by decide +kernel
theorem tx_ne_11 : ∀ j, j < 11 → Cond.not (Cond.eq (tmT 11) (tmT j)) ∈ flatC lawC ∨ Cond.not (Cond.eq (tmT j) (tmT 11)) ∈ flatC lawC := by decide +kernel
theorem tx_ne_12 : ∀ j, j < 12 → Cond.not (Cond.eq (tmT 12) (tmT j)) ∈ flatC lawC ∨ Cond.not (Cond.eq (tmT j) (tmT 12)) ∈ flatC lawC := by decide +kernel
theorem tx_ne_13 : ∀ j, j < 13 → Cond.not (Cond.eq (tmT 13) (tmT j)) ∈ flatC lawC ∨ Cond.not (Cond.eq (tmT j) (tmT 13)) ∈ flatC lawC := by decide +kernel
theorem tx_ne_14 : ∀ j, j < 14 → Cond.not (Cond.eq (tmT 14) (tmT j)) ∈ flatC lawC ∨ Cond.not (Cond.eq (tmT j) (tmT 14)) ∈ flatC lawC := by decide +kernel
theorem tx_ne_15 : ∀ j, j < 15 → Cond.not (Cond.eq (tmT 15) (tmT j)) ∈ flatC lawC ∨ Cond.not (Cond.eq (tmT j) (tmT 15)) ∈ flatC lawC := by decide +kernel
theorem tx_ne_16 : ∀ j, j < 16 → Cond.not (Cond.eq (tmT 16) (tmT j)) ∈ flatC lawC ∨ Cond.not (Cond.eq (tmT j) (tmT 16)) ∈ flatC lawC := by decide +kernel
theorem tx_ne_17 : ∀ j, j < 17 → Cond.not (Cond.eq (tmT 17) (tmT j)) ∈ flatC lawC ∨ Cond.not (Cond.eq (tmT j) (tmT 17)) ∈ flatC lawC := by decide +kernel
theorem tx_ne_18 : ∀ j, j < 18 → Cond.not (Cond.eq (tmT 18) (tmT j)) ∈ flatC lawC ∨ Cond.not (Cond.eq (tmT j) (tmT 18)) ∈ flatC lawC := by decide +kernel
theorem tx_ne_19 : ∀ j, j < 19 → Cond.not (Cond.eq (tmT 19) (tmT j)) ∈ flatC lawC ∨ Cond.not (Cond.eq (tmT j) (tmT 19)) ∈ flatC lawC := by decide +kernel
theorem tx_ne_20 : ∀ j, j < 20 → Cond.not (Cond.eq (tmT 20) (tmT j)) ∈ flatC lawC ∨ Cond.not (Cond.eq (tmT j) (tmT 20)) ∈ flatC lawC := by decide +kernel
theorem tx_ne_21 : ∀ j, j < 21 → Cond.not (Cond.eq (tmT 21) (tmT j)) ∈ flatC lawC ∨ Cond.not (Cond.eq (tmT j) (tmT 21)) ∈ flatC lawC := by decide +kernel
theorem tx_ne : ∀ i, i < 22 → ∀ j, j < i → Cond.not (Cond.eq (tmT i) (tmT j)) ∈ flatC lawC ∨ Cond.not (Cond.eq (tmT j) (tmT i)) ∈ flatC lawC := by
  intro i hi
  match i, hi with
  | 0, _ => exact tx_ne_0
  | 1, _ => exact tx_ne_1
  | 2, _ => exact tx_ne_2
  | 3, _ => exact tx_ne_3
  | 4, _ => exact tx_ne_4
  | 5, _ => exact tx_ne_5
  | 6, _ => exact tx_ne_6
  | 7, _ => exact tx_ne_7
  | 8, _ => exact tx_ne_8
  | 9, _ => exact tx_ne_9
  | 10, _ => exact tx_ne_10
  | 11, _ => exact tx_ne_11
  | 12, _ => exact tx_ne_12
  | 13, _ => exact tx_ne_13
  | 14, _ => exact tx_ne_14
  | 15, _ => exact tx_ne_15
  | 16, _ => exact tx_ne_16
  | 17, _ => exact tx_ne_17
  | 18, _ => exact tx_ne_18
  | 19, _ => exact tx_ne_19
  | 20, _ => exact tx_ne_20
  | 21, _ => exact tx_ne_21
  | n + 22, h => exact absurd h (by omega)
theorem tx_rf : ∀ i, i < 22 → Cond.stringRef (txts.getD i ("", 0, "")).1 (txts.getD i ("", 0, "")).2.1 (txts.getD i ("", 0, "")).2.2 ∈ tables_1 := by decide +kernel
theorem wd_ar : Cond.arrayOf (.static "PlanningHouse$Tokens" "WORDS" "[J") .long ∈ flatC lawC := by decide +kernel
theorem wd_le : Cond.eq (.length (.static "PlanningHouse$Tokens" "WORDS" "[J")) (.int (Int32.ofNat 17)) ∈ flatC lawC := by decide +kernel
theorem wd_el : ∀ j, j < 17 → Cond.eq (.elem (.static "PlanningHouse$Tokens" "WORDS" "[J") (.int (Int32.ofNat j))) (.long (wordsF j)) ∈ flatC lawC := by decide +kernel
theorem wd_ls : Cond.laysStatic "PlanningHouse$Tokens" "WORDS" "[J" ∈ tables_1 := by decide +kernel
theorem cs_eq : Cond.eq (.static "java/lang/String" "COMPACT_STRINGS" "Z") (.int 1) ∈ flatC lawC := by decide +kernel
theorem cs_ls : Cond.laysStatic "java/lang/String" "COMPACT_STRINGS" "Z" ∈ tables_1 := by decide +kernel
theorem sf_is : Cond.isRef (.static "jdk/internal/util/Preconditions" "SIOOBE_FORMATTER" "Ljava/util/function/BiFunction;") ∈ flatC lawC := by decide +kernel
theorem sf_ls : Cond.laysStatic "jdk/internal/util/Preconditions" "SIOOBE_FORMATTER" "Ljava/util/function/BiFunction;" ∈ tables_1 := by decide +kernel
theorem ao_in : Cond.arrayOver (.object "PlanningHouse$Problem") ∈ tables_1 := by decide +kernel
theorem nt_in : Cond.initialized "PlanningHouse$Tokens" ∈ tables_1 ∧ Cond.initialized "java/lang/String" ∈ tables_1 ∧ Cond.initialized "jdk/internal/util/Preconditions" ∈ tables_1 := by decide +kernel
theorem arr_of {args : Array Value} {s : State} {ty : FieldType} (hn : ∀ C, ty ≠ .object C) (h : (Cond.arrayClass ty).before args s = true) : ∃ cA : ClassId, ArrOfT s cA ty ∧ va_RA s cA ty := by
  obtain ⟨c, k, comp, h1, h2, h3⟩ := Cond.arrayClass_spec h
  refine ⟨c, fun n z => ⟨fun k h => (by cases h), k, h2, comp, h3⟩, ?_⟩
  unfold va_RA
  split
  · rename_i C
    exact absurd rfl (hn C)
  · exact h1
theorem arr_over {args : Array Value} {s : State} {C : String} (h : (Cond.arrayOver (.object C)).before args s = true) : ∃ cA : ClassId, ArrOfT s cA (.object C) ∧ va_RA s cA (.object C) := by
  obtain ⟨comp, c, k, h1, h2, h3, h4, h5⟩ := Cond.arrayOver_spec h
  exact ⟨c, fun n z => ⟨fun k h => (by cases h), k, h3, comp, h4⟩, k, comp, h3, h4, h1, h5⟩
theorem known_of {args : Array Value} {s : State} (hts : ∀ w ∈ TB, w.before args s = true) {c : Nat} {r : vw_C} (hc : cls13[c]? = some r) (hi : Cond.instantiable r.1 r.2.2 ∈ TB) : ∃ (cC : ClassId) (iS : Nat → Nat), u_Kn s r.1 r.2.1 r.2.2 cC iS := by
  obtain ⟨c0, iS0, h⟩ := u_known (C := r.1) (T := r.2.1) (N := r.2.2) (n := r.2.2) hts (cls_ok hc).2.2 (hts _ hi)
  exact ⟨c0, iS0, h⟩
theorem cls_it {c : Nat} {r : vw_C} (hc : cls13[c]? = some r) : Cond.instantiable r.1 r.2.2 ∈ TB := by
  match c, hc with
  | 0, h => have e : some (cn_0, ct_0, 2) = some r := h; cases e; exact it_0
  | 1, h => have e : some (cn_1, ct_1, 6) = some r := h; cases e; exact it_1
  | 2, h => have e : some (cn_2, ct_2, 15) = some r := h; cases e; exact it_2
  | 3, h => have e : some (cn_3, ct_3, 19) = some r := h; cases e; exact it_3
  | 4, h => have e : some (cn_4, ct_4, 3) = some r := h; cases e; exact it_4
  | 5, h => have e : some (cn_5, ct_5, 11) = some r := h; cases e; exact it_5
  | 6, h => have e : some (cn_6, ct_6, 14) = some r := h; cases e; exact it_6
  | 7, h => have e : some (cn_7, ct_7, 5) = some r := h; cases e; exact it_7
  | 8, h => have e : some (cn_8, ct_8, 5) = some r := h; cases e; exact it_8
  | 9, h => have e : some (cn_9, ct_9, 8) = some r := h; cases e; exact it_9
  | 10, h => have e : some (cn_10, ct_10, 12) = some r := h; cases e; exact it_10
  | 11, h => have e : some (cn_11, ct_11, 12) = some r := h; cases e; exact it_11
  | 12, h => have e : some (cn_12, ct_12, 95) = some r := h; cases e; exact it_12
  | n + 13, h => simp [cls13] at h
/-- the static of the JDK's takes one local -/
def eFr (E : EE) : Prop := ∃ a : Nat, eF E = vr a ∨ eF E = vs a
theorem env_of (l : Launch) {s : State} {b L : Nat} {xs : Nat → Int32} (hts : ∀ w ∈ lw_tbl, w.before #[Value.ref b] s = true) (hX : va_X b L xs s s.heap) (hbl : b < s.heap.size) (hgv : (Jvm.Cond.and given_1 narrow_1).before #[Value.ref b] s = true) :
    ∃ E : EE, E.1 = l ∧ eB E = s.heap.size ∧ eS E = (b, L, xs) ∧ RO E s ∧ va_K (eD E) cls13 (tys5 E) s ∧ eFr E := by
  have hflat : ∀ w ∈ flatC lawC, w.before #[Value.ref b] s = true := flat_of_before lawC hgv
  have htb : ∀ w ∈ TB, w.before #[Value.ref b] s = true := fun w hw => hts w (List.mem_filter.mp hw).1
  have ht1 : ∀ w ∈ tables_1, w.before #[Value.ref b] s = true := fun w hw => hts w (in_lw hw)
  let A : Nat → Prop := fun q => s.heap.size ≤ q
  have hA : ∀ a : Nat, a < s.heap.size → ¬ A a := fun a h => Nat.not_le.mpr h
  obtain ⟨adK, adV, hS, hev⟩ := vk_Sof (args := #[Value.ref b]) (s := s) (N := 22) (tm := tmT) (len := txLen) (byt := txByt) (A := A) (by decide) (fun i hi => hflat _ (tx_ex i hi)) (fun i hi => hflat _ (tx_co i hi)) (fun i hi => hflat _ (tx_ar i hi)) (fun i hi => hflat _ (tx_le i hi)) (fun i hi j hj => hflat _ (tx_el i hi j hj))
    (fun i j hi hj hne => by
      rcases Nat.lt_or_gt_of_ne hne with h | h
      · rcases tx_ne j hj i h with q | q
        · exact Or.inr (hflat _ q)
        · exact Or.inl (hflat _ q)
      · rcases tx_ne i hi j h with q | q
        · exact Or.inl (hflat _ q)
        · exact Or.inr (hflat _ q)) hA
  obtain ⟨aW, hWe, hWT⟩ := va_Tof (args := #[Value.ref b]) (s := s) (tm := .static "PlanningHouse$Tokens" "WORDS" "[J") (ty := .long) (N := 17) (f := fun j => .long (wordsF j)) (A := A) (by decide) (hflat _ wd_ar) (va_eqt (hflat _ wd_le)) (fun j hj => va_eqtl (hflat _ (wd_el j hj))) hA
  have hWZ : va_Z "PlanningHouse$Tokens" "WORDS" "[J" (.ref aW) A s s.heap := va_Zof (ht1 _ wd_ls) (ht1 _ nt_in.1) hWe hA
  have hCZ : va_Z "java/lang/String" "COMPACT_STRINGS" "Z" (.int 1) A s s.heap := va_Zof (ht1 _ cs_ls) (ht1 _ nt_in.2.1) (va_eqi (hflat _ cs_eq)) hA
  obtain ⟨vf, hFZ, hFr⟩ : ∃ vf : AV, va_Z "jdk/internal/util/Preconditions" "SIOOBE_FORMATTER" "Ljava/util/function/BiFunction;" (cv vf) A s s.heap ∧ ∃ a : Nat, vf = vr a ∨ vf = vs a := by
    rcases va_Zqof (A := A) (ht1 _ sf_ls) (ht1 _ nt_in.2.2) (hflat _ sf_is) hA with h | ⟨t, h⟩
    · exact ⟨vr 0, by rw [show cv (vr 0) = Value.null from rv_0]; exact h, 0, Or.inl rfl⟩
    · exact ⟨vs t, h, t, Or.inr rfl⟩
  obtain ⟨c13, q13⟩ := arr_of (by intro C h; cases h) (htb _ ac_byte)
  obtain ⟨c14, q14⟩ := arr_of (by intro C h; cases h) (htb _ ac_int)
  obtain ⟨c15, q15⟩ := arr_of (by intro C h; cases h) (htb _ ac_long)
  obtain ⟨c16, q16⟩ := arr_of (by intro C h; cases h) (htb _ ac_boolean)
  obtain ⟨c17, q17⟩ := arr_over (ht1 _ ao_in)
  have hcl : ∀ c : Nat, ∃ q : ClassId × (Nat → Nat), ∀ r : vw_C, cls13[c]? = some r → u_Kn s r.1 r.2.1 r.2.2 q.1 q.2 := by
    intro c
    cases hc : cls13[c]? with
    | none => exact ⟨(0, fun _ => 0), fun r h => by cases h⟩
    | some r =>
      obtain ⟨cC, iS, h⟩ := known_of htb hc (cls_it hc)
      exact ⟨(cC, iS), fun r' h' => by cases h'; exact h⟩
  let q := fun c => (hcl c).choose
  have hq : ∀ (c : Nat) (r : vw_C), cls13[c]? = some r → u_Kn s r.1 r.2.1 r.2.2 (q c).1 (q c).2 := fun c => (hcl c).choose_spec
  let cA : Nat → ClassId := fun k => if k = 13 then c13 else if k = 14 then c14 else if k = 15 then c15 else if k = 16 then c16 else c17
  refine ⟨(l, (fun c => (q c).1, fun c => (q c).2), cA, s.heap.size, (b, L, xs), aW, adK, adV, vf), rfl, rfl, rfl, ⟨hX, hbl, Nat.le_refl _, hWZ, hWT, hCZ, fun i z hi => ?_, hS, ht1 _ ao_in, hFZ⟩, ⟨hq, fun k z hz => ?_⟩, hFr⟩
  · have hi22 : i < 22 := (List.getElem?_eq_some_iff.mp hi).1
    have e : txts.getD i ("", 0, "") = z := by rw [List.getD_eq_getElem?_getD, hi]; rfl
    have h1 := ht1 _ (tx_rf i hi22)
    have h2 := hev i hi22
    unfold tmT at h2
    rw [e] at h1 h2
    exact vk_R.of h1 h2
  · match k, hz with
    | 0, h => have e : some (c13, FieldType.byte) = some z := h; cases e; exact q13
    | 1, h => have e : some (c14, FieldType.int) = some z := h; cases e; exact q14
    | 2, h => have e : some (c15, FieldType.long) = some z := h; cases e; exact q15
    | 3, h => have e : some (c16, FieldType.boolean) = some z := h; cases e; exact q16
    | 4, h => have e : some (c17, FieldType.object "PlanningHouse$Problem") = some z := h; cases e; exact q17
    | n + 5, h => simp [tys5] at h
