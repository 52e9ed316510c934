/-! the class's walk over the front -/
theorem i32_bd (x : Int32) : -2147483648 ≤ x.toInt ∧ x.toInt ≤ 2147483647 := ⟨Int32.le_toInt x, by have := Int32.toInt_lt x; omega⟩
theorem wsR_bd {lv : Nat → Nat} {wt : Nat → Int32} {D : Nat → Den} {fa se : Nat → Int32} {nr : Nat} (hw : ∀ r, r < nr → ∃ w : Nat, wt r = nI w ∧ w ≤ 1000) (h24 : nr ≤ 24) : ∀ m : Nat, m ≤ nr → ∀ l, -((m : Int) * 2147483648000) ≤ (wsR lv wt D fa se m l).toInt ∧ (wsR lv wt D fa se m l).toInt ≤ (m : Int) * 2147483648000 := by
  intro m
  induction m with
  | zero => intro _ l; rw [wsR_0]; exact ⟨by decide, by decide⟩
  | succ m ih =>
    intro hm l
    obtain ⟨i1, i2⟩ := ih (by omega) l
    by_cases c : l = lv m
    · subst c
      obtain ⟨w, ew, w2⟩ := hw m (by omega)
      obtain ⟨t1, t2⟩ := i32_bd (D m fa se)
      have ewi : (wt m).toInt = (w : Int) := by rw [ew]; exact Int32.toInt_ofNat_of_lt (by omega)
      have p1 : (w : Int) * (D m fa se).toInt ≤ (w : Int) * 2147483648 := Int.mul_le_mul_of_nonneg_left (by omega) (by omega)
      have p2 : (w : Int) * (-2147483648) ≤ (w : Int) * (D m fa se).toInt := Int.mul_le_mul_of_nonneg_left (by omega) (by omega)
      have em : (Int32.toInt64 (wt m) * Int32.toInt64 (D m fa se)).toInt = (w : Int) * (D m fa se).toInt := by
        rw [Int64.toInt_mul, Int32.toInt_toInt64, Int32.toInt_toInt64, ewi]
        exact Int.bmod_eq_of_le (by omega) (by omega)
      rw [wsR_at]
      have es : (wsR lv wt D fa se m (lv m) + Int32.toInt64 (wt m) * Int32.toInt64 (D m fa se)).toInt = (wsR lv wt D fa se m (lv m)).toInt + (w : Int) * (D m fa se).toInt := by
        rw [Int64.toInt_add, em]
        exact Int.bmod_eq_of_le (by omega) (by omega)
      rw [es]
      omega
    · rw [wsR_ne c]
      omega
theorem wsA_bd {al : Nat → Nat} {DA : Nat → Den} {fa se : Nat → Int32} {s0 : Nat → Int64} (h0 : ∀ l, -52000000000000 ≤ (s0 l).toInt ∧ (s0 l).toInt ≤ 52000000000000) : ∀ m : Nat, m ≤ 6 → ∀ l, -(52000000000000 + (m : Int) * 2147483648) ≤ (wsA al DA fa se s0 m l).toInt ∧ (wsA al DA fa se s0 m l).toInt ≤ 52000000000000 + (m : Int) * 2147483648 := by
  intro m
  induction m with
  | zero => intro _ l; rw [wsA_0]; have := h0 l; omega
  | succ m ih =>
    intro hm l
    obtain ⟨i1, i2⟩ := ih (by omega) l
    by_cases c : l = al m
    · subst c
      obtain ⟨t1, t2⟩ := i32_bd (DA m fa se)
      rw [wsA_at]
      have es : (wsA al DA fa se s0 m (al m) + Int32.toInt64 (DA m fa se)).toInt = (wsA al DA fa se s0 m (al m)).toInt + (DA m fa se).toInt := by
        rw [Int64.toInt_add, Int32.toInt_toInt64]
        exact Int.bmod_eq_of_le (by omega) (by omega)
      rw [es]
      omega
    · rw [wsA_ne c]
      omega
theorem scQ_bd {t : Nat → Int32} {n : Nat} {R : List SR} {nt : Nat → Int32} (hs : PrS t n R nt) (fa : Nat → Int32) (p l : Nat) : -53000000000000 ≤ (scQ R nt fa p l).toInt ∧ (scQ R nt fa p l).toInt ≤ 53000000000000 := by
  have r24 : tcR R 2 ≤ 24 := hs.2.2.2.1.1 2 (by decide)
  have a6 : tcR R 3 ≤ 6 := hs.2.2.2.1.1 3 (by decide)
  have b := wsA_bd (al := aln R) (DA := DRa R nt) (fa := fa) (se := sn (szR R) (tcR R 1) (vlR R) p) (s0 := wsR (lvn R) (wtR R) (DR R nt) fa (sn (szR R) (tcR R 1) (vlR R) p) (tcR R 2)) (fun l => by
    have := wsR_bd (lv := lvn R) (wt := wtR R) (D := DR R nt) (fa := fa) (se := sn (szR R) (tcR R 1) (vlR R) p) (nr := tcR R 2) (fun r hr => by
      obtain ⟨_, _, ⟨w, ew, _, w2⟩, _⟩ := hs.rule hr
      exact ⟨w, ew, w2⟩) r24 (tcR R 2) (Nat.le_refl _) l
    omega) (tcR R 3) a6 l
  show -53000000000000 ≤ (wsA (aln R) (DRa R nt) fa (sn (szR R) (tcR R 1) (vlR R) p) (wsR (lvn R) (wtR R) (DR R nt) fa (sn (szR R) (tcR R 1) (vlR R) p) (tcR R 2)) (tcR R 3) l).toInt ∧ (wsA (aln R) (DRa R nt) fa (sn (szR R) (tcR R 1) (vlR R) p) (wsR (lvn R) (wtR R) (DR R nt) fa (sn (szR R) (tcR R 1) (vlR R) p) (tcR R 2)) (tcR R 3) l).toInt ≤ 53000000000000
  omega
def wfS (g : Nat) : Nat → Nat → Nat → Prop := fun a f i => a = g ∧ (f = 19 ∧ 2 < i ∨ f = 20)
/-- plans that stand together in a sorted row -/
theorem grp_cnt {sc : Nat → Nat → Int64} {G : List Nat} {L : Nat → Nat} {m j e : Nat} (hG : G.Nodup) (hm : ∀ p, p ∈ G ↔ ∃ a, a < m ∧ L a = p) (hi : Inj m L) (hj : j < e) (he : e ≤ m) (same : ∀ a, j ≤ a → a < e → smp sc (L j) (L a) = true) (low : ∀ a, a < j → smp sc (L j) (L a) = false) (high : ∀ a, e ≤ a → a < m → smp sc (L j) (L a) = false) : cnP sc G (L j) = e - j := by
  unfold cnP
  have n1 : ((List.range' j (e - j)).map L).Nodup := by
    show List.Pairwise _ _
    rw [List.pairwise_map]
    refine List.Pairwise.imp_of_mem (fun {a b} ha hb h z => ?_) (List.nodup_range' (s := j) (n := e - j) 1)
    have ha := List.mem_range'_1.mp ha
    have hb := List.mem_range'_1.mp hb
    exact h (hi a b (by omega) (by omega) z)
  have n2 : (G.filter (smp sc (L j))).Nodup := List.Pairwise.filter _ hG
  have := ((List.perm_ext_iff_of_nodup n2 n1).mpr (fun p => by
    rw [List.mem_filter, List.mem_map, hm p]
    constructor
    · rintro ⟨⟨a, ha, rfl⟩, s⟩
      refine ⟨a, List.mem_range'_1.mpr ⟨?_, ?_⟩, rfl⟩
      · exact Nat.le_of_not_lt (fun z => by rw [low a z] at s; exact Bool.noConfusion s)
      · have : a < e := Nat.lt_of_not_le (fun z => by rw [high a z ha] at s; exact Bool.noConfusion s)
        omega
    · rintro ⟨a, ha, rfl⟩
      have ha := List.mem_range'_1.mp ha
      exact ⟨⟨a, by omega, rfl⟩, same a (by omega) (by omega)⟩)).length_eq
  rw [this, List.length_map, List.length_range']
section
variable {E : EE} {d : Nat} {V : VH} {g np : Nat} {st : Nat → Int32} {sc : Nat → Nat → Int64}
theorem smp_iff {p q : Nat} : smp sc p q = true ↔ (sc q 1).toInt = (sc p 1).toInt ∧ (sc q 2).toInt = (sc p 2).toInt := by
  unfold smp
  rw [decide_eq_true_iff, Int64.toInt_inj, Int64.toInt_inj]
/-- the walk over a sorted row -/
theorem c_walk_go {m : Nat} {L : Nat → Nat} {G : List Nat} {x2 : Int32} {K : Int32 → VH → Prop} (h0 : 1 < d) (hg : PG (vL V) g) (hT : Tb V g np st sc) (hm : m ≤ vN V g 20) (h2 : np ≤ 20000) (e3 : vI V g 19 3 = nI m) (l0 : LF V g m L) (hl : ∀ j, j < m → L j < np) (hi : Inj m L) (hs : ∀ a b, a < b → b < m → bhd sc (L b) (L a) = true) (hG : G.Nodup) (hmm : ∀ p, p ∈ G ↔ ∃ a, a < m ∧ L a = p) (hx : ∀ p, p < np → (sc p 2).toInt < 9223372036854775807)
    (hk : ∀ V' n F, Fc V V' (wfS g) → FrC sc G n F → n ≤ m → (∀ k, k < 2 ^ 31 → x2 = nI k → k < n → vI V' g 19 4 = nI (F k) ∧ vI V' g 19 5 = nI (cnP sc G (F k))) → K (nI n) V') :
    ∀ (f j i s : Nat) (V1 : VH) (F : Nat → Nat) (low : Int64), j + f = m → i ≤ j → s ≤ j → Fc V V1 (fun a f i => a = g ∧ f = 19 ∧ (i = 4 ∨ i = 5)) → (∀ a, a < i → IsN sc G (lmF sc F a) (F a)) → (i = 0 → low = 9223372036854775807 ∧ j = 0) → (0 < i → low = sc (F (i - 1)) 2 ∧ ∀ a, a < j → low.toInt ≤ (sc (L a) 2).toInt) → (∀ k, k < 2 ^ 31 → x2 = nI k → k < i → vI V1 g 19 4 = nI (F k) ∧ vI V1 g 19 5 = nI (cnP sc G (F k))) →
      vwp E d M_X9_walkFront 27 [some (sl g 19), some (sl g 0), some (wi x2), some (wi (nI i)), some (wj low), none, some (wi (nI j)), some (wi (nI s)), none, none] [] V1 (zi K) := by
  have m2 : vN V g 20 ≤ 20000 := by have := hT.2.1; have := hT.2.2.1; omega
  intro f
  induction f using Nat.strongRecOn with
  | ind f ih =>
    intro j i s V1 F low ej hij hsj f1 hF h00 h01 hst
    have hg1 : PG (vL V1) g := by rw [f1.l]; exact hg
    have p3 : vI V1 g 19 3 = nI m := by rw [f1.i (fun z => by have := z.2.2; omega)]; exact e3
    have n1 : vN V1 = vN V := f1.n
    have T1 : Tb V1 g np st sc := hT.fc f1 (fun i => ⟨fun z => by have := z.2; omega, fun z => by have := z.2; omega⟩)
    have l1 : LF V1 g m L := fun a ha => by rw [f1.i (fun z => by have := z.2; omega)]; exact l0 a ha
    by_cases c : f = 0
    · subst c
      have jm : j = m := by omega
      have fin : K (nI i) V1 := hk V1 i F (f1.mono (fun a f i y => ⟨y.1, by have := y.2; omega⟩)) ⟨hF, fun q hq z => by
        by_cases i0 : i = 0
        · obtain ⟨_, j0⟩ := h00 i0
          obtain ⟨a, ha, _⟩ := (hmm q).mp hq
          omega
        · obtain ⟨a, ha, e⟩ := (hmm q).mp hq
          obtain ⟨el, hlo⟩ := h01 (by omega)
          have := hlo a (by omega)
          have z := z _ (by unfold lmF; rw [if_neg i0])
          rw [e, el] at this
          omega⟩ (by omega) hst
      refine w_X9_walkFront_27 hg1 ⟨fun _ => fin, fun _ => ⟨fun _ => fin, fun z => absurd ?_ z⟩⟩
      rw [p3]; exact nI_le (by omega) (by omega)
    · have hjm : j < m := by omega
      refine w_X9_walkFront_27 hg1 ⟨fun z => absurd z (nI_ge (b := 20000) (by omega) (by decide)), fun _ => ⟨fun z => absurd z (by rw [p3]; exact nI_ge hjm (by omega)), fun _ => ?_⟩⟩
      rw [n1, nI_clamp (show j < 2 ^ 31 by omega), l1 j hjm, nI_1]
      refine ⟨vp_in_nI (by omega) (by omega), ?_⟩
      -- the group of the same pair
      have inner : ∀ (r e : Nat), e + r = m → j < e → (∀ a, j ≤ a → a < e → smp sc (L j) (L a) = true) → vwp E d M_X9_walkFront 60 [some (sl g 19), some (sl g 0), some (wi x2), some (wi (nI i)), some (wj low), none, some (wi (nI e)), some (wi (nI s)), some (wi (nI (L j))), some (wi (nI j))] [] V1 (zi K) := by
        have stop : ∀ e, e ≤ m → j < e → (∀ a, j ≤ a → a < e → smp sc (L j) (L a) = true) → (e < m → smp sc (L j) (L e) = false) → vwp E d M_X9_walkFront 91 [some (sl g 19), some (sl g 0), some (wi x2), some (wi (nI i)), some (wj low), none, some (wi (nI e)), some (wi (nI s)), some (wi (nI (L j))), some (wi (nI j))] [] V1 (zi K) := by
          intro e he hje same last
          refine w_X9_walkFront_91 hg1 (by omega) (c_scoreOf (l := 2) hg1 T1 (hl j hjm) (by decide) ⟨fun z => c_scoreOf (l := 2) hg1 T1 (hl j hjm) (by decide) ?_, fun z => ?_⟩)
          · have z' := Int64.lt_iff_toInt_lt.mp z
            have lowj : ∀ a, a < j → low.toInt ≤ (sc (L a) 2).toInt := fun a ha => by
              by_cases i0 : i = 0
              · have := (h00 i0).2; omega
              · exact (h01 (by omega)).2 a ha
            have isn : IsN sc G (lmF sc F i) (L j) := by
              refine ⟨(hmm _).mpr ⟨j, hjm, rfl⟩, fun u hu => ?_, fun q hq cq => ?_⟩
              · unfold lmF at hu
                by_cases i0 : i = 0
                · rw [if_pos i0] at hu; exact absurd hu (by simp)
                · rw [if_neg i0] at hu
                  rw [← Option.some.inj hu, ← (h01 (by omega)).1]
                  exact z'
              · obtain ⟨b, hb, e⟩ := (hmm q).mp hq
                by_cases bj : b < j
                · have lb := lowj b bj
                  by_cases i0 : i = 0
                  · have := (h00 i0).2; omega
                  · have := cq _ (by unfold lmF; rw [if_neg i0])
                    rw [← (h01 (by omega)).1, ← e] at this
                    omega
                · by_cases be : b = j
                  · exact Or.inl (by rw [← e, be])
                  · rw [← e]; exact Or.inr (hs j b (by omega) hb)
            have cn : cnP sc G (L j) = e - j := by
              refine grp_cnt hG hmm hi hje he same (fun a ha => ?_) (fun a ha hma => ?_)
              · have := lowj a ha
                cases w : smp sc (L j) (L a) with
                | false => rfl
                | true => have := (smp_iff.mp w).2; omega
              · have l1 := last (by omega)
                cases w : smp sc (L j) (L a) with
                | false => rfl
                | true =>
                  have w := smp_iff.mp w
                  have b1 := bhd_iff.mp (hs j e hje (by omega))
                  have : smp sc (L j) (L e) = true := smp_iff.mpr (by
                    by_cases ae : a = e
                    · rw [← ae]; exact w
                    · have b2 := bhd_iff.mp (hs e a (by omega) hma)
                      omega)
                  rw [this] at l1
                  exact Bool.noConfusion l1
            have go : ∀ V2, Fc V V2 (fun a f i => a = g ∧ f = 19 ∧ (i = 4 ∨ i = 5)) → (∀ k, k < 2 ^ 31 → x2 = nI k → k < i + 1 → vI V2 g 19 4 = nI ((fun a => if a = i then L j else F a) k) ∧ vI V2 g 19 5 = nI (cnP sc G ((fun a => if a = i then L j else F a) k))) → vwp E d M_X9_walkFront 136 [some (sl g 19), some (sl g 0), some (wi x2), some (wi (nI i)), some (wj (sc (L j) 2)), none, some (wi (nI e)), some (wi (nI s)), some (wi (nI (L j))), some (wi (nI j))] [] V2 (zi K) := fun V2 f2 st2 => by
              have hg2 : PG (vL V2) g := by rw [f2.l]; exact hg
              refine w_X9_walkFront_136 hg2 (w_X9_walkFront_139 hg2 ?_)
              rw [nI_1, nI_1]
              refine ih (m - e) (by omega) e (i + 1) (s + 1) V2 (fun a => if a = i then L j else F a) _ (by omega) (by omega) (by omega) f2 (fun a ha => ?_) (fun z => absurd z (Nat.succ_ne_zero i)) (fun _ => ⟨?_, fun a ha => ?_⟩) st2
              · have lm : lmF sc (fun a => if a = i then L j else F a) a = lmF sc F a := by
                  unfold lmF
                  by_cases a0 : a = 0
                  · rw [if_pos a0, if_pos a0]
                  · rw [if_neg a0, if_neg a0]
                    show some (sc (if a - 1 = i then L j else F (a - 1)) 2).toInt = _
                    rw [if_neg (by omega)]
                rw [lm]
                show IsN sc G (lmF sc F a) (if a = i then L j else F a)
                by_cases ai : a = i
                · rw [if_pos ai, ai]; exact isn
                · rw [if_neg ai]; exact hF a (by omega)
              · show sc (L j) 2 = sc (if i + 1 - 1 = i then L j else F (i + 1 - 1)) 2
                rw [if_pos (Nat.add_sub_cancel i 1)]
              · by_cases aj : a < j
                · have := lowj a aj; omega
                · have := (smp_iff.mp (same a (by omega) ha)).2; omega
            refine ⟨fun w => go V1 f1 (fun k hk32 hk hki => ?_), fun w V9 e9 V10 e10 => go V10 ?_ (fun k hk32 hk hki => ?_)⟩
            · have : k ≠ i := fun z => w (by rw [hk, z])
              show vI V1 g 19 4 = nI (if k = i then L j else F k) ∧ vI V1 g 19 5 = nI (cnP sc G (if k = i then L j else F k))
              rw [if_neg this]
              exact hst k hk32 hk (by omega)
            · have k9 : Fc V1 V9 (fun a f i => a = g ∧ f = 19 ∧ (i = 4 ∨ i = 5)) := by rw [e9]; exact Fc_wrI ⟨rfl, rfl, Or.inl rfl⟩
              have k10 : Fc V9 V10 (fun a f i => a = g ∧ f = 19 ∧ (i = 4 ∨ i = 5)) := by rw [e10]; exact Fc_wrI ⟨rfl, rfl, Or.inr rfl⟩
              exact f1.trans (k9.trans k10)
            · have ki : k = i := ((nI_eq (by omega) hk32).mp (w.trans hk)).symm
              show vI V10 g 19 4 = nI (if k = i then L j else F k) ∧ vI V10 g 19 5 = nI (cnP sc G (if k = i then L j else F k))
              rw [if_pos ki, cn, e10, wrI_ne (fun z => by omega), e9, wrI_at, wrI_at, nI_sub (by omega)]
              exact ⟨rfl, rfl⟩
          · have z' : low.toInt ≤ (sc (L j) 2).toInt := Int.not_lt.mp (fun w => z (Int64.lt_iff_toInt_lt.mpr w))
            have i0 : i ≠ 0 := fun w => by
              have := hx (L j) (hl j hjm)
              rw [(h00 w).1] at z'
              have : (9223372036854775807 : Int64).toInt = 9223372036854775807 := by decide
              omega
            refine w_X9_walkFront_139 hg1 ?_
            rw [nI_1]
            refine ih (m - e) (by omega) e i (s + 1) V1 F low (by omega) (by omega) (by omega) f1 hF (fun w => absurd w i0) (fun w => ⟨(h01 w).1, fun a ha => ?_⟩) hst
            by_cases aj : a < j
            · exact (h01 w).2 a aj
            · have := (smp_iff.mp (same a (by omega) ha)).2; omega
        intro r
        induction r with
        | zero =>
          intro e he hje same
          exact w_X9_walkFront_60 hg1 (by omega) ⟨fun _ => stop e (by omega) hje same (fun z => by omega), fun z => absurd (by rw [p3]; exact nI_le (by omega) (by omega)) z⟩
        | succ r ih2 =>
          intro e he hje same
          refine w_X9_walkFront_60 hg1 (by omega) ⟨fun z => absurd z (by rw [p3]; exact nI_ge (by omega) (by omega)), fun _ => ?_⟩
          rw [n1, nI_clamp (show e < 2 ^ 31 by omega), l1 e (by omega)]
          refine ⟨vp_in_nI (by omega) (by omega), c_isSamePair (by omega) hg1 T1 (hl e (by omega)) (hl j hjm) ⟨fun z => ?_, fun z => ?_⟩⟩
          · rw [bI_0] at z
            exact stop e (by omega) hje same (fun _ => z)
          · rw [bI_1] at z
            rw [nI_1]
            exact ih2 (e + 1) (by omega) (by omega) (fun a h1 h2 => by
              by_cases ae : a = e
              · rw [ae]; exact z
              · exact same a h1 (by omega))
      exact inner (m - (j + 1)) (j + 1) (by omega) (Nat.lt_succ_self j) (fun a h1 h2 => by rw [show a = j by omega]; exact smp_iff.mpr ⟨rfl, rfl⟩)
end
section
variable {E : EE} {d : Nat} {V V' : VH} {q B : Nat} {t : Nat → Int32} {n : Nat} {R : List SR} {nt fa : Nat → Int32} {h h' : Nat} {x b : Int32} {cs : Nat → Int32}
theorem c_walkFront {x2 : Int32} {K : Int32 → VH → Prop} (h0 : 4 < d) (hI : PbI V q t n R nt fa h x cs) (s : Scd V q R nt fa)
    (hk : ∀ V' m F, Fc V V' (wfS (q + 1)) → FrC (scQ R nt fa) (gdR R nt fa h x) m F → m ≤ plR R → (∀ k, k < 2 ^ 31 → x2 = nI k → k < m → vI V' (q + 1) 19 4 = nI (F k) ∧ vI V' (q + 1) 19 5 = nI (cnP (scQ R nt fa) (gdR R nt fa h x) (F k))) → K (nI m) V') : vMI E d M_X9_walkFront [sl (q + 1) 19, sl (q + 1) 0, wi x2] V K := by
  have p20 := hI.p20
  refine w_X9_walkFront_0 hI.2.1.1 (by omega) ?_
  rw [hI.2.1.2.2.2.2.2.2.2.2.2.1]
  refine c_gatherQ (by omega) hI s (fun V1 f1 l1 => ?_)
  have hg1 : PG (vL V1) (q + 1) := by rw [f1.l]; exact hI.2.1.1
  have T1 : Tb V1 (q + 1) (plR R) (stQ R nt fa) (scQ R nt fa) := s.1.fc f1 (fun i => ⟨fun y => by have := y.2; omega, fun y => by have := y.2; omega⟩)
  have gl : (gdR R nt fa h x).length ≤ plR R := Nat.le_trans (List.length_filter_le _ _) (by rw [List.length_range]; exact Nat.le_refl _)
  have nd : (gdR R nt fa h x).Nodup := List.Pairwise.filter _ List.nodup_range
  have hm : (gdR R nt fa h x).length ≤ vN V1 (q + 1) 20 := by have := T1.1; have := T1.2.2.1; omega
  have getI : Inj (gdR R nt fa h x).length (fun j => (gdR R nt fa h x).getD j 0) := fun a b ha hb e => by
    have e : (gdR R nt fa h x).getD a 0 = (gdR R nt fa h x).getD b 0 := e
    rw [List.getD_eq_getElem?_getD, List.getD_eq_getElem?_getD, List.getElem?_eq_getElem ha, List.getElem?_eq_getElem hb] at e
    exact (List.getElem_inj nd).mp e
  refine c_sort (m := (gdR R nt fa h x).length) (L := fun j => (gdR R nt fa h x).getD j 0) (by omega) hg1 T1 hm p20 l1.1 l1.2 (fun j hj => gd_lt (getD_mem hj)) getI (fun V2 L2 f2 l2 pm ij so => ?_)
  have hmm : ∀ p, p ∈ gdR R nt fa h x ↔ ∃ a, a < (gdR R nt fa h x).length ∧ L2 a = p := fun p => by
    constructor
    · intro hp
      obtain ⟨a, ha, e⟩ := List.getElem_of_mem hp
      obtain ⟨b, hb, e2⟩ := pm.1 a ha
      refine ⟨b, hb, ?_⟩
      rw [e2]
      show (gdR R nt fa h x).getD a 0 = p
      rw [List.getD_eq_getElem?_getD, List.getElem?_eq_getElem ha]
      exact e
    · rintro ⟨a, ha, rfl⟩
      obtain ⟨b, hb, e2⟩ := pm.2 a ha
      rw [← e2]
      exact getD_mem hb
  have lt2 : ∀ j, j < (gdR R nt fa h x).length → L2 j < plR R := fun j hj => gd_lt ((hmm _).mpr ⟨j, hj, rfl⟩)
  have f12 : Fc V V2 (wfS (q + 1)) := (f1.mono (fun a f i y => ⟨y.1, by have := y.2; omega⟩)).trans (f2.mono (fun a f i y => ⟨y.1, Or.inr y.2⟩))
  refine c_walk_go (V := V2) (K := K) (F := fun _ => 0) (by omega) (by rw [f2.l]; exact hg1) (T1.fc f2 (fun i => ⟨fun y => by have := y.2; omega, fun y => by have := y.2; omega⟩)) (by rw [f2.n]; exact hm) p20 (by rw [f2.i (fun y => by have := y.2; omega)]; exact l1.1) l2 lt2 ij so nd hmm (fun p _ => by have := scQ_bd hI.1 fa p 2; omega) (fun V' n F f' fr hn st => hk V' n F (f12.trans f') fr (by omega) st) (gdR R nt fa h x).length 0 0 0 V2 9223372036854775807 (Nat.zero_add _) (Nat.le_refl 0) (Nat.le_refl 0) Fc.refl (fun a ha => absurd ha (Nat.not_lt_zero a)) (fun _ => ⟨rfl, rfl⟩) (fun z => absurd z (Nat.lt_irrefl 0)) (fun k _ _ hk => absurd hk (Nat.not_lt_zero k))
end
