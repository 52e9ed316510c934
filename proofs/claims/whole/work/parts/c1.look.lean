/-! the class works out which sets suffice -/
def s15 (a f _j : Nat) : Prop := a = 0 ∧ f = 15
section
variable {E : EE} {d : Nat} {V V' V1 V2 : VH} {q B : Nat} {t : Nat → Int32} {n : Nat} {R : List SR} {nt fa : Nat → Int32} {h h' : Nat} {x b : Int32} {cs : Nat → Int32}
theorem Scd.fz {S : Nat → Nat → Nat → Prop} (s : Scd V q R nt fa) (k : Fc V V' S) (z : ∀ a f j, S a f j → a = 0) : Scd V' q R nt fa := ⟨s.1.fc k (fun i => ⟨fun y => absurd (z _ _ _ y) (by omega), fun y => absurd (z _ _ _ y) (by omega)⟩), by rw [k.i (fun y => absurd (z _ _ _ y) (by omega))]; exact s.2⟩
theorem LsH.fc (hl : LsH V R) (k : Fc V V' s15) : LsH V' R := ⟨by rw [k.i (fun y => by have := y.2; omega)]; exact hl.1, fun j hj => by rw [k.i (fun y => by have := y.2; omega)]; exact hl.2 j hj⟩
/-- sets below k suffice by one rule less; from k on by themselves -/
theorem look_dp {K : Int32 → VH → Prop} {x3 : Int32} (h12 : (HL R).length ≤ 12) (hg : PG (vL V) (q + 1)) (hl : LsH V R) (n1 : 4096 ≤ vN V 0 15) (n2 : vN V 0 15 < 2 ^ 31) {L : List Nat} (hk : ∀ V', Fc V V' s15 → SfC V' R nt fa L → K (nI (2 ^ (HL R).length - 1)) V') :
    ∀ r k V1, k + r = 2 ^ (HL R).length → 0 < k → Fc V V1 s15 → (∀ m, m < k → vI V1 0 15 m = bI (suB R nt fa L (nI m))) → (∀ m, k ≤ m → m < 2 ^ (HL R).length → vI V1 0 15 m = bI (exB R nt fa L m)) → vwp E d M_X1_lookAtSets 126 [some (sl 0 10), some (sl (q + 1) 0), some (wi (nI (2 ^ (HL R).length - 1))), some (wi x3), some (wi (nI k)), none] [] V1 (zi K) := by
  have p2 := two12 h12
  have p0 : 0 < 2 ^ (HL R).length := Nat.two_pow_pos _
  intro r
  induction r with
  | zero =>
    intro k V1 e k0 f1 lo hi
    have ek : k = 2 ^ (HL R).length := by omega
    refine w_X1_lookAtSets_126 (by rw [f1.l]; exact hg) ⟨fun _ => hk V1 f1 ⟨hl.fc f1, by rw [f1.n]; exact n1, by rw [f1.n]; exact n2, fun m hm => lo m (by omega)⟩, fun z => absurd ?_ z⟩
    exact Int32.not_le.mp (nI_ge (by omega) (by omega))
  | succ r ih =>
    intro k V1 e k0 f1 lo hi
    have hk2 : k < 2 ^ (HL R).length := by omega
    have hg1 : PG (vL V1) (q + 1) := by rw [f1.l]; exact hg
    refine w_X1_lookAtSets_126 hg1 ⟨fun z => absurd z (Int32.not_lt.mpr (nI_le (by omega) (by omega))), fun _ => ?_⟩
    have stop : ∀ (V2 : VH) (x5 : Int32), Fc V V2 s15 → (∀ m, m ≠ k → vI V2 0 15 m = vI V1 0 15 m) → vI V2 0 15 k = bI (suB R nt fa L (nI k)) → vwp E d M_X1_lookAtSets 191 [some (sl 0 10), some (sl (q + 1) 0), some (wi (nI (2 ^ (HL R).length - 1))), some (wi x3), some (wi (nI k)), some (wi x5)] [] V2 (zi K) := fun V2 x5 f2 ne ek => by
      refine w_X1_lookAtSets_191 (by rw [f2.l]; exact hg) ?_
      rw [nI_1]
      refine ih (k + 1) V2 (by omega) (by omega) f2 (fun m hm => ?_) (fun m h1 h2 => by rw [ne m (by omega)]; exact hi m (by omega) h2)
      by_cases c : m = k
      · rw [c]; exact ek
      · rw [ne m c]; exact lo m (by omega)
    have inner : ∀ s j V2, j + s = (HL R).length → Fc V V2 s15 → (∀ m, m ≠ k → vI V2 0 15 m = vI V1 0 15 m) → (∃ u, vI V2 0 15 k = bI u ∧ (u = true ↔ exB R nt fa L k = true ∨ ∃ i, i < j ∧ tst (nI k) i = true ∧ suB R nt fa L (lss (nI k) i) = true)) → vwp E d M_X1_lookAtSets 135 [some (sl 0 10), some (sl (q + 1) 0), some (wi (nI (2 ^ (HL R).length - 1))), some (wi x3), some (wi (nI k)), some (wi (nI j))] [] V2 (zi K) := by
      intro s
      induction s with
      | zero =>
        rintro j V2 e2 f2 ne ⟨u, eu, iu⟩
        have ej : j = (HL R).length := by omega
        subst ej
        refine w_X1_lookAtSets_135 (by rw [f2.l]; exact hg) ⟨fun _ => stop V2 _ f2 ne ?_, fun z => absurd ?_ z⟩
        · rw [eu]
          congr 1
          exact Bool.eq_iff_iff.mpr (iu.trans (suB_step h12 hk2).symm)
        · rw [(hl.fc f2).1]; exact nI_le (Nat.le_refl _) (by omega)
      | succ s ih2 =>
        rintro j V2 e2 f2 ne ⟨u, eu, iu⟩
        have hj : j < (HL R).length := by omega
        have hg2 : PG (vL V2) (q + 1) := by rw [f2.l]; exact hg
        have nn : vN V2 = vN V := f2.n
        refine w_X1_lookAtSets_135 hg2 ⟨fun z => absurd z (by rw [(hl.fc f2).1]; exact nI_ge hj (by omega)), fun _ => ?_⟩
        rw [nn, nI_clamp (show k < 2 ^ 31 by omega), eu]
        have vk : vp_in (nI k) (vN V 0 15) := vp_in_nI (by omega) n2
        refine ⟨vk, fun z => stop V2 _ f2 ne ?_, fun z => ⟨fun y => ?_, fun y => ?_⟩⟩
        · have uT := bI_1.mp z
          rw [eu, uT]
          congr 1
          refine ((suB_step h12 hk2).mpr ?_).symm
          rcases iu.mp uT with w | ⟨i, hi, w⟩
          · exact Or.inl w
          · exact Or.inr ⟨i, by omega, w⟩
        · have uF := bI_0.mp z
          have nb := (tst_0 (nI k) (v := j) (by omega)).mp y
          refine w_X1_lookAtSets_185 hg2 ?_
          rw [nI_1]
          refine ih2 (j + 1) V2 (by omega) f2 ne ⟨u, eu, iu.trans ⟨fun w => w.elim Or.inl (fun ⟨i, hi, w⟩ => Or.inr ⟨i, by omega, w⟩), fun w => w.elim Or.inl (fun ⟨i, hi, w⟩ => Or.inr ⟨i, ?_, w⟩)⟩⟩
          by_cases c : i = j
          · rw [c, nb] at w; exact Bool.noConfusion w.1
          · omega
        · have uF := bI_0.mp z
          have yb := (tst_1 (nI k) (v := j) (by omega)).mp y
          obtain ⟨k', hk', ek'⟩ := lss_lt (show k < 2 ^ 12 by omega) (by omega) yb
          have e0 : nI k &&& (((1 : Int32) <<< (nI j &&& 31)) ^^^ (-1)) = nI k' := ek'
          rw [e0, nI_clamp (show k' < 2 ^ 31 by omega), ne k' (by omega), lo k' hk', nz_b]
          refine ⟨vp_in_nI (by omega) n2, vk, fun V4 e4 => ?_⟩
          have f4 : Fc V2 V4 s15 := by rw [e4]; exact Fc_wrI ⟨rfl, rfl⟩
          refine w_X1_lookAtSets_185 (by rw [f4.l]; exact hg2) ?_
          rw [nI_1]
          refine ih2 (j + 1) V4 (by omega) (f2.trans f4) (fun m hm => by rw [e4, wrI_ne (fun z => hm z.2.2)]; exact ne m hm) ⟨suB R nt fa L (nI k'), by rw [e4, wrI_at], ?_⟩
          rw [← ek']
          refine ⟨fun w => Or.inr ⟨j, Nat.lt_succ_self j, yb, w⟩, fun w => ?_⟩
          rcases w with w | ⟨i, hi, w1, w2⟩
          · have := iu.mpr (Or.inl w); rw [uF] at this; exact Bool.noConfusion this
          · by_cases c : i = j
            · rw [← c]; exact w2
            · have := iu.mpr (Or.inr ⟨i, by omega, w1, w2⟩); rw [uF] at this; exact Bool.noConfusion this
    exact inner (HL R).length 0 V1 (Nat.zero_add _) f1 (fun _ _ => rfl) ⟨exB R nt fa L k, hi k (Nat.le_refl k) hk2, fun w => Or.inl w, fun w => w.elim id (fun ⟨i, hi, _⟩ => absurd hi (Nat.not_lt_zero i))⟩
theorem exB_add {L : List Nat} {p m : Nat} : exB R nt fa (L ++ [p]) m = (exB R nt fa L m || decide (mkQ R nt fa p = nI m)) := by
  unfold exB
  rw [List.any_append]
  congr 1
  show (decide (mkQ R nt fa p = nI m) || false) = _
  rw [Bool.or_false]
theorem look_go {K : Int32 → VH → Prop} (h0 : 2 < d) (hI : PbI V q t n R nt fa h x cs) (s : Scd V q R nt fa) (hl : LsH V R) (n1 : 4096 ≤ vN V 0 15) (n2 : vN V 0 15 < 2 ^ 31) (hk : ∀ V', Fc V V' s15 → SfC V' R nt fa (apL R h x) → K (nI (2 ^ (HL R).length - 1)) V') : vwp E d M_X1_lookAtSets 22 [some (sl 0 10), some (sl (q + 1) 0), none, none, none, none] [] V (zi K) := by
  have h12 := HL_12 hI.1 hI.2.1.2.2.2.2.1.1
  have p2 := two12 h12
  have p0 : 0 < 2 ^ (HL R).length := Nat.two_pow_pos _
  have p20 := hI.p20
  have hg := hI.2.1.1
  refine w_X1_lookAtSets_22 hg ?_
  rw [hl.1, pw2 _ (by omega), show (1 : Int32) = nI 1 from rfl, nI_sub p0]
  have zI : ∀ a f j, s15 a f j → a = 0 ∧ 7 ≤ f ∧ f ≤ 22 := fun a f j y => ⟨y.1, by have := y.2; omega⟩
  -- the plans
  have plans : ∀ V1, Fc V V1 s15 → (∀ m, m < 2 ^ (HL R).length → vI V1 0 15 m = 0) → vMI E (d - 1) M_X7_lowest [sl (q + 1) 5, wi (vI V1 (q + 1) 0 8), wi (vI V1 (q + 1) 0 9)] V1 (fun r1 V2 => vwp E d M_X1_lookAtSets 70 [some (sl 0 10), some (sl (q + 1) 0), some (wi (nI (2 ^ (HL R).length - 1))), some (wi r1), some (wi 0), none] [] V2 (zi K)) := fun V1 f1 z1 => by
    have hI1 := hI.lr f1 zI
    rw [hI1.hnd.1, hI1.2.1.2.2.2.2.2.2.2.2.2.1]
    refine c_lowest (by omega) hI1.sp hI1.hnd.2 ?_
    have done : ∀ (m : Nat) (y : Int32) (V2 : VH), Fc V V2 s15 → (∀ m, m < 2 ^ (HL R).length → vI V2 0 15 m = bI (exB R nt fa (apL R h x) m)) → vwp E d M_X1_lookAtSets 123 [some (sl 0 10), some (sl (q + 1) 0), some (wi (nI (2 ^ (HL R).length - 1))), some (wi y), some (wi (nI m)), none] [] V2 (zi K) := fun m y V2 f2 z2 => by
      have hg2 : PG (vL V2) (q + 1) := by rw [f2.l]; exact hg
      refine w_X1_lookAtSets_123 hg2 ?_
      refine look_dp (V := V) (nt := nt) (fa := fa) (L := apL R h x) h12 hg hl n1 n2 hk (2 ^ (HL R).length - 1) 1 V2 (by omega) (by decide) f2 (fun m hm => ?_) (fun m _ hm => z2 m hm)
      have : m = 0 := by omega
      subst this
      rw [z2 0 p0]
      congr 1
      refine Bool.eq_iff_iff.mpr ⟨fun w => (suB_step h12 p0).mpr (Or.inl w), fun w => ((suB_step h12 p0).mp w).elim id (fun ⟨j, hj, w1, _⟩ => ?_)⟩
      rw [show nI 0 = 0 from rfl, tst_z] at w1; exact Bool.noConfusion w1
    refine en_loop (fx := tst x) (h := h) (f := fun (L : List Nat) p => L ++ [p]) (a := []) hI.sp.pos hI.hnd.2 (fun c m L => ∀ V2, Fc V V2 s15 → (∀ m, m < 2 ^ (HL R).length → vI V2 0 15 m = bI (exB R nt fa L m)) → vwp E d M_X1_lookAtSets 70 [some (sl 0 10), some (sl (q + 1) 0), some (wi (nI (2 ^ (HL R).length - 1))), some (wi (cuI c)), some (wi (nI m)), none] [] V2 (zi K)) (fun m V2 f2 z2 => ?_) (fun p m L hp hm ha ih V2 f2 z2 => ?_) V1 f1 (fun m hm => by rw [z1 m hm]; rfl)
    · rw [fA_list] at z2
      have hg2 : PG (vL V2) (q + 1) := by rw [f2.l]; exact hg
      exact w_X1_lookAtSets_70 hg2 (by omega) ⟨fun _ => done m _ V2 f2 z2, fun _ => ⟨fun _ => done m _ V2 f2 z2, fun z => absurd (by decide) z⟩⟩
    · have hp : p < plR R := hp
      have hg2 : PG (vL V2) (q + 1) := by rw [f2.l]; exact hg
      have hI2 := hI.lr f2 zI
      refine w_X1_lookAtSets_70 hg2 (by omega) ⟨fun z => absurd z (by rw [hI2.sp.2.2.2.1]; exact nI_ge (show m < plR R by omega) (by show plR R < _; omega)), fun _ => ⟨fun z => absurd z (nI_pos (by omega)), fun _ => c_setOf hg2 (s.fz f2 (fun a f j y => y.1)).1 hp ⟨rfl, c_among h12 (hl.fc f2) ?_⟩⟩⟩
      obtain ⟨m0, hm0, e0⟩ := mkQ_nI (nt := nt) (fa := fa) h12 p
      rw [e0, nI_clamp (show m0 < 2 ^ 31 by omega), f2.n]
      refine ⟨rfl, vp_in_nI (by omega) n2, fun V14 e14 => ?_⟩
      have f14 : Fc V V14 s15 := f2.trans (by rw [e14]; exact Fc_wrI ⟨rfl, rfl⟩)
      have hI14 := hI.lr f14 zI
      have z14 : ∀ m, m < 2 ^ (HL R).length → vI V14 0 15 m = bI (exB R nt fa (L ++ [p]) m) := fun m hm => by
        rw [exB_add, e0, e14]
        by_cases c : m = m0
        · rw [c, wrI_at, decide_eq_true rfl, Bool.or_true]; exact nz_b true
        · rw [wrI_ne (fun z => c z.2.2), z2 m hm, decide_eq_false (fun z => c ((nI_eq (by omega) (by omega)).mp z).symm), Bool.or_false]
      have ih := ih V14 f14 z14
      rw [hI14.2.1.2.2.2.2.2.2.2.2.2.1]
      refine c_following (by omega) hI14.sp hp (fun e => ?_) (fun q' e => ?_)
      · rw [e] at ih; rw [nI_1]; exact ih
      · rw [e] at ih; rw [nI_1]; exact ih
  have clear : ∀ m k V1, k + m = 2 ^ (HL R).length → Fc V V1 s15 → (∀ m, m < k → vI V1 0 15 m = 0) → vwp E d M_X1_lookAtSets 33 [some (sl 0 10), some (sl (q + 1) 0), some (wi (nI (2 ^ (HL R).length - 1))), some (wi (nI k)), none, none] [] V1 (zi K) := by
    intro m
    induction m with
    | zero =>
      intro k V1 e f1 z1
      refine w_X1_lookAtSets_33 (by rw [f1.l]; exact hg) (by omega) ⟨fun _ => plans V1 f1 (fun m hm => z1 m (by omega)), fun z => absurd ?_ z⟩
      exact Int32.not_le.mp (nI_ge (by omega) (by omega))
    | succ m ih =>
      intro k V1 e f1 z1
      refine w_X1_lookAtSets_33 (by rw [f1.l]; exact hg) (by omega) ⟨fun z => absurd z (Int32.not_lt.mpr (nI_le (by omega) (by omega))), fun _ => ?_⟩
      rw [f1.n, nI_clamp (show k < 2 ^ 31 by omega)]
      refine ⟨vp_in_nI (by omega) n2, fun V6 e6 => ?_⟩
      rw [nI_1]
      refine ih (k + 1) V6 (by omega) (f1.trans (by rw [e6]; exact Fc_wrI ⟨rfl, rfl⟩)) (fun m hm => ?_)
      by_cases c : m = k
      · rw [c, e6, wrI_at]; exact nz_b false
      · rw [e6, wrI_ne (fun z => c z.2.2)]; exact z1 m (by omega)
  exact clear (2 ^ (HL R).length) 0 V (Nat.zero_add _) Fc.refl (fun m hm => absurd hm (Nat.not_lt_zero m))
end
