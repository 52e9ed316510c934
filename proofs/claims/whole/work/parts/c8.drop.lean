/-! what is left: the class -/
section
variable {E : EE} {d : Nat} {V V' V1 V2 : VH} {q B : Nat} {t : Nat → Int32} {n : Nat} {R : List SR} {nt fa : Nat → Int32} {h h' : Nat} {x b : Int32} {cs : Nat → Int32} {X Y : Nat → Nat → Bool}
theorem LsH.f12 {S : Nat → Nat → Nat → Prop} (hl : LsH V R) (k : Fc V V' S) (z : ∀ a f j, S a f j → a = 0 ∧ (f = 11 ∨ f = 12 ∨ f = 13)) : LsH V' R := ⟨by rw [k.i (fun y => by have := z _ _ _ y; omega)]; exact hl.1, fun j hj => by rw [k.i (fun y => by have := z _ _ _ y; omega)]; exact hl.2 j hj⟩
/-- rule number i, var v, value b: met in plans of L -/
def mtB (R : List SR) (nt fa : Nat → Int32) (X : Nat → Nat → Bool) (L : List Nat) (i v b : Nat) : Bool := L.any (fun p => ofL R X p && (!tst (stQ R nt fa p) ((HL R).getD i 0) && decide (b = dgR R v p)))
theorem mtB_add {L : List Nat} {p i v b : Nat} : mtB R nt fa X (L ++ [p]) i v b = (mtB R nt fa X L i v b || (ofL R X p && (!tst (stQ R nt fa p) ((HL R).getD i 0) && decide (b = dgR R v p)))) := by
  unfold mtB
  rw [List.any_append]
  congr 1
  exact Bool.or_false _
/-- allowed plans show all that is met -/
theorem mtB_sp (E : EE) (hs : PrS t n R nt) (bd : Bds (tcR R 0) fa) (ps : psR R) (hX : LsX R X (ini R h x)) {i v b : Nat} (hi : i < (HL R).length) : mtB R nt fa X (apL R h x) i v b = true ↔ spX R nt fa X ((HL R).getD i 0) v b := by
  obtain ⟨a1, a2, _⟩ := HL_mem hi
  unfold mtB
  rw [List.any_eq_true]
  have tb : ∀ p, tst (stQ R nt fa p) ((HL R).getD i 0) = false ↔ brk R nt fa ((HL R).getD i 0) p = 0 := fun p => by
    have := tst_st E hs bd a1 p
    constructor
    · intro z
      by_cases c : brk R nt fa ((HL R).getD i 0) p = 0
      · exact c
      · rw [this.mpr c] at z; exact Bool.noConfusion z
    · intro z
      cases u : tst (stQ R nt fa p) ((HL R).getD i 0) with
      | false => rfl
      | true => exact absurd z (this.mp u)
  constructor
  · rintro ⟨p, hp, z⟩
    rw [Bool.and_eq_true, Bool.and_eq_true] at z
    refine ⟨p, List.mem_range.mp (List.mem_filter.mp hp).1, z.1, (tb p).mp ?_, (of_decide_eq_true z.2.2).symm⟩
    cases u : tst (stQ R nt fa p) ((HL R).getD i 0) with
    | false => rfl
    | true => rw [u] at z; exact Bool.noConfusion z.2.1
  · rintro ⟨p, h1, h2, h3, h4⟩
    refine ⟨p, List.mem_filter.mpr ⟨List.mem_range.mpr h1, agr_iff.mpr (fun v hv hx => ?_)⟩, ?_⟩
    · have := hX v _ hv (Dg_lt ps hv) (ofL_iff.mp h2 v hv)
      unfold ini at this
      rw [Bool.and_eq_true, hx] at this
      exact of_decide_eq_true this.2
    · rw [h2, (tb p).mpr h3, decide_eq_true h4.symm]; rfl
def kpI (R : List SR) (V : VH) (y : Int32) (v : Nat) : Nat → Int32
  | 0 => y
  | i + 1 => kpI R V y v i &&& c12 V R i v
theorem kpI_s {y : Int32} {v i : Nat} : kpI R V y v (i + 1) = kpI R V y v i &&& c12 V R i v := by rw [kpI]
theorem kpI_t {y : Int32} {v b : Nat} : ∀ m, tst (kpI R V y v m) b = true ↔ tst y b = true ∧ ∀ i, i < m → tst (c12 V R i v) b = true := by
  intro m
  induction m with
  | zero => rw [kpI]; exact ⟨fun z => ⟨z, fun i hi => absurd hi (Nat.not_lt_zero i)⟩, fun z => z.1⟩
  | succ m ih =>
    rw [kpI_s, tst_and, Bool.and_eq_true, ih]
    constructor
    · rintro ⟨⟨z1, z2⟩, z3⟩
      refine ⟨z1, fun i hi => ?_⟩
      by_cases c : i = m
      · rw [c]; exact z3
      · exact z2 i (by omega)
    · rintro ⟨z1, z2⟩
      exact ⟨⟨z1, fun i hi => z2 i (by omega)⟩, z2 m (Nat.lt_succ_self m)⟩
theorem c_drop {L : Nat → Int32} {K : Int32 → VH → Prop} (h0 : 3 < d) (hv0 : vL V 0 = true) (hn : vN V 0 12 = 288) (hI : PbI V q t n R nt fa h x cs) (s : Scd V q R nt fa) (f1 : Fc V V1 d11) (h12 : (HL R).length ≤ 12) (hl : LsH V R) (l1 : LfC V1 R L) (hX : LsX R (lfX L) (ini R h x))
    (hk : ∀ V' (L' : Nat → Int32) (w : Bool), Fc V V' d11 → LfC V' R L' → (∀ v b, v < tcR R 1 → (tst (L' v) b = true ↔ tst (L v) b = true ∧ ∀ i, i < (HL R).length → spX R nt fa (lfX L) ((HL R).getD i 0) v b)) → (w = false → ∀ v, v < tcR R 1 → L' v = L v) → (w = true → ∃ v, v < tcR R 1 ∧ L' v ≠ L v) → K (bI w) V') : vMI E d M_X1_dropUnsupported [sl 0 10, sl (q + 1) 0] V1 K := by
  have hs := hI.1
  have bd := hI.bd.2
  have p20 := hI.p20
  have n12 := hI.v12
  have hg := hI.2.1.1
  have ps : psR R := hI.sp.pos
  have z11 : ∀ a f j, d11 a f j → a = 0 ∧ 7 ≤ f ∧ f ≤ 22 := fun a f j y => ⟨y.1, by have := y.2; omega⟩
  have z0 : ∀ a f j, d11 a f j → a = 0 := fun a f j y => y.1
  have zl : ∀ a f j, d11 a f j → a = 0 ∧ (f = 11 ∨ f = 12 ∨ f = 13) := fun a f j y => y
  have g1 : PG (vL V1) (q + 1) := by rw [f1.l]; exact hg
  have n288 : vN V1 0 12 = 288 := by rw [f1.n]; exact hn
  -- the last part: what is kept
  have kept : ∀ V5, Fc V V5 d11 → LfC V5 R L → (∀ i v b, i < (HL R).length → v < tcR R 1 → b < 32 → tst (c12 V5 R i v) b = mtB R nt fa (lfX L) (apL R h x) i v b) → ∀ (y2 y3 : Int32), vwp E d M_X1_dropUnsupported 91 [some (sl 0 10), some (sl (q + 1) 0), some (wi y2), some (wi y3), none, none, none] [] V5 (zi K) := by
    intro V5 f5 l5 m5 y2 y3
    have kt : ∀ v b, v < tcR R 1 → (tst (kpI R V5 (L v) v (HL R).length) b = true ↔ tst (L v) b = true ∧ ∀ i, i < (HL R).length → spX R nt fa (lfX L) ((HL R).getD i 0) v b) := fun v b hv => by
      rw [kpI_t]
      constructor
      · rintro ⟨z1, z2⟩
        refine ⟨z1, fun i hi => ?_⟩
        have b32 : b < 32 := Nat.lt_of_not_le (fun z => by rw [tst_big _ z] at z1; exact Bool.noConfusion z1)
        have := z2 i hi
        rw [m5 i v b hi hv b32] at this
        exact (mtB_sp E hs bd ps hX hi).mp this
      · rintro ⟨z1, z2⟩
        refine ⟨z1, fun i hi => ?_⟩
        have b32 : b < 32 := Nat.lt_of_not_le (fun z => by rw [tst_big _ z] at z1; exact Bool.noConfusion z1)
        rw [m5 i v b hi hv b32]
        exact (mtB_sp E hs bd ps hX hi).mpr (z2 i hi)
    have go : ∀ m v V6 (w : Bool), v + m = tcR R 1 → Fc V5 V6 (fun a f _ => a = 0 ∧ f = 11) → (∀ u, u < tcR R 1 → vI V6 0 11 u = if u < v then kpI R V5 (L u) u (HL R).length else L u) → (w = false → ∀ u, u < v → kpI R V5 (L u) u (HL R).length = L u) → (w = true → ∃ u, u < v ∧ kpI R V5 (L u) u (HL R).length ≠ L u) → vwp E d M_X1_dropUnsupported 96 [some (sl 0 10), some (sl (q + 1) 0), some (wi y2), some (wi (bI w)), some (wi (nI v)), none, none] [] V6 (zi K) := by
      intro m
      induction m with
      | zero =>
        intro v V6 w e f6 r6 w0 w1
        have f06 : Fc V V6 d11 := f5.trans (f6.mono (fun a f j y => ⟨y.1, Or.inl y.2⟩))
        have S6 := hI.sp.fc f06 (fun f i z y => by have := y.1; omega)
        have fin : bz (bI w) ∧ K (bI w) V6 := ⟨by cases w; exact Or.inl rfl; exact Or.inr rfl, hk V6 (fun u => kpI R V5 (L u) u (HL R).length) w f06 (fun u hu => ⟨by rw [r6 u hu, if_pos (by omega)], fun k hk => ?_⟩) (fun u b hu => kt u b hu) (fun z u hu => w0 z u (by omega)) (fun z => by obtain ⟨u, hu, z⟩ := w1 z; exact ⟨u, by omega, z⟩)⟩
        · exact w_X1_dropUnsupported_96 S6.1 ⟨fun _ => fin, fun z => absurd (by rw [S6.2.1]; exact nI_le (by omega) (by omega)) z⟩
        · cases c : tst (kpI R V5 (L u) u (HL R).length) k with
          | false => rfl
          | true =>
            have := ((kt u k hu).mp c).1
            rw [(l5 u hu).2 k hk] at this; exact Bool.noConfusion this
      | succ m ih =>
        intro v V6 w e f6 r6 w0 w1
        have hv : v < tcR R 1 := by omega
        have f06 : Fc V V6 d11 := f5.trans (f6.mono (fun a f j y => ⟨y.1, Or.inl y.2⟩))
        have S6 := hI.sp.fc f06 (fun f i z y => by have := y.1; omega)
        have e11 : vI V6 0 11 v = L v := by rw [r6 v hv, if_neg (Nat.lt_irrefl v)]
        have l6 : LsH V6 R := hl.f12 f06 zl
        refine w_X1_dropUnsupported_96 S6.1 ⟨fun z => absurd z (by rw [S6.2.1]; exact nI_ge hv (by omega)), fun _ => ⟨vp_in_nI (by omega) (by decide), ?_⟩⟩
        rw [nI_clamp (show v < 2 ^ 31 by omega), e11]
        have c6 : ∀ i, c12 V6 R i v = c12 V5 R i v := fun i => f6.i (fun y => by have := y.2; omega)
        have inner : ∀ s' i, i + s' = (HL R).length → vwp E d M_X1_dropUnsupported 120 [some (sl 0 10), some (sl (q + 1) 0), some (wi y2), some (wi (bI w)), some (wi (nI v)), some (wi (kpI R V5 (L v) v i)), some (wi (nI i))] [] V6 (zi K) := by
          intro s'
          induction s' with
          | zero =>
            intro i e
            have ei : i = (HL R).length := by omega
            subst ei
            refine w_X1_dropUnsupported_120 S6.1 ⟨fun _ => ?_, fun z => absurd (by rw [l6.1]; exact nI_le (Nat.le_refl _) (by omega)) z⟩
            rw [nI_clamp (show v < 2 ^ 31 by omega), e11]
            have next : ∀ w' : Bool, (w' = false → ∀ u, u < v + 1 → kpI R V5 (L u) u (HL R).length = L u) → (w' = true → ∃ u, u < v + 1 ∧ kpI R V5 (L u) u (HL R).length ≠ L u) → vwp E d M_X1_dropUnsupported 172 [some (sl 0 10), some (sl (q + 1) 0), some (wi y2), some (wi (bI w')), some (wi (nI v)), some (wi (kpI R V5 (L v) v (HL R).length)), some (wi (nI (HL R).length))] [] V6 (zi K) := fun w' w0' w1' => by
              refine w_X1_dropUnsupported_172 S6.1 ⟨vp_in_nI (by omega) (by decide), fun V8 e8 => ?_⟩
              rw [nI_clamp (show v < 2 ^ 31 by omega)] at e8
              rw [nI_1]
              refine ih (v + 1) V8 w' (by omega) (f6.trans (by rw [e8]; exact Fc_wrI ⟨rfl, rfl⟩)) (fun u hu => ?_) w0' w1'
              by_cases c : u = v
              · rw [c, e8, wrI_at, if_pos (Nat.lt_succ_self v)]
              · rw [e8, wrI_ne (fun z => c z.2.2), r6 u hu]
                by_cases c2 : u < v
                · rw [if_pos c2, if_pos (by omega)]
                · rw [if_neg c2, if_neg (by omega)]
            refine ⟨vp_in_nI (by omega) (by decide), fun z => next w (fun y u hu => ?_) (fun y => ?_), fun z => next true (fun y => Bool.noConfusion y) (fun _ => ⟨v, Nat.lt_succ_self v, z⟩)⟩
            · by_cases c : u = v
              · rw [c]; exact z
              · exact w0 y u (by omega)
            · obtain ⟨u, hu, z⟩ := w1 y
              exact ⟨u, by omega, z⟩
          | succ s' ih2 =>
            intro i e
            have hi : i < (HL R).length := by omega
            obtain ⟨a1, a2, _⟩ := HL_mem hi
            have i2 := ih2 (i + 1) (by omega)
            rw [kpI_s, ← c6 i] at i2
            have ei : nI ((HL R).getD i 0) * 12 + nI v = nI (12 * (HL R).getD i 0 + v) := by rw [show (12 : Int32) = nI 12 from rfl, nI_mul, nI_add, Nat.mul_comm]
            refine w_X1_dropUnsupported_120 S6.1 ⟨fun z => absurd z (by rw [l6.1]; exact nI_ge hi (by omega)), fun _ => ?_⟩
            rw [nI_clamp (show i < 2 ^ 31 by omega), l6.2 i hi, ei, nI_clamp (show 12 * (HL R).getD i 0 + v < 2 ^ 31 by omega), nI_1]
            exact ⟨vp_in_nI (by omega) (by decide), vp_in_nI (by omega) (by decide), i2⟩
        exact inner (HL R).length 0 (Nat.zero_add _)
    refine w_X1_dropUnsupported_91 (by rw [f5.l]; exact hg) (go (tcR R 1) 0 V5 false (Nat.zero_add _) Fc.refl (fun u hu => by rw [if_neg (Nat.not_lt_zero u)]; exact (l5 u hu).1) (fun _ u hu => absurd hu (Nat.not_lt_zero u)) (fun z => Bool.noConfusion z))
  refine w_X1_dropUnsupported_0 g1 (by omega) (c_fill (by rw [f1.l]; exact ⟨hv0, by decide, rfl⟩) (by omega) (fun V2 f2 e2 => ?_))
  have f02 : Fc V V2 d11 := f1.trans (f2.mono (fun a f j y => ⟨y.1, Or.inr (Or.inl y.2)⟩))
  have hI2 := hI.lr f02 z11
  have l2 : LfC V2 R L := fun v hv => ⟨by rw [f2.i (fun y => by have := y.2; omega)]; exact (l1 v hv).1, (l1 v hv).2⟩
  rw [hI2.hnd.1, hI2.2.1.2.2.2.2.2.2.2.2.2.1]
  refine c_lowest (by omega) hI2.sp hI2.hnd.2 ?_
  refine en_loop (fx := tst x) (h := h) (f := fun (P : List Nat) p => P ++ [p]) (a := []) hI.sp.pos hI.hnd.2 (fun c m P => ∀ V5, Fc V V5 d11 → LfC V5 R L → (∀ i v b, i < (HL R).length → v < tcR R 1 → b < 32 → tst (c12 V5 R i v) b = mtB R nt fa (lfX L) P i v b) → vwp E d M_X1_dropUnsupported 26 [some (sl 0 10), some (sl (q + 1) 0), some (wi (cuI c)), some (wi (nI m)), none, none, none] [] V5 (zi K)) (fun m V5 f5 l5 m5 => ?_) (fun p m P hp hm ha ih V5 f5 l5 m5 => ?_) V2 f02 l2 (fun i v b hi hv hb => ?_)
  · rw [fA_list] at m5
    exact w_X1_dropUnsupported_26 (by rw [f5.l]; exact hg) (by omega) ⟨fun _ => kept V5 f5 l5 m5 _ _, fun _ => ⟨fun _ => kept V5 f5 l5 m5 _ _, fun z => absurd (by decide) z⟩⟩
  · have hp : p < plR R := hp
    have hI5 := hI.lr f5 z11
    have g5 := hI5.2.1.1
    have next : ∀ V9, Fc V V9 d11 → LfC V9 R L → (∀ i v b, i < (HL R).length → v < tcR R 1 → b < 32 → tst (c12 V9 R i v) b = mtB R nt fa (lfX L) (P ++ [p]) i v b) → vwp E d M_X1_dropUnsupported 72 [some (sl 0 10), some (sl (q + 1) 0), some (wi (nI p)), some (wi (nI m)), none, none, none] [] V9 (zi K) := fun V9 f9 l9 m9 => by
      have hI9 := hI.lr f9 z11
      have ih := ih V9 f9 l9 m9
      refine w_X1_dropUnsupported_72 hI9.2.1.1 (by omega) ?_
      rw [hI9.2.1.2.2.2.2.2.2.2.2.2.1]
      refine c_following (by omega) hI9.sp hp (fun e => ?_) (fun q' e => ?_)
      · rw [e] at ih; rw [nI_1]; exact ih
      · rw [e] at ih; rw [nI_1]; exact ih
    refine w_X1_dropUnsupported_26 g5 (by omega) ⟨fun z => absurd z (by rw [hI5.sp.2.2.2.1]; exact nI_ge (show m < plR R by omega) (by show plR R < _; omega)), fun _ => ⟨fun z => absurd z (nI_pos (by omega)), fun _ => c_isOfLeft (by omega) hI5.sp l5 (by omega) (fun no V6 f6 => ⟨fun _ => ?_, fun z => absurd rfl z⟩) (fun yes V6 f6 r13 => ⟨fun z => absurd z (by decide), fun _ => ?_⟩)⟩⟩
    · refine next V6 (f5.trans (f6.mono (fun a f j y => ⟨y.1, Or.inr (Or.inr y.2)⟩))) (fun v hv => ⟨by rw [f6.i (fun y => by have := y.2; omega)]; exact (l5 v hv).1, (l5 v hv).2⟩) (fun i v b hi hv hb => ?_)
      rw [mtB_add, no, Bool.false_and, Bool.or_false, ← m5 i v b hi hv hb]
      congr 1
      exact f6.i (fun y => by have := y.2; omega)
    · have f06 : Fc V V6 d11 := f5.trans (f6.mono (fun a f j y => ⟨y.1, Or.inr (Or.inr y.2)⟩))
      have hI6 := hI.lr f06 z11
      refine c_setOf hI6.2.1.1 (s.fz f06 z0).1 hp ?_
      rw [hI6.sp.2.1]
      refine c_support h12 n12 (fun v hv => ?_) (hl.f12 f06 zl) r13 (fun V9 f9 c9 => ?_)
      · have a : dgR R v p < szR R v := Dg_lt hI6.sp.pos hv
        have := (hI6.sp.2.2.2.2.2 v hv).2.2.1
        omega
      · refine next V9 (f06.trans (f9.mono (fun a f j y => ⟨y.1, Or.inr (Or.inl y.2)⟩))) (fun v hv => ⟨by rw [f9.i (fun y => by have := y.2; omega), f6.i (fun y => by have := y.2; omega)]; exact (l5 v hv).1, (l5 v hv).2⟩) (fun i v b hi hv hb => ?_)
        have e6 : c12 V6 R i v = c12 V5 R i v := f6.i (fun y => by have := y.2; omega)
        rw [c9 i v b hi hv hb, mtB_add, yes, Bool.true_and, e6, m5 i v b hi hv hb]
  · have : c12 V2 R i v = 0 := e2 _ (by rw [n288]; have := (HL_mem hi).2.1; omega)
    rw [this, tst_z]; rfl
end
