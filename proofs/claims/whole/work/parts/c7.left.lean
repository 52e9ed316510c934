/-! what is left: reach, isLeft -/
section
variable {E : EE} {d : Nat} {V V' V1 V2 : VH} {q B : Nat} {t : Nat → Int32} {n : Nat} {R : List SR} {nt fa : Nat → Int32} {h h' : Nat} {x b : Int32} {cs : Nat → Int32} {X Y : Nat → Nat → Bool}
abbrev dgR (R : List SR) (v p : Nat) : Nat := Dg (szR R) (tcR R 1) v p
/-- values at first -/
def ini (R : List SR) (h : Nat) (x : Int32) (v k : Nat) : Bool := decide (k < szR R v) && (!tst x v || decide (k = dgR R v h))
def ofL (R : List SR) (X : Nat → Nat → Bool) (p : Nat) : Bool := (List.range (tcR R 1)).all (fun v => X v (dgR R v p))
theorem ofL_iff {p : Nat} : ofL R X p = true ↔ ∀ v, v < tcR R 1 → X v (dgR R v p) = true := by
  unfold ofL
  rw [List.all_eq_true]
  exact ⟨fun z v hv => z v (List.mem_range.mpr hv), fun z v hv => z v (List.mem_range.mp hv)⟩
/-- a value is in a plan of what is left that does not break rule r -/
def spX (R : List SR) (nt fa : Nat → Int32) (X : Nat → Nat → Bool) (r v k : Nat) : Prop := ∃ p, p < plR R ∧ ofL R X p = true ∧ brk R nt fa r p = 0 ∧ dgR R v p = k
def LsX (R : List SR) (X Y : Nat → Nat → Bool) : Prop := ∀ v k, v < tcR R 1 → k < szR R v → X v k = true → Y v k = true
def clo (R : List SR) (nt fa : Nat → Int32) (X : Nat → Nat → Bool) : Prop := ∀ r, r < tcR R 2 → lvn R r = 0 → ∀ v k, v < tcR R 1 → k < szR R v → X v k = true → spX R nt fa X r v k
/-- all that stays is in X -/
def Gfp (R : List SR) (nt fa : Nat → Int32) (h : Nat) (x : Int32) (X : Nat → Nat → Bool) : Prop := LsX R X (ini R h x) ∧ ∀ G, LsX R G (ini R h x) → clo R nt fa G → LsX R G X
def psR (R : List SR) : Prop := ∀ v, v < tcR R 1 → 0 < szR R v
theorem spX_mono (ps : psR R) {r v k : Nat} (l : LsX R X Y) (z : spX R nt fa X r v k) : spX R nt fa Y r v k := by
  obtain ⟨p, h1, h2, h3⟩ := z
  exact ⟨p, h1, ofL_iff.mpr (fun v hv => l v _ hv (Dg_lt ps hv) (ofL_iff.mp h2 v hv)), h3⟩
theorem gfp_eq (hX : Gfp R nt fa h x X) (cX : clo R nt fa X) (hY : Gfp R nt fa h x Y) (cY : clo R nt fa Y) {v k : Nat} (hv : v < tcR R 1) (hk : k < szR R v) : X v k = Y v k := by
  have a := hY.2 X hX.1 cX v k hv hk
  have b := hX.2 Y hY.1 cY v k hv hk
  cases e : X v k with
  | true => exact (a e).symm
  | false =>
    cases e2 : Y v k with
    | false => rfl
    | true => rw [b e2] at e; exact Bool.noConfusion e
/-- values go that some hard rule does not support -/
theorem gfp_step (ps : psR R) (hX : Gfp R nt fa h x X) (l : LsX R Y X) (hs : ∀ v k, v < tcR R 1 → k < szR R v → X v k = true → (∀ r, r < tcR R 2 → lvn R r = 0 → spX R nt fa X r v k) → Y v k = true) : Gfp R nt fa h x Y :=
  ⟨fun v k hv hk z => hX.1 v k hv hk (l v k hv hk z), fun G h1 h2 v k hv hk z => hs v k hv hk (hX.2 G h1 h2 v k hv hk z) (fun r hr hl => spX_mono ps (hX.2 G h1 h2) (h2 r hr hl v k hv hk z))⟩
/-- how many values -/
def mX (R : List SR) (X : Nat → Nat → Bool) : Nat → Nat
  | 0 => 0
  | v + 1 => mX R X v + cnt (X v) (szR R v)
theorem mX_s {v : Nat} : mX R X (v + 1) = mX R X v + cnt (X v) (szR R v) := by rw [mX]
theorem cnt_sub {P Q : Nat → Bool} : ∀ n, (∀ i, i < n → P i = true → Q i = true) → cnt P n ≤ cnt Q n ∧ ((∃ i, i < n ∧ Q i = true ∧ P i = false) → cnt P n < cnt Q n) := by
  intro n
  induction n with
  | zero => intro _; exact ⟨Nat.le_refl _, fun ⟨i, hi, _⟩ => absurd hi (Nat.not_lt_zero i)⟩
  | succ n ih =>
    intro hs
    obtain ⟨i1, i2⟩ := ih (fun i hi => hs i (by omega))
    show cnt P n + (if P n = true then 1 else 0) ≤ cnt Q n + (if Q n = true then 1 else 0) ∧ (_ → cnt P n + (if P n = true then 1 else 0) < cnt Q n + (if Q n = true then 1 else 0))
    by_cases c : P n = true
    · rw [if_pos c, if_pos (hs n (Nat.lt_succ_self n) c)]
      refine ⟨by omega, fun ⟨i, hi, h1, h2⟩ => ?_⟩
      by_cases e : i = n
      · rw [e, c] at h2; exact Bool.noConfusion h2
      · have := i2 ⟨i, by omega, h1, h2⟩; omega
    · rw [if_neg c]
      by_cases cq : Q n = true
      · rw [if_pos cq]; exact ⟨by omega, fun _ => by omega⟩
      · rw [if_neg cq]
        refine ⟨by omega, fun ⟨i, hi, h1, h2⟩ => ?_⟩
        by_cases e : i = n
        · rw [e] at h1; exact absurd h1 cq
        · have := i2 ⟨i, by omega, h1, h2⟩; omega
theorem mX_le : ∀ m, (∀ v k, v < m → k < szR R v → X v k = true → Y v k = true) → mX R X m ≤ mX R Y m ∧ ((∃ v k, v < m ∧ k < szR R v ∧ Y v k = true ∧ X v k = false) → mX R X m < mX R Y m) := by
  intro m
  induction m with
  | zero => intro _; rw [mX, mX]; exact ⟨Nat.le_refl _, fun ⟨v, _, hv, _⟩ => absurd hv (Nat.not_lt_zero v)⟩
  | succ m ih =>
    intro hs
    obtain ⟨i1, i2⟩ := ih (fun v k hv => hs v k (by omega))
    obtain ⟨j1, j2⟩ := cnt_sub (P := X m) (Q := Y m) (szR R m) (fun k hk => hs m k (Nat.lt_succ_self m) hk)
    rw [mX_s, mX_s]
    refine ⟨by omega, fun ⟨v, k, hv, hk, h1, h2⟩ => ?_⟩
    by_cases e : v = m
    · rw [e] at hk h1 h2
      have := j2 ⟨k, hk, h1, h2⟩; omega
    · have := i2 ⟨v, k, by omega, hk, h1, h2⟩; omega
theorem mX_240 (hz : ∀ v, v < tcR R 1 → szR R v ≤ 20) : ∀ m, m ≤ tcR R 1 → mX R X m ≤ 20 * m := by
  intro m
  induction m with
  | zero => intro _; rw [mX]; exact Nat.le_refl _
  | succ m ih =>
    intro hm
    have := ih (by omega)
    have := cnt_le (X m) (szR R m)
    have := hz m (by omega)
    rw [mX_s]; omega
theorem mX_ext : ∀ m, (∀ v k, v < m → k < szR R v → X v k = Y v k) → mX R X m = mX R Y m := by
  intro m
  induction m with
  | zero => intro _; rw [mX, mX]
  | succ m ih => intro hs; rw [mX_s, mX_s, ih (fun v k hv => hs v k (by omega)), cnt_ext (fun k hk => hs m k (Nat.lt_succ_self m) hk)]
/-- what the class has left -/
def LfC (V : VH) (R : List SR) (L : Nat → Int32) : Prop := ∀ v, v < tcR R 1 → vI V 0 11 v = L v ∧ ∀ k, szR R v ≤ k → tst (L v) k = false
def lfX (L : Nat → Int32) : Nat → Nat → Bool := fun v k => tst (L v) k
def d12 (a f j : Nat) : Prop := a = 0 ∧ (f = 12 ∨ f = 13)
def d11 (a f j : Nat) : Prop := a = 0 ∧ (f = 11 ∨ f = 12 ∨ f = 13)
theorem c_isOfLeft {p : Nat} {L : Nat → Int32} {K : Int32 → VH → Prop} (h0 : 0 < d) (hS : Sp V (q + 1) (tcR R 1) (szR R) (vlR R)) (hl : LfC V R L) (hp : p < 2 ^ 31) (hk0 : ofL R (lfX L) p = false → ∀ V', Fc V V' (fun a f _ => a = 0 ∧ f = 13) → K 0 V') (hk1 : ofL R (lfX L) p = true → ∀ V', Fc V V' (fun a f _ => a = 0 ∧ f = 13) → (∀ v, v < tcR R 1 → vI V' 0 13 v = nI (dgR R v p)) → K 1 V') : vMI E d M_X1_isOfLeft [sl 0 10, sl (q + 1) 5, wi (nI p)] V K := by
  have n12 := hS.2.2.1
  have go : ∀ m v V1, v + m = tcR R 1 → Fc V V1 (fun a f _ => a = 0 ∧ f = 13) → (∀ u, u < v → vI V1 0 13 u = nI (dgR R u p)) → (∀ u, u < v → lfX L u (dgR R u p) = true) → vwp E d M_X1_isOfLeft 2 [some (sl 0 10), some (sl (q + 1) 5), some (wi (nI p)), some (wi (nI v))] [] V1 (zi K) := by
    intro m
    induction m with
    | zero =>
      intro v V1 e f1 r1 o1
      have S1 : Sp V1 (q + 1) (tcR R 1) (szR R) (vlR R) := hS.fc f1 (fun f i z y => by have := y.1; omega)
      refine w_X1_isOfLeft_2 S1.1 h0 ⟨fun _ => hk1 (ofL_iff.mpr (fun u hu => o1 u (by omega))) V1 f1 (fun u hu => r1 u (by omega)), fun z => absurd ?_ z⟩
      rw [S1.2.1]; exact nI_le (by omega) (by omega)
    | succ m ih =>
      intro v V1 e f1 r1 o1
      have hv : v < tcR R 1 := by omega
      have S1 : Sp V1 (q + 1) (tcR R 1) (szR R) (vlR R) := hS.fc f1 (fun f i z y => by have := y.1; omega)
      have dl : dgR R v p < szR R v := Dg_lt S1.pos (p := p) hv
      have s20 := (S1.2.2.2.2.2 v hv).2.2.1
      refine w_X1_isOfLeft_2 S1.1 h0 ⟨fun z => absurd z (by rw [S1.2.1]; exact nI_ge hv (by omega)), fun _ => c_placeOf S1 hv hp ⟨vp_in_nI (by omega) (by decide), fun V7 e7 => ?_⟩⟩
      rw [nI_clamp (show v < 2 ^ 31 by omega)] at e7 ⊢
      have f7 : Fc V V7 (fun a f _ => a = 0 ∧ f = 13) := f1.trans (by rw [e7]; exact Fc_wrI ⟨rfl, rfl⟩)
      have r11 : vI V7 0 11 v = L v := by rw [f7.i (fun y => by have := y.2; omega)]; exact (hl v hv).1
      have r13 : vI V7 0 13 v = nI (dgR R v p) := by rw [e7, wrI_at]
      rw [r11, r13]
      refine ⟨vp_in_nI (by omega) (by decide), vp_in_nI (by omega) (by decide), fun z => ?_, fun z => hk0 ?_ V7 f7⟩
      · rw [nI_1]
        refine ih (v + 1) V7 (by omega) f7 (fun u hu => ?_) (fun u hu => ?_)
        · by_cases c : u = v
          · rw [c]; exact r13
          · rw [e7, wrI_ne (fun z => c z.2.2)]; exact r1 u (by omega)
        · by_cases c : u = v
          · rw [c]; exact (tst_1 _ (by omega)).mp z
          · exact o1 u (by omega)
      · have z := (tst_0 (L v) (v := dgR R v p) (by omega)).mp z
        cases c : ofL R (lfX L) p with
        | false => rfl
        | true =>
          have z : lfX L v (dgR R v p) = false := z
          rw [ofL_iff.mp c v hv] at z; exact z
  exact w_X1_isOfLeft_0 hS.1 (go (tcR R 1) 0 V (Nat.zero_add _) Fc.refl (fun u hu => absurd hu (Nat.not_lt_zero u)) (fun u hu => absurd hu (Nat.not_lt_zero u)))
theorem HL_inj {i j : Nat} (hi : i < (HL R).length) (hj : j < (HL R).length) (e : (HL R).getD i 0 = (HL R).getD j 0) : i = j := by
  have nd : (HL R).Nodup := List.Pairwise.filter _ List.nodup_range
  rw [List.getD_eq_getElem?_getD, List.getD_eq_getElem?_getD, List.getElem?_eq_getElem hi, List.getElem?_eq_getElem hj] at e
  exact (List.getElem_inj nd).mp e
/-- rule of number i, var v: values met -/
abbrev c12 (V : VH) (R : List SR) (i v : Nat) : Int32 := vI V 0 12 (12 * (HL R).getD i 0 + v)
theorem c_support {p : Nat} {y : Int32} {K : VH → Prop} (h12 : (HL R).length ≤ 12) (n12 : tcR R 1 ≤ 12) (hz : ∀ v, v < tcR R 1 → dgR R v p < 20) (hl : LsH V R) (r13 : ∀ v, v < tcR R 1 → vI V 0 13 v = nI (dgR R v p)) (hk : ∀ V', Fc V V' (fun a f _ => a = 0 ∧ f = 12) → (∀ i v b, i < (HL R).length → v < tcR R 1 → b < 32 → tst (c12 V' R i v) b = (tst (c12 V R i v) b || (!tst y ((HL R).getD i 0) && decide (b = dgR R v p)))) → K V') : vMV E d M_X1_support [sl 0 10, wi (nI (tcR R 1)), wi y] V K := by
  have fl : ∀ {V1}, Fc V V1 (fun a f _ => a = 0 ∧ f = 12) → LsH V1 R := fun f1 => ⟨by rw [f1.i (fun y => by have := y.2; omega)]; exact hl.1, fun j hj => by rw [f1.i (fun y => by have := y.2; omega)]; exact hl.2 j hj⟩
  have go : ∀ m i V1, i + m = (HL R).length → Fc V V1 (fun a f _ => a = 0 ∧ f = 12) → (∀ j v b, j < (HL R).length → v < tcR R 1 → b < 32 → tst (c12 V1 R j v) b = (tst (c12 V R j v) b || (decide (j < i) && (!tst y ((HL R).getD j 0) && decide (b = dgR R v p))))) → vwp E d M_X1_support 2 [some (sl 0 10), some (wi (nI (tcR R 1))), some (wi y), some (wi (nI i)), none, none] [] V1 (zv K) := by
    intro m
    induction m with
    | zero =>
      intro i V1 e f1 c1
      refine w_X1_support_2 ⟨fun _ => hk V1 f1 (fun j v b hj hv hb => ?_), fun z => absurd (by rw [(fl f1).1]; exact nI_le (by omega) (by omega)) z⟩
      rw [c1 j v b hj hv hb, decide_eq_true (show j < i by omega), Bool.true_and]
    | succ m ih =>
      intro i V1 e f1 c1
      have hi : i < (HL R).length := by omega
      obtain ⟨a1, a2, _⟩ := HL_mem hi
      refine w_X1_support_2 ⟨fun z => absurd z (by rw [(fl f1).1]; exact nI_ge hi (by omega)), fun _ => ⟨vp_in_nI (by omega) (by decide), ?_⟩⟩
      rw [nI_clamp (show i < 2 ^ 31 by omega), (fl f1).2 i hi]
      have next : ∀ V2, Fc V V2 (fun a f _ => a = 0 ∧ f = 12) → (∀ j v b, j < (HL R).length → v < tcR R 1 → b < 32 → tst (c12 V2 R j v) b = (tst (c12 V R j v) b || (decide (j < i + 1) && (!tst y ((HL R).getD j 0) && decide (b = dgR R v p))))) → vwp E d M_X1_support 70 [some (sl 0 10), some (wi (nI (tcR R 1))), some (wi y), some (wi (nI i)), some (wi (nI ((HL R).getD i 0))), none] [] V2 (zv K) := fun V2 f2 c2 => by
        refine w_X1_support_70 ?_
        rw [nI_1]; exact ih (i + 1) V2 (by omega) f2 c2
      refine ⟨fun z => ?_, fun z => next V1 f1 (fun j v b hj hv hb => ?_)⟩
      · have z := (tst_0 y (v := (HL R).getD i 0) (by omega)).mp z
        have inner : ∀ s u V2, u + s = tcR R 1 → Fc V V2 (fun a f _ => a = 0 ∧ f = 12) → (∀ j v b, j < (HL R).length → v < tcR R 1 → b < 32 → tst (c12 V2 R j v) b = (tst (c12 V R j v) b || (decide (j < i ∨ j = i ∧ v < u) && (!tst y ((HL R).getD j 0) && decide (b = dgR R v p))))) → vwp E d M_X1_support 33 [some (sl 0 10), some (wi (nI (tcR R 1))), some (wi y), some (wi (nI i)), some (wi (nI ((HL R).getD i 0))), some (wi (nI u))] [] V2 (zv K) := by
          intro s
          induction s with
          | zero =>
            intro u V2 e f2 c2
            refine w_X1_support_33 ⟨fun _ => next V2 f2 (fun j v b hj hv hb => ?_), fun z => absurd (nI_le (by omega) (by omega)) z⟩
            rw [c2 j v b hj hv hb]
            congr 2
            exact decide_eq_decide.mpr ⟨fun z => by omega, fun z => by omega⟩
          | succ s ih2 =>
            intro u V2 e f2 c2
            have hu : u < tcR R 1 := by omega
            have ei : nI ((HL R).getD i 0) * 12 + nI u = nI (12 * (HL R).getD i 0 + u) := by rw [show (12 : Int32) = nI 12 from rfl, nI_mul, nI_add, Nat.mul_comm]
            refine w_X1_support_33 ⟨fun z => absurd z (nI_ge hu (by omega)), fun _ => ?_⟩
            rw [ei, nI_clamp (show 12 * (HL R).getD i 0 + u < 2 ^ 31 by omega), nI_clamp (show u < 2 ^ 31 by omega)]
            refine ⟨vp_in_nI (by omega) (by decide), vp_in_nI (by omega) (by decide), vp_in_nI (by omega) (by decide), fun V4 e4 => ?_⟩
            have r13' : vI V2 0 13 u = nI (dgR R u p) := by rw [f2.i (fun y => by have := y.2; omega)]; exact r13 u hu
            rw [r13'] at e4
            rw [nI_1]
            refine ih2 (u + 1) V4 (by omega) (f2.trans (by rw [e4]; exact Fc_wrI ⟨rfl, rfl⟩)) (fun j v b hj hv hb => ?_)
            have dz := hz u hu
            by_cases c : j = i ∧ v = u
            · obtain ⟨rfl, rfl⟩ := c
              have e5 : c12 V4 R j v = c12 V2 R j v ||| (1 : Int32) <<< (nI (dgR R v p) &&& 31) := by rw [e4]; exact wrI_at
              rw [e5, tst_or, c2 j v b hj hv hb, tst_one (by omega) hb, decide_eq_false (show ¬ (j < j ∨ j = j ∧ v < v) by omega), Bool.false_and, Bool.or_false, decide_eq_true (show j < j ∨ j = j ∧ v < v + 1 by omega), Bool.true_and, z]
              rfl
            · have e5 : c12 V4 R j v = c12 V2 R j v := by
                rw [e4]
                refine wrI_ne (fun w => c ?_)
                have w := w.2.2
                have : (HL R).getD j 0 = (HL R).getD i 0 ∧ v = u := by omega
                exact ⟨HL_inj hj hi this.1, this.2⟩
              rw [e5, c2 j v b hj hv hb]
              congr 2
              exact decide_eq_decide.mpr ⟨fun z => by omega, fun z => by
                by_cases y : j < i
                · exact Or.inl y
                · refine Or.inr ⟨by omega, ?_⟩
                  have : v ≠ u := fun w => c ⟨by omega, w⟩
                  omega⟩
        exact inner (tcR R 1) 0 V1 (Nat.zero_add _) f1 (fun j v b hj hv hb => by
          rw [c1 j v b hj hv hb]
          congr 2
          exact decide_eq_decide.mpr ⟨fun z => by omega, fun z => by omega⟩)
      · have z := (tst_1 y (v := (HL R).getD i 0) (by omega)).mp z
        rw [c1 j v b hj hv hb]
        by_cases c : j = i
        · rw [c, z]; rw [Bool.not_true, Bool.false_and, Bool.and_false, Bool.and_false]
        · congr 2
          exact decide_eq_decide.mpr ⟨fun z => by omega, fun z => by omega⟩
  exact w_X1_support_0 (go (HL R).length 0 V (Nat.zero_add _) Fc.refl (fun j v b hj hv hb => by rw [decide_eq_false (Nat.not_lt_zero j), Bool.false_and, Bool.or_false]))
end
