/-! search -/
section
variable {E : EE} {d : Nat} {V V1 : VH} {q B : Nat} {t : Nat → Int32} {n : Nat} {R : List SR} {nt fa : Nat → Int32} {h h' : Nat} {x : Int32} {cs : Nat → Int32}
abbrev fcn (R : List SR) (x : Int32) : Nat := cnt (mvb x (szR R)) (tcR R 1)
abbrev frn (R : List SR) (x : Int32) : Nat → Nat := frP (mvb x (szR R)) (tcR R 1)
theorem sea_late {hw m F : Nat} {len z : Int32} {S : SS} {K : Int32 → VH → Prop} (hk : ∀ V', Fc V V' smT → (∀ i, i < 20 → vI V' 6 54 i = nI h) → (∀ f j, f ≠ 54 → vI V' 6 f j = vI V 6 f j) → vwp E d M_X12_search 220 [some (sl 6 0), some (wi (nI q)), some (wi (nI hw)), some (wi len), some (wi z), some (wi (nI m)), some (wi (nI F)), some (wi (nI h)), some (wi (nI h)), some (wi 0), some (wi 0), none, none, none, none, none, none, none] [] V' (zi K)) : vwp E d M_X12_search 192 [some (sl 6 0), some (wi (nI q)), some (wi (nI hw)), some (wi len), some (wi z), some (wi (nI m)), some (wi (nI F)), some (wi (nI h)), some (wi (nI h)), some (wi 0), none, none, none, none, none, none, none, none] [] V (zi K) := by
  have go : ∀ (m' i : Nat) (W : VH), i + m' = 20 → Fc V W smT → (∀ j, j < i → vI W 6 54 j = nI h) → (∀ f j, f ≠ 54 → vI W 6 f j = vI V 6 f j) → vwp E d M_X12_search 192 [some (sl 6 0), some (wi (nI q)), some (wi (nI hw)), some (wi len), some (wi z), some (wi (nI m)), some (wi (nI F)), some (wi (nI h)), some (wi (nI h)), some (wi (nI i)), none, none, none, none, none, none, none, none] [] W (zi K) := by
    intro m'
    induction m' with
    | zero =>
      intro i W e fW w1 w2
      have : i = 20 := by omega
      subst this
      exact w_X12_search_192 ⟨fun _ => hk W fW w1 w2, fun z => absurd (by decide) z⟩
    | succ m' ih =>
      intro i W e fW w1 w2
      refine w_X12_search_192 ⟨fun z => absurd z (nI_ge (b := 20) (show i < 20 by omega) (by decide)), fun _ => ?_⟩
      rw [nI_clamp (show i < 2 ^ 31 by omega)]
      refine ⟨vp_in_nI (by omega) (by decide), fun V2 e2 => ?_⟩
      rw [nI_1]
      refine ih (i + 1) V2 (by omega) (fW.trans (by rw [e2]; exact Fc_wrI ⟨rfl, by omega⟩)) (fun j hj => ?_) (fun f j hf => by rw [e2, wrI_ne (fun z => hf z.2.1)]; exact w2 f j hf)
      rw [e2]
      by_cases c : j = i
      · rw [c, wrI_at]
      · rw [wrI_ne (fun z => c z.2.2)]; exact w1 j (by omega)
  exact go 20 0 V (by omega) Fc.refl (fun j hj => absurd hj (Nat.not_lt_zero j)) (fun _ _ _ => rfl)
/-- the reference's search, when it knows -/
theorem m_search {hw L m : Nat} {len z : Int32} {K : Int32 → VH → Prop} (h0 : 4 < d) (hm : KnM V q t n R nt fa h x cs) (hH : HwO hw len L) (hn : m ≤ 2000)
    (hk0 : fcn R x = 0 → ∀ V', Fc V V' (fun a f i => smT a f i ∨ a = 6 ∧ f = 0 ∧ i = 79) → vI V' 6 0 76 = z → vI V' 6 0 77 = 1 → vI V' 6 0 78 = -1 → vI V' 6 0 79 = 1 → K 0 V')
    (hk1 : fcn R x ≠ 0 → ∀ V', Fc V V' (fun a f i => smU q (tcR R 1) a f i ∨ a = 6 ∧ f = 0 ∧ i = 79) → ScM V' (tcR R 1) (fcn R x) (frn R x) (srun (sst (szR R) (tcR R 1) (vlR R) (fcn R x) (frn R x) (scQ R nt fa) hw len L m) m 0 (ss0 z h)) → Hq V' q (tcR R 1) (szR R) (srun (sst (szR R) (tcR R 1) (vlR R) (fcn R x) (frn R x) (scQ R nt fa) hw len L m) m 0 (ss0 z h)).kep → vI V' 6 0 79 = 1 → K (nI (srun (sst (szR R) (tcR R 1) (vlR R) (fcn R x) (frn R x) (scQ R nt fa) hw len L m) m 0 (ss0 z h)).tak) V') :
    ∀ V3, V3 = wrI V 6 0 76 z → ∀ V4, V4 = wrI V3 6 0 77 1 → ∀ V5, V5 = wrI V4 6 0 78 (-1) → ∀ V6, V6 = wrI V5 6 0 79 1 → vwp E d M_X12_search 102 [some (sl 6 0), some (wi (nI q)), some (wi (nI hw)), some (wi len), some (wi z), some (wi (nI m)), some (wi 0), some (wi 0), none, none, none, none, none, none, none, none, none, none] [] V6 (zi K) := by
  intro V3 e3 V4 e4 V5 e5 V6 e6
  have v12 : tcR R 1 ≤ 12 := hm.sq.2.2.1
  have q5 := hm.q5
  have p20 := hm.p20
  have k6 : Fc V V6 (fun a f i => smT a f i ∨ a = 6 ∧ f = 0 ∧ i = 79) := by
    rw [e6, e5, e4, e3]
    exact (((Fc_wrI (Or.inl ⟨rfl, by omega⟩)).trans (Fc_wrI (Or.inl ⟨rfl, by omega⟩))).trans (Fc_wrI (Or.inl ⟨rfl, by omega⟩))).trans (Fc_wrI (Or.inr ⟨rfl, rfl, rfl⟩))
  have i76 : vI V6 6 0 76 = z := by rw [e6, wrI_ne (fun z => by omega), e5, wrI_ne (fun z => by omega), e4, wrI_ne (fun z => by omega), e3, wrI_at]
  have i77 : vI V6 6 0 77 = 1 := by rw [e6, wrI_ne (fun z => by omega), e5, wrI_ne (fun z => by omega), e4, wrI_at]
  have i78 : vI V6 6 0 78 = -1 := by rw [e6, wrI_ne (fun z => by omega), e5, wrI_at]
  have i79 : vI V6 6 0 79 = 1 := by rw [e6, wrI_at]
  have nS : ∀ f i, 1 ≤ f → f < 52 → ¬ (smT 6 f i ∨ 6 = 6 ∧ f = 0 ∧ i = 79) := fun f i h1 h2 y => by
    rcases y with ⟨_, y⟩ | y <;> omega
  have go : ∀ (k v : Nat) (W : VH), v + k = tcR R 1 → Fc V6 W (fun a f i => a = 6 ∧ (f = 52 ∨ f = 53)) → (∀ j, j < cnt (mvb x (szR R)) v → vI W 6 52 j = nI (frP (mvb x (szR R)) v j)) → (∀ u, u < v → vI W 6 53 u = -1000) → vwp E d M_X12_search 102 [some (sl 6 0), some (wi (nI q)), some (wi (nI hw)), some (wi len), some (wi z), some (wi (nI m)), some (wi (nI (cnt (mvb x (szR R)) v))), some (wi (nI v)), none, none, none, none, none, none, none, none, none, none] [] W (zi K) := by
    intro k
    induction k with
    | zero =>
      intro v W e fW w52 w53
      have : v = tcR R 1 := by omega
      subst this
      have kW : Fc V W (fun a f i => smT a f i ∨ a = 6 ∧ f = 0 ∧ i = 79) := k6.trans (fW.mono (fun a f i y => Or.inl ⟨y.1, by have := y.2; omega⟩))
      have sqW : Sq W q (tcR R 1) (szR R) (vlR R) := hm.sq.fc kW (fun f i hf => nS f i (by omega) (by omega))
      have hqW : Hq W q (tcR R 1) (szR R) h := ⟨hm.hq.1, fun v hv => by rw [kW.i (nS 19 _ (by omega) (by omega))]; exact hm.hq.2 v hv⟩
      have tqW : Tq W (plR R) (scQ R nt fa) := hm.tq.fc kW (fun i => nS 45 i (by omega) (by omega))
      have c12 : fcn R x ≤ tcR R 1 := cnt_le (mvb x (szR R)) (tcR R 1)
      have i0 : ∀ j, vI W 6 0 j = vI V6 6 0 j := fun j => fW.i (fun y => by have := y.2; omega)
      refine w_X12_search_102 (by omega) (c_vars sqW ⟨fun _ => ⟨fun y => c_handOf (by omega) sqW hqW ?_, fun y => ?_⟩, fun y => absurd (nI_le (Nat.le_refl _) (by omega)) y⟩)
      · have F0 : fcn R x ≠ 0 := fun c => y (by rw [show cnt (mvb x (szR R)) (tcR R 1) = 0 from c]; rfl)
        refine sea_late (S := ss0 z h) (fun V2 f2 w54 w2 => ?_)
        have k2 : Fc V V2 (fun a f i => smT a f i ∨ a = 6 ∧ f = 0 ∧ i = 79) := kW.trans (f2.mono (fun a f i y => Or.inl y))
        have sq2 : Sq V2 q (tcR R 1) (szR R) (vlR R) := hm.sq.fc k2 (fun f i hf => nS f i (by omega) (by omega))
        have tq2 : Tq V2 (plR R) (scQ R nt fa) := hm.tq.fc k2 (fun i => nS 45 i (by omega) (by omega))
        have sc2 : ScM V2 (tcR R 1) (fcn R x) (frn R x) (ss0 z h) := ⟨by rw [w2 0 76 (by decide), i0]; exact i76, by rw [w2 0 77 (by decide), i0]; exact i77, by rw [w2 0 78 (by decide), i0]; exact i78, fun i hi => w54 i hi, fun v hv => by rw [w2 53 v (by decide)]; exact w53 v hv, fun j hj => by rw [w2 52 j (by decide)]; exact w52 j hj⟩
        have so : SsO (Tp (szR R) (tcR R 1) 0) (ss0 z h) := ⟨hm.hq.1, hm.hq.1, fun _ => hm.hq.1, fun v t e => nomatch e⟩
        have i79' : vI V2 6 0 79 = 1 := by rw [w2 0 79 (by decide), i0]; exact i79
        exact m_seek_go2 (by omega) sq2 tq2 (frO_of v12 (by show 1 ≤ fcn R x; omega)) hH hn m 0 V2 (ss0 z h) (Nat.zero_add _) Fc.refl sc2 so (fun V' f' s' h' _ => hk1 F0 V' (k2.mono (fun a f i y => by rcases y with y | y; exact Or.inl (Or.inl y); exact Or.inr y) |>.trans (f'.mono (fun a f i y => Or.inl y))) s' h' (by rw [f'.i (fun y => by rcases y with ⟨_, y⟩ | ⟨_, y⟩ <;> omega)]; exact i79'))
      · have F0 : fcn R x = 0 := (nI_eq (b := 0) (by omega) (by decide)).mp y
        exact hk0 F0 W kW (by rw [i0]; exact i76) (by rw [i0]; exact i77) (by rw [i0]; exact i78) (by rw [i0]; exact i79)
    | succ k ih =>
      intro v W e fW w52 w53
      have hv : v < tcR R 1 := by omega
      have kW : Fc V W (fun a f i => smT a f i ∨ a = 6 ∧ f = 0 ∧ i = 79) := k6.trans (fW.mono (fun a f i y => Or.inl ⟨y.1, by have := y.2; omega⟩))
      have sqW : Sq W q (tcR R 1) (szR R) (vlR R) := hm.sq.fc kW (fun f i hf => nS f i (by omega) (by omega))
      have c12 := cnt_le (mvb x (szR R)) v
      obtain ⟨s1, s2, s3, _⟩ := sqW.2.2.2.2.2 v hv
      have pn : vI W 6 21 (12 * q + v) = 0 ↔ tst x v = false := by rw [kW.i (nS 21 _ (by omega) (by omega))]; exact hm.pq v hv
      have step : ∀ (W' : VH) (c : Nat), Fc W W' (fun a f i => a = 6 ∧ (f = 52 ∨ f = 53)) → c = cnt (mvb x (szR R)) (v + 1) → (∀ j, j < cnt (mvb x (szR R)) (v + 1) → vI W' 6 52 j = nI (frP (mvb x (szR R)) (v + 1) j)) → (∀ u, u < v → vI W' 6 53 u = -1000) → vwp E d M_X12_search 155 [some (sl 6 0), some (wi (nI q)), some (wi (nI hw)), some (wi len), some (wi z), some (wi (nI m)), some (wi (nI c)), some (wi (nI v)), none, none, none, none, none, none, none, none, none, none] [] W' (zi K) := fun W' c f' ec r52 r53 => by
        refine w_X12_search_155 ?_
        rw [nI_clamp (show v < 2 ^ 31 by omega)]
        refine ⟨vp_in_nI (by omega) (by decide), fun V2 e2 => ?_⟩
        rw [nI_1, ec]
        refine ih (v + 1) V2 (by omega) ((fW.trans f').trans (by rw [e2]; exact Fc_wrI ⟨rfl, by omega⟩)) (fun j hj => by rw [e2, wrI_ne (fun z => by omega)]; exact r52 j hj) (fun u hu => ?_)
        rw [e2]
        by_cases c : u = v
        · rw [c, wrI_at]
        · rw [wrI_ne (fun z => c z.2.2)]; exact r53 u (by omega)
      have no : mvb x (szR R) v = false → vwp E d M_X12_search 155 [some (sl 6 0), some (wi (nI q)), some (wi (nI hw)), some (wi len), some (wi z), some (wi (nI m)), some (wi (nI (cnt (mvb x (szR R)) v))), some (wi (nI v)), none, none, none, none, none, none, none, none, none, none] [] W (zi K) := fun c => by
        have ec : cnt (mvb x (szR R)) (v + 1) = cnt (mvb x (szR R)) v := by rw [cnt, c]; rfl
        refine step W _ Fc.refl ec.symm (fun j hj => ?_) w53
        rw [w52 j (by omega), frP, if_neg (fun y => by rw [c] at y; exact absurd y.1 (by decide))]
      refine w_X12_search_102 (by omega) (c_vars sqW ⟨fun y => absurd y (nI_ge hv (by omega)), fun _ => ?_⟩)
      rw [i12, nI_clamp (show 12 * q + v < 2 ^ 31 by omega), s1]
      have vp : vp_in (nI (12 * q + v)) 60 := vp_in_nI (by omega) (by decide)
      refine ⟨vp, fun y => no ?_, fun y => ⟨vp, fun w => no ?_, fun w => ?_⟩⟩
      · have : tst x v = true := by
          cases c : tst x v
          · exact absurd (pn.mpr c) y
          · rfl
        show (!tst x v && decide (2 ≤ szR R v)) = false
        rw [this]; rfl
      · have : ¬ 2 ≤ szR R v := fun c => absurd w (nI_ge (a := 1) (by omega) (by omega))
        show (!tst x v && decide (2 ≤ szR R v)) = false
        rw [decide_eq_false this, Bool.and_false]
      · have t0 := pn.mp y
        have s2' : 2 ≤ szR R v := by
          by_cases c : 2 ≤ szR R v
          · exact c
          · exact absurd (nI_le (b := 1) (show szR R v ≤ 1 by omega) (by decide)) w
        have mt : mvb x (szR R) v = true := by
          show (!tst x v && decide (2 ≤ szR R v)) = true
          rw [t0, decide_eq_true s2']; rfl
        have ec : cnt (mvb x (szR R)) (v + 1) = cnt (mvb x (szR R)) v + 1 := by rw [cnt, mt]; rfl
        rw [nI_clamp (show cnt (mvb x (szR R)) v < 2 ^ 31 by omega)]
        refine ⟨vp_in_nI (by omega) (by decide), fun V8 e8 => ?_⟩
        rw [nI_1]
        refine step V8 _ (by rw [e8]; exact Fc_wrI ⟨rfl, by omega⟩) ec.symm (fun j hj => ?_) (fun u hu => by rw [e8, wrI_ne (fun z => by omega)]; exact w53 u hu)
        rw [e8, frP]
        by_cases c : j = cnt (mvb x (szR R)) v
        · rw [c, wrI_at, if_pos ⟨mt, rfl⟩]
        · rw [wrI_ne (fun z => c z.2.2), if_neg (fun z => c z.2)]; exact w52 j (by omega)
  exact go (tcR R 1) 0 V6 (Nat.zero_add _) Fc.refl (fun j hj => absurd hj (Nat.not_lt_zero j)) (fun u hu => absurd hu (Nat.not_lt_zero u))
theorem nI_inv {a : Int32} {k : Nat} (z : ¬ a < 0) (y : ¬ nI k < a) (hk : k < 2 ^ 31) : ∃ i, i ≤ k ∧ a = nI i := by
  obtain ⟨i, hi, e⟩ := nI_ofn z
  subst e
  refine ⟨i, ?_, rfl⟩
  by_cases c : i ≤ k
  · exact c
  · exact absurd (nI_lt (by omega) hi) y
end
section
variable {E : EE} {d x B B' : Nat}
theorem o_search (h0 : 200 < d) (hB : B ≤ B') : VO_search E d (JA x B) (JA x B') := fun V a0 a1 a2 a3 a4 hJ => liftI hJ (fun hW hS => by
  rcases hS.inQ a0 with ⟨hP, hM⟩ | ⟨q, t, n, R, nt, fa, h, px, cs, hq, rfl, hI⟩
  · exact nul_search (J := fun V2 => WF V2 → JS B' V2) (by omega) hW hP hM (fun _ => hS.mono hB)
  · have fin : ∀ (r : Int32), r = r ∧ (WF V → JS B' V) := fun r => ⟨rfl, fun _ => hS.mono hB⟩
    have hh := hI.hnd
    have p20 := hI.p20
    have v12 := hI.v12
    -- no search
    have refN : (a4 < 0 ∨ 2000 < a4 ∨ a1 < 0 ∨ ¬ a1 ≤ 3 ∨ ¬ a1 ≤ 0 ∧ a2 < 1 ∨ a1 = 1 ∧ 20 < a2 ∨ a1 = 2 ∧ 100 < a2 ∨ a1 = 3 ∧ 10000 < a2) → vMI E d M_X12_search [sl 6 0, wi (nI q), wi a1, wi a2, wi a3, wi a4] V (fun r' V2 => -1 = r' ∧ (WF V2 → JS B' V2)) := fun c => by
      refine w_X12_search_0 (by omega) (c_isProblem_y hI.mi hq ⟨fun w => absurd w (by decide), fun _ => ⟨fun _ => fin _, fun z1 => ⟨fun _ => fin _, fun z2 => ⟨fun _ => fin _, fun z3 => ⟨fun z4 => ⟨fun z5 => ?_, fun z5 => ⟨fun _ => fin _, fun z6 => ⟨fun z7 => ⟨fun z8 => ?_, fun z8 => ?_⟩, fun z7 => ?_⟩⟩⟩, fun _ => fin _⟩⟩⟩⟩⟩)
      · exfalso
        have e0 : a1 = 0 := Int32.le_antisymm z5 (Int32.not_lt.mp z3)
        rcases c with c | c | c | c | c | c | c | c
        · exact z1 c
        · exact z2 c
        · exact z3 c
        · exact c z4
        · exact c.1 z5
        · exact absurd (e0.symm.trans c.1) (by decide)
        · exact absurd (e0.symm.trans c.1) (by decide)
        · exact absurd (e0.symm.trans c.1) (by decide)
      · refine w_X12_search_65 ⟨fun w => ?_, fun _ => fin _⟩
        exfalso
        rcases c with c | c | c | c | c | c | c | c
        · exact z1 c
        · exact z2 c
        · exact z3 c
        · exact c z4
        · exact z6 c.2
        · exact z7 c.1
        · exact z8 c.1
        · exact absurd w (Int32.not_le.mpr c.2)
      · refine w_X12_search_65 ⟨fun w => ?_, fun _ => fin _⟩
        exfalso
        rcases c with c | c | c | c | c | c | c | c
        · exact z1 c
        · exact z2 c
        · exact z3 c
        · exact c z4
        · exact z6 c.2
        · exact z7 c.1
        · exact absurd w (Int32.not_le.mpr c.2)
        · exact absurd (z8.symm.trans c.1) (by decide)
      · refine w_X12_search_65 ⟨fun w => ?_, fun _ => fin _⟩
        exfalso
        rcases c with c | c | c | c | c | c | c | c
        · exact z1 c
        · exact z2 c
        · exact z3 c
        · exact c z4
        · exact z6 c.2
        · exact absurd w (Int32.not_le.mpr c.2)
        · exact absurd (z7.symm.trans c.1) (by decide)
        · exact absurd (z7.symm.trans c.1) (by decide)
    -- a search of how hw
    have run : ∀ (hw L m : Nat), a1 = nI hw → HwO hw a2 L → a4 = nI m → m ≤ 2000 → vMI E (d - 1) M_X6_seek [sl 0 16, sl (q + 1) 0, wi a1, wi a2, wi a3, wi a4] V (fun r8 V8 => vMI E d M_X12_search [sl 6 0, wi (nI q), wi a1, wi a2, wi a3, wi a4] V8 (fun r' V2 => r8 = r' ∧ (WF V2 → JS B' V2))) := fun hw L m e1 hH e4 hm => by
      subst e1 e4
      have hw3 := hH.1
      -- the reference comes to its search
      have toS : ∀ (W : VH) (K : Int32 → VH → Prop), MiQ W q t n R fa h px cs → vwp E d M_X12_search 70 [some (sl 6 0), some (wi (nI q)), some (wi (nI hw)), some (wi a2), some (wi a3), some (wi (nI m)), none, none, none, none, none, none, none, none, none, none, none, none] [] W (zi K) → vMI E d M_X12_search [sl 6 0, wi (nI q), wi (nI hw), wi a2, wi a3, wi (nI m)] W K := fun W K mi hv => by
        refine w_X12_search_0 (by omega) (c_isProblem_y mi hq ⟨fun w => absurd w (by decide), fun _ => ⟨fun w => absurd w (nI_pos (by omega)), fun _ => ⟨fun w => absurd w (Int32.not_lt.mpr (nI_le (b := 2000) hm (by decide))), fun _ => ⟨fun w => absurd w (nI_pos (by omega)), fun _ => ⟨fun _ => ⟨fun _ => hv, fun w => ?_⟩, fun w => absurd (nI_le (b := 3) hw3 (by decide)) w⟩⟩⟩⟩⟩)
        have hw0 : hw ≠ 0 := fun c => w (by rw [c]; decide)
        obtain ⟨eL, L1, L2⟩ := hH.2.1 hw0
        refine ⟨fun y => absurd y (by rw [eL]; exact Int32.not_lt.mpr (nI_le (a := 1) L1 (by omega))), fun _ => ⟨fun y => ⟨fun y2 => w_X12_search_65 ⟨fun _ => hv, fun u => absurd (by rw [eL]; exact nI_le (b := 10000) L2 (by decide)) u⟩, fun y2 => w_X12_search_65 ⟨fun _ => hv, fun u => absurd (by rw [eL]; exact nI_le (b := 100) (hH.2.2.2 ((nI_eq (b := 2) (by omega) (by decide)).mp y2)) (by decide)) u⟩⟩, fun y => w_X12_search_65 ⟨fun _ => hv, fun u => absurd (by rw [eL]; exact nI_le (b := 20) (hH.2.2.1 ((nI_eq (b := 1) (by omega) (by decide)).mp y)) (by decide)) u⟩⟩⟩
      refine w_X6_seek_0 hI.2.1.1 (by omega) (c_begin (len := a2) (by omega) hI.sp hh.1 hI.2.1.2.2.2.2.2.2.2.2.2.1 (fun V1 k1 s1 f1 => ⟨fun y => ?_, fun y => ?_⟩))
      · have F0 : fcn R px ≠ 0 := fun c => y (by rw [s1.2.2.2.2.2.1]; show nI (fcn R px) = 0; rw [c]; rfl)
        refine c_renewF (by omega) hW hq hS hI k1 (fun a f j y => by have := y.1; omega) (fun V0 V5 j0 i0 k05 s5 ev e5 => ?_)
        have c05 : ∀ f j, vI V5 0 f j = vI V1 0 f j := fun f j => (e5 0 f j (by omega)).1
        have sc5 : ScC V5 (fcn R px) (frn R px) a2 (ss0 a3 h) := by
          obtain ⟨b1, b2, b3, b4, b5, b6, b7, b8, b9⟩ := s1
          exact ⟨by rw [c05]; exact b1, by rw [c05]; exact b2, by rw [c05]; exact b3, by rw [c05]; exact b4, by rw [c05]; exact b5, by rw [c05]; exact b6, fun i hi => by rw [c05]; exact b7 i hi, fun v hv => by rw [c05]; exact b8 v hv, fun j hj => by rw [c05]; exact b9 j hj⟩
        have sp5 : Sp V5 (q + 1) (tcR R 1) (szR R) (vlR R) := i0.sp.fc k05 (fun f i hf y => by
          rcases y with ⟨y, _⟩ | ⟨_, y⟩ <;> omega)
        have so : SsO (Tp (szR R) (tcR R 1) 0) (ss0 a3 h) := ⟨hh.2, hh.2, fun _ => hh.2, fun v t e => nomatch e⟩
        refine c_seek_go2 (by omega) sp5 s5.1 (frO_of v12 (by show 1 ≤ fcn R px; omega)) hH hm m 0 V5 (ss0 a3 h) (Nat.zero_add _) Fc.refl sc5 so (fun V8 k8 s8 h8 so8 => ?_)
        generalize eS : srun (sst (szR R) (tcR R 1) (vlR R) (fcn R px) (frn R px) (scQ R nt fa) hw a2 L m) m 0 (ss0 a3 h) = S8 at *
        have k08 : Fc V0 V8 (fun a f j => (seS a f j ∨ rnC q a f j) ∨ seU (q + 1) a f j) := (k05.mono (fun a f j y => Or.inl y)).trans (k8.mono (fun a f j y => Or.inr y))
        have n6 : ∀ f j, ¬ ((seS 6 f j ∨ rnC q 6 f j) ∨ seU (q + 1) 6 f j) := fun f j y => by
          rcases y with (⟨y, _⟩ | ⟨y, _⟩) | ⟨y, _⟩ | ⟨y, _⟩ <;> omega
        refine toS V8 _ (i0.mi.fc i0.1 k08 (fun f j y => absurd y (n6 f j))) (w_X12_search_70 (by omega) (know_go (by omega) i0 k08 n6 (fun V2 f2 w mi2 e1 e2 => ?_)))
        refine m_search (L := L) (by omega) ⟨mi2, w⟩ hH hm (fun c => absurd c F0) (fun _ V' k' sm hq' i79 => ?_)
        rw [eS] at sm hq' ⊢
        refine ⟨rfl, fun _ => ?_⟩
        have w6 : ∀ {a f j : Nat}, waS a f j → a = 6 := fun y => by rcases y with ⟨y, _⟩ | ⟨y, _⟩ <;> exact y
        have k6' : ∀ {a f j : Nat}, (smU q (tcR R 1) a f j ∨ a = 6 ∧ f = 0 ∧ j = 79) → a = 6 := fun y => by
          rcases y with (⟨y, _⟩ | ⟨y, _⟩) | ⟨y, _⟩ <;> exact y
        have b8 : ∀ a f j, a ≠ 6 → vI V' a f j = vI V8 a f j := fun a f j c => by rw [k'.i (fun y => c (k6' y)), f2.i (fun y => c (w6 y))]
        have b8j : ∀ a f j, a ≠ 6 → vJ V' a f j = vJ V8 a f j := fun a f j c => by rw [k'.j (fun y => c (k6' y)), f2.j (fun y => c (w6 y))]
        have kk2 : Fc V0 V' (fun a f j => enT q a f j ∧ ¬ (a = 0 ∧ f = 28) ∧ ¬ (a = 6 ∧ f = 0 ∧ j < 37)) := by
          refine ((k08.mono (fun a f j y => ?_)).trans (f2.mono (fun a f j y => ⟨Or.inl (waS_ek y).1, fun z => by have := w6 y; omega, fun z => ?_⟩))).trans (k'.mono (fun a f j y => ?_))
          · rcases y with (⟨y1, y2⟩ | ⟨y1, y2⟩) | ⟨y1, y2⟩ | ⟨y1, y2⟩
            · exact ⟨Or.inl (Or.inr (Or.inr ⟨y1, by omega⟩)), fun z => by omega, fun z => by omega⟩
            · refine ⟨?_, fun z => by omega, fun z => by omega⟩
              by_cases c : f = 19 ∨ f = 21 ∨ f = 22
              · exact Or.inr ⟨y1, c⟩
              · exact Or.inl (Or.inl ⟨y1, by omega⟩)
            · exact ⟨Or.inl (Or.inr (Or.inr ⟨y1, by omega⟩)), fun z => by omega, fun z => by omega⟩
            · exact ⟨Or.inl (Or.inl ⟨y1, by omega⟩), fun z => by omega, fun z => by omega⟩
          · rcases y with (⟨y1, y2⟩ | ⟨y1, y2⟩) | ⟨y1, y2⟩
            · exact ⟨Or.inl (Or.inr (Or.inl ⟨y1, by omega⟩)), fun z => by omega, fun z => by omega⟩
            · exact ⟨Or.inl (Or.inr (Or.inl ⟨y1, by omega⟩)), fun z => by omega, fun z => by omega⟩
            · exact ⟨Or.inl (Or.inr (Or.inl ⟨y1, by omega⟩)), fun z => by omega, fun z => by omega⟩
          · rcases y with ⟨_, y⟩ | ⟨_, y⟩ <;> omega
        have kk : Fc V0 V' (enT q) := kk2.mono (fun a f j y => y.1)
        have n6' : ∀ f j, 1 ≤ f → f < 52 → f ≠ 19 → ¬ (smU q (tcR R 1) 6 f j ∨ 6 = 6 ∧ f = 0 ∧ j = 79) := fun f j h1 h2 h3 y => by
          rcases y with (⟨_, y⟩ | ⟨_, y⟩) | ⟨_, y⟩ <;> omega
        have w' : WqR V' R nt fa := w.fc k' (fun f j hf => n6' f j (by omega) (by omega) (by omega))
        have n0' : ∀ j, j = 62 ∨ j = 63 → ¬ (smU q (tcR R 1) 6 0 j ∨ 6 = 6 ∧ 0 = 0 ∧ j = 79) := fun j hj y => by
          rcases y with (⟨_, y⟩ | ⟨_, y⟩) | ⟨_, y⟩ <;> omega
        have e1' : vI V' 6 0 62 = nI q := by rw [k'.i (n0' 62 (by omega))]; exact e1
        have e2' : vI V' 6 0 63 = vI V0 6 33 q := by rw [k'.i (n0' 63 (by omega))]; exact e2
        have tb8 : TabC V' (q + 1) R nt fa := by
          refine Or.inr ⟨s5.1.ex (fun f _ => by rw [k'.n, f2.n, k8.n]) (fun j => ?_) (fun j => ?_), ?_⟩
          · rw [b8 _ _ _ (by omega), k8.i (fun y => by rcases y with ⟨y, _⟩ | ⟨_, y⟩ <;> omega)]
          · rw [b8j _ _ _ (by omega), k8.j (fun y => by rcases y with ⟨y, _⟩ | ⟨_, y⟩ <;> omega)]
          · rw [b8 _ _ _ (by omega), k8.i (fun y => by rcases y with ⟨y, _⟩ | ⟨_, y⟩ <;> omega)]; exact s5.2
        have hI' := i0.en2 (h' := S8.kep) kk tb8 (fun _ _ => w') ⟨by rw [b8 _ _ _ (by omega)]; exact h8, so8.2.1⟩ hq'
        refine (j0.en2 hq kk (j0.2.1.ex kk2 (fun y => y.2.1 ⟨rfl, rfl⟩) (fun y => y.2.1 ⟨rfl, rfl⟩) (fun y => y.2.1 ⟨rfl, rfl⟩) (fun y => y.2.2 ⟨rfl, rfl, by decide⟩) (fun y => y.2.2 ⟨rfl, rfl, by decide⟩) (fun y => y.2.2 ⟨rfl, rfl, by decide⟩)) ?_ (j0.2.2.2.2.2.2.1.kn hq e1' e2' (fun j => kk.i (fun y => by
          rcases y with y | y
          · unfold enS at y; omega
          · omega))) (fun q' h1 h2 z => ?_) (Or.inr ⟨t, n, R, nt, fa, S8.kep, px, cs, hI'⟩)).mono hB
        · have z16 : vI V8 0 16 0 = 1 := by rw [k8.i (fun y => by rcases y with ⟨_, y⟩ | ⟨y, _⟩ <;> omega), c05]; exact f1
          unfold SeJ
          rw [b8 0 16 0 (by omega), b8 0 16 1 (by omega), b8 0 16 2 (by omega), b8 0 16 3 (by omega), z16, i79, s8.1, s8.2.1, s8.2.2.1, sm.1, sm.2.1, sm.2.2.1]
          exact ⟨⟨fun z => absurd z (by decide), fun z => absurd z (by decide)⟩, fun _ => ⟨rfl, rfl, rfl⟩⟩
        · rw [e1'] at z
          exact h2 ((nI_eq (by omega) (by omega)).mp z).symm
      · have F0 : fcn R px = 0 := by
          rw [s1.2.2.2.2.2.1] at y
          have c12 : fcn R px ≤ tcR R 1 := cnt_le (mvb px (szR R)) (tcR R 1)
          exact (nI_eq (b := 0) (by show fcn R px < 2 ^ 31; omega) (by decide)).mp y
        have n6 : ∀ f j, ¬ seS 6 f j := fun f j y => absurd y.1 (by decide)
        refine toS V1 _ (hI.mi.fc hI.1 k1 (fun f j y => absurd y (n6 f j))) (w_X12_search_70 (by omega) (know_go (by omega) hI k1 n6 (fun V2 f2 w mi2 e1 e2 => ?_)))
        refine m_search (L := L) (by omega) ⟨mi2, w⟩ hH hm (fun _ V' k' i76 i77 i78 i79 => ⟨rfl, fun _ => ?_⟩) (fun c => absurd F0 c)
        have kk : Fc V V' (enS q) := ((k1.mono (fun a f j y => Or.inr (Or.inr ⟨y.1, by have := y.2; omega⟩))).trans (f2.mono (fun a f j y => (waS_ek y).1))).trans (k'.mono (fun a f j y => by
          rcases y with ⟨y1, y2⟩ | ⟨y1, y2⟩
          · exact Or.inr (Or.inl ⟨y1, by omega⟩)
          · exact Or.inr (Or.inl ⟨y1, by omega⟩)))
        have n6' : ∀ f j, 1 ≤ f → f < 52 → ¬ (smT 6 f j ∨ 6 = 6 ∧ f = 0 ∧ j = 79) := fun f j h1 h2 y => by rcases y with ⟨_, y⟩ | y <;> omega
        have w' : WqR V' R nt fa := w.fc k' (fun f j hf => n6' f j (by omega) (by omega))
        have c0 : ∀ j, vI V' 0 16 j = vI V1 0 16 j := fun j => by rw [k'.i (fun y => by rcases y with ⟨y, _⟩ | ⟨y, _⟩ <;> omega), f2.i (fun y => by rcases y with ⟨y, _⟩ | ⟨y, _⟩ <;> omega)]
        have e1' : vI V' 6 0 62 = nI q := by rw [k'.i (fun y => by rcases y with ⟨_, y⟩ | ⟨_, y⟩ <;> omega)]; exact e1
        have e2' : vI V' 6 0 63 = vI V 6 33 q := by rw [k'.i (fun y => by rcases y with ⟨_, y⟩ | ⟨_, y⟩ <;> omega)]; exact e2
        have hI' := hI.en (h' := h) kk (fun _ _ => w') ⟨by rw [k'.i (fun y => by rcases y with ⟨y, _⟩ | ⟨y, _⟩ <;> omega), f2.i (fun y => by rcases y with ⟨y, _⟩ | ⟨y, _⟩ <;> omega), k1.i (fun y => by have := y.1; omega)]; exact hh.1, hh.2⟩ ⟨mi2.1.2.2.2.2.2.2.2.2.1.1, fun v hv => by rw [k'.i (n6' 19 _ (by omega) (by omega))]; exact mi2.1.2.2.2.2.2.2.2.2.1.2 v hv⟩
        refine (hS.en hq kk (hS.2.1.ex (S := fun a f j => enS q a f j ∧ ¬ (a = 0 ∧ f = 28) ∧ ¬ (a = 6 ∧ f = 0 ∧ j < 37)) ?_ (fun y => y.2.1 ⟨rfl, rfl⟩) (fun y => y.2.1 ⟨rfl, rfl⟩) (fun y => y.2.1 ⟨rfl, rfl⟩) (fun y => y.2.2 ⟨rfl, rfl, by decide⟩) (fun y => y.2.2 ⟨rfl, rfl, by decide⟩) (fun y => y.2.2 ⟨rfl, rfl, by decide⟩)) ?_ (hS.2.2.2.2.2.2.1.kn hq e1' e2' (fun j => kk.i (fun y => by unfold enS at y; omega))) (fun q' h1 h2 z => ?_) (Or.inr ⟨t, n, R, nt, fa, h, px, cs, hI'⟩)).mono hB
        · exact ((k1.mono (fun a f j y => ⟨Or.inr (Or.inr ⟨y.1, by have := y.2; omega⟩), fun z => by have := y.2; omega, fun z => by have := y.1; omega⟩)).trans (f2.mono (fun a f j y => ⟨(waS_ek y).1, fun z => by rcases y with ⟨y, _⟩ | ⟨y, _⟩ <;> omega, fun z => by rcases y with ⟨_, y⟩ | ⟨_, y⟩ <;> omega⟩))).trans (k'.mono (fun a f j y => by
            rcases y with ⟨y1, y2⟩ | ⟨y1, y2⟩
            · exact ⟨Or.inr (Or.inl ⟨y1, by omega⟩), fun z => by omega, fun z => by omega⟩
            · exact ⟨Or.inr (Or.inl ⟨y1, by omega⟩), fun z => by omega, fun z => by omega⟩))
        · unfold SeJ
          rw [c0, c0, c0, c0, i76, i77, i78, i79, f1, s1.1, s1.2.1, s1.2.2.1]
          exact ⟨⟨fun z => absurd z (by decide), fun z => absurd z (by decide)⟩, fun _ => ⟨rfl, rfl, rfl⟩⟩
        · rw [e1'] at z
          exact h2 ((nI_eq (by omega) (by omega)).mp z).symm
    refine w_X11_search_0 (by omega) (c_known_y hI hq ⟨fun z => absurd hI.2.1.1.1 z, fun _ => ⟨hI.2.1.1.2, fun z => refN (Or.inl z), fun z => ⟨fun y => refN (Or.inr (Or.inl y)), fun y => ?_⟩⟩⟩)
    obtain ⟨m, hm, e4⟩ := nI_inv (k := 2000) z y (by decide)
    refine w_X6_mayBe_0 ⟨fun e => ⟨fun _ => run 0 0 m e ⟨by decide, fun c => absurd rfl c, fun c => absurd c (by decide), fun c => absurd c (by decide)⟩ e4 hm, fun c => absurd c (by decide)⟩, fun e => ⟨fun w => ⟨fun c => absurd rfl c, fun _ => refN (Or.inr (Or.inr (Or.inr (Or.inr (Or.inl ⟨by rw [e]; decide, w⟩)))))⟩, fun w => ⟨fun u => ⟨fun c => absurd rfl c, fun _ => refN (Or.inr (Or.inr (Or.inr (Or.inr (Or.inr (Or.inl ⟨e, u⟩))))))⟩, fun u => ⟨fun _ => ?_, fun c => absurd c (by decide)⟩⟩⟩, fun e => ⟨fun w => ⟨fun c => absurd rfl c, fun _ => refN (Or.inr (Or.inr (Or.inr (Or.inr (Or.inl ⟨by rw [e]; decide, w⟩)))))⟩, fun w => ⟨fun u => ⟨fun c => absurd rfl c, fun _ => refN (Or.inr (Or.inr (Or.inr (Or.inr (Or.inr (Or.inr (Or.inl ⟨e, u⟩)))))))⟩, fun u => ⟨fun _ => ?_, fun c => absurd c (by decide)⟩⟩⟩, fun e => ⟨fun w => ⟨fun c => absurd rfl c, fun _ => refN (Or.inr (Or.inr (Or.inr (Or.inr (Or.inl ⟨by rw [e]; decide, w⟩)))))⟩, fun w => ⟨fun u => ⟨fun c => absurd rfl c, fun _ => refN (Or.inr (Or.inr (Or.inr (Or.inr (Or.inr (Or.inr (Or.inr ⟨e, u⟩)))))))⟩, fun u => ⟨fun _ => ?_, fun c => absurd c (by decide)⟩⟩⟩, fun z0 z1 z2 z3 => ⟨fun c => absurd rfl c, fun _ => ?_⟩⟩
    · obtain ⟨L, hL, eL⟩ := nI_inv (k := 20) (lt01 w) u (by decide)
      refine run 1 L m e ⟨by decide, fun _ => ⟨eL, ?_, by omega⟩, fun _ => hL, fun c => absurd c (by decide)⟩ e4 hm
      by_cases c : 1 ≤ L
      · exact c
      · exact absurd (show a2 < 1 from by rw [eL, show L = 0 by omega]; decide) w
    · obtain ⟨L, hL, eL⟩ := nI_inv (k := 100) (lt01 w) u (by decide)
      refine run 2 L m e ⟨by decide, fun _ => ⟨eL, ?_, by omega⟩, fun c => absurd c (by decide), fun _ => hL⟩ e4 hm
      by_cases c : 1 ≤ L
      · exact c
      · exact absurd (show a2 < 1 from by rw [eL, show L = 0 by omega]; decide) w
    · obtain ⟨L, hL, eL⟩ := nI_inv (k := 10000) (lt01 w) u (by decide)
      refine run 3 L m e ⟨by decide, fun _ => ⟨eL, ?_, hL⟩, fun c => absurd c (by decide), fun c => absurd c (by decide)⟩ e4 hm
      by_cases c : 1 ≤ L
      · exact c
      · exact absurd (show a2 < 1 from by rw [eL, show L = 0 by omega]; decide) w
    · by_cases c1 : a1 < 0
      · exact refN (Or.inr (Or.inr (Or.inl c1)))
      · by_cases c2 : a1 ≤ 3
        · exfalso
          obtain ⟨i, hi, ei⟩ := nI_inv (k := 3) c1 (Int32.not_lt.mpr c2) (by decide)
          have : i = 0 ∨ i = 1 ∨ i = 2 ∨ i = 3 := by omega
          rcases this with c | c | c | c <;> subst c
          · exact z0 ei
          · exact z1 ei
          · exact z2 ei
          · exact z3 ei
        · exact refN (Or.inr (Or.inr (Or.inr (Or.inl c2)))))
end
