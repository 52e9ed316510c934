/-! front, frontAt, frontPlan -/
theorem nL_add (a b : Nat) : nL a + nL b = nL (a + b) := (Int64.ofNat_add a b).symm
section
variable {E : EE} {d : Nat} {V V' : VH} {q B : Nat} {t : Nat → Int32} {n : Nat} {R : List SR} {nt fa : Nat → Int32} {h h' : Nat} {x b : Int32} {cs : Nat → Int32}
theorem wfS_ek {a f j : Nat} (y : wfS (q + 1) a f j) : enK q a f j := ⟨Or.inl ⟨y.1, by have := y.2; omega⟩, fun z => by have := y.1; omega, fun z => by have := y.2; omega⟩
theorem prS_ek {a f j : Nat} (y : prS a f j) : enK q a f j := ⟨Or.inr (Or.inl ⟨y.1, Or.inl ⟨y.2.1, by have := y.2.2; omega⟩⟩), fun z => by have := y.1; omega, fun z => by have := y.2; omega⟩
theorem fr_end {V1 V4 V2 V3 : VH} (hq : q < 4) (hS : JS B V1) (hI : PbI V1 q t n R nt fa h x cs) (f4 : Fc V1 V4 (wfS (q + 1))) (f2 : Fc V4 V2 waS) (w : WqR V2 R nt fa) (mi : MiQ V2 q t n R fa h x cs) (e1 : vI V2 6 0 62 = nI q) (e2 : vI V2 6 0 63 = vI V1 6 33 q) (f3 : Fc V2 V3 prS) : JS B V3 := by
  have k : Fc V1 V3 (enK q) := ((f4.mono (fun a f j y => wfS_ek y)).trans (f2.mono (fun a f j y => waS_ek y))).trans (f3.mono (fun a f j y => prS_ek y))
  have kn : KnM V3 q t n R nt fa h x cs := KnM.fc ⟨mi, w⟩ hI.1 f3 (fun f j y => Or.inl y.2.1)
  refine (hS.ek hI hq k kn.2 (by rw [f3.i (fun y => by have := y.2.2; omega)]; exact e1) (by rw [f3.i (fun y => by have := y.2.2; omega)]; exact e2) ⟨?_, hI.hnd.2⟩ kn.hq).1
  rw [f3.i (fun y => by have := y.1; omega), f2.i (fun y => by rcases y with ⟨y, _⟩ | ⟨y, _⟩ <;> omega), f4.i (fun y => by have := y.2; omega)]
  exact hI.hnd.1
theorem fr_mv {p : Nat} {V1 V4 V9 V2 V3 V5 : VH} (hq : q < 4) (hS : JS B V1) (hI : PbI V1 q t n R nt fa h x cs) (f4 : Fc V1 V4 (wfS (q + 1))) (e9 : V9 = wrI V4 (q + 1) 0 8 (nI p)) (hp : p < plR R) (f2 : Fc V9 V2 waS) (w : WqR V2 R nt fa) (e1 : vI V2 6 0 62 = nI q) (e2 : vI V2 6 0 63 = vI V1 6 33 q) (f3 : Fc V2 V3 prS) (f5 : Fc V3 V5 (hnS q)) (hh : Hq V5 q (tcR R 1) (szR R) p) : JS B V5 := by
  have k9 : Fc V4 V9 (enK q) := by rw [e9]; exact Fc_wrI ⟨Or.inl ⟨rfl, by omega⟩, fun z => by omega, fun z => by omega⟩
  have k : Fc V1 V5 (enK q) := ((((f4.mono (fun a f j y => wfS_ek y)).trans k9).trans (f2.mono (fun a f j y => waS_ek y))).trans (f3.mono (fun a f j y => prS_ek y))).trans (f5.mono (fun a f j y => hnS_ek y))
  refine (hS.ek hI hq k ((w.fc f3 (fun f j z y => by have := y.2.1; omega)).fc f5 (fun f j z y => by have := y.2.1; omega)) (by rw [f5.i (fun y => by have := y.2.1; omega), f3.i (fun y => by have := y.2.2; omega)]; exact e1) (by rw [f5.i (fun y => by have := y.2.1; omega), f3.i (fun y => by have := y.2.2; omega)]; exact e2) ⟨?_, hp⟩ hh).1
  rw [f5.i (fun y => by have := y.1; omega), f3.i (fun y => by have := y.1; omega), f2.i (fun y => by rcases y with ⟨y, _⟩ | ⟨y, _⟩ <;> omega), e9]
  exact wrI_at
theorem c_findPair_n {y : Int32} {K : Int32 → VH → Prop} (h0 : 4 < d) (hy : y < 0) (hk : K 0 V) : vMI E d M_X12_findPair [sl 6 0, wi (nI q), wi y] V K :=
  w_X12_findPair_0 (by omega) ⟨fun _ => w_X12_findPair_18 (w_X12_findPair_19 (w_X12_findPair_23 (by omega) ⟨fun _ => ⟨Or.inl rfl, hk⟩, fun z => absurd rfl z⟩)), fun z => absurd hy z⟩
theorem cnP_cn {p : Nat} : cnP (scQ R nt fa) (gdR R nt fa h x) p = cnL (fun r => goR R nt fa h x r && smp (scQ R nt fa) p r) (plR R) := by
  show (List.filter (smp (scQ R nt fa) p) (List.filter (goR R nt fa h x) (List.range (plR R)))).length = (List.filter _ (List.range (plR R))).length
  rw [List.filter_filter]
  congr 1
  congr 1
  funext r
  exact Bool.and_comm _ _
theorem frAt_go {p : Nat} {y z : Int32} {K : Int64 → VH → Prop} (h0 : 3 < d) (hm : KnM V q t n R nt fa h x cs) (e1 : vJ V 6 0 69 = scQ R nt fa p 1) (e2 : vJ V 6 0 70 = scQ R nt fa p 2) (hk : K (nL (cnP (scQ R nt fa) (gdR R nt fa h x) p)) V) : ∀ m r, r + m = plR R → vwp E d M_X12_frontAt 66 [some (sl 6 0), some (wi (nI q)), some (wi y), some (wi z), some (wj (nL (cnL (fun r => goR R nt fa h x r && smp (scQ R nt fa) p r) r))), none, some (wi (nI r))] [] V (zj K) := by
  have p20 := hm.p20
  have q5 := hm.q5
  intro m
  induction m with
  | zero =>
    intro r e
    have : r = plR R := by omega
    subst this
    refine w_X12_frontAt_66 (by omega) ?_
    rw [nI_clamp (show q < 2 ^ 31 by omega), hm.pl]
    refine ⟨vp_in_nI q5 (by decide), fun _ => ?_, fun w => absurd (nI_le (Nat.le_refl _) (by omega)) w⟩
    rw [cnP_cn] at hk
    exact hk
  | succ m ih =>
    intro r e
    have hr : r < plR R := by omega
    refine w_X12_frontAt_66 (by omega) ?_
    rw [nI_clamp (show q < 2 ^ 31 by omega), hm.pl]
    have i := ih (r + 1) (by omega)
    rw [cnL_s] at i
    refine ⟨vp_in_nI q5 (by decide), fun w => absurd w (nI_ge hr (by omega)), fun _ => c_isPair (by omega) hm e1 e2 hr ⟨fun w => w_X12_frontAt_94 ?_, fun w => w_X12_frontAt_94 ?_⟩⟩
    · rw [bI_0.mp w, if_neg (by decide), Nat.add_zero] at i
      rw [nI_1, Int64.add_zero]; exact i
    · rw [bI_1.mp w, if_pos rfl] at i
      rw [nI_1, show (1 : Int64) = nL 1 from rfl, nL_add]; exact i
theorem frPl_go {m k : Nat} {F : Nat → Nat} {y : Int32} {K : Int32 → VH → Prop} (h0 : 3 < d) (hm : KnM V q t n R nt fa h x cs) (v12 : tcR R 1 ≤ 12) (fr : FrC (scQ R nt fa) (gdR R nt fa h x) m F) (hkm : k < m) (e1 : vJ V 6 0 69 = scQ R nt fa (F k) 1) (e2 : vJ V 6 0 70 = scQ R nt fa (F k) 2) (hk : ∀ V', Fc V V' (hnS q) → Hq V' q (tcR R 1) (szR R) (F k) → K 1 V') : ∀ s r, r + s = F k → vwp E d M_X12_frontPlan 28 [some (sl 6 0), some (wi (nI q)), some (wi y), some (wi (nI r))] [] V (zi K) := by
  have p20 := hm.p20
  have isn := fr.1 k hkm
  have hp : F k < plR R := gd_lt isn.1
  have gp := (gd_iff.mp isn.1).2
  intro s
  induction s with
  | zero =>
    intro r e
    have : r = F k := by omega
    subst this
    refine w_X12_frontPlan_28 (by omega) (c_isPair (by omega) hm e1 e2 hp ⟨fun _ => c_putAtHand (by omega) hm.sq hp (fun V' f hh => hk V' (f.mono (fun a f i y => ⟨y.1, y.2.1, y.2.2.1, by have := y.2.2.2; omega⟩)) hh), fun w => ?_⟩)
    rw [gp, smp_iff.mpr ⟨rfl, rfl⟩] at w
    exact absurd w (by decide)
  | succ s ih =>
    intro r e
    refine w_X12_frontPlan_28 (by omega) (c_isPair (by omega) hm e1 e2 (by omega) ⟨fun w => ?_, fun w => ?_⟩)
    · have w := bI_1.mp w
      rw [Bool.and_eq_true] at w
      have s2 := smp_iff.mp w.2
      exfalso
      have cr : cnd (scQ R nt fa) (lmF (scQ R nt fa) F k) r := fun u hu => by have := isn.2.1 u hu; omega
      rcases isn.2.2 r (gd_iff.mpr ⟨by omega, w.1⟩) cr with z | z
      · omega
      · have := bhd_iff.mp z; omega
    · rw [nI_1]; exact ih (r + 1) (by omega)
end
section
variable {E : EE} {d x B B' : Nat}
theorem o_front (h0 : 190 < d) (hB : B ≤ B') : VO_front E d (JA x B) (JA x B') := fun V a0 hJ => liftI hJ (fun hW hS => by
  rcases hS.inQ a0 with ⟨hP, hM⟩ | ⟨q, t, n, R, nt, fa, h, px, cs, hq, rfl, hI⟩
  · exact nul_front (J := fun V2 => WF V2 → JS B' V2) (by omega) hW hP hM (fun _ => hS.mono hB)
  · refine w_X11_front_0 (by omega) (c_scoredQ (by omega) hW hq hS hI (fun V1 hS1 hI1 s1 => ⟨fun _ => ⟨hI1.2.1.1.2, c_walkFront (by omega) hI1 s1 (fun V4 m F f4 fr hm _ => ?_)⟩, fun z => absurd hI1.2.1.1.1 z⟩))
    have p20 := hI.p20
    have mi := hI1.mi.fc hI1.1 f4 (fun f j y => by have := y.1; omega)
    refine w_X12_front_0 (by omega) (c_isProblem_y mi hq ⟨fun _ => know_go (by omega) hI1 f4 (fun f j y => by have := y.1; omega) (fun V2 f2 w mi2 e1 e2 => ?_), fun w => absurd w (by decide)⟩)
    have fin : ∀ V3, Fc V2 V3 prS → JS B' V3 := fun V3 f3 => (fr_end hq hS1 hI1 f4 f2 w mi2 e1 e2 f3).mono hB
    refine c_nxP (a := 0) (by omega) hI1.1 ⟨mi2, w⟩ fr (Nat.zero_le m) (Or.inl ⟨rfl, rfl⟩) (fun am V3 f3 e3 e4 => ?_) (fun am V3 f3 => ?_)
    · exact front_go (V := V2) (by omega) hI1.1 ⟨mi2, w⟩ fr (fun V5 f5 => ⟨rfl, fun _ => fin V5 f5⟩) m 0 V3 (Nat.zero_add m) am f3 e4
    · rw [← am]
      exact w_X12_front_25 (by omega) ⟨fun _ => ⟨rfl, fun _ => fin V3 f3⟩, fun z => absurd rfl z⟩)
theorem o_frontAt (h0 : 190 < d) (hB : B ≤ B') : VO_frontAt E d (JA x B) (JA x B') := fun V a0 a1 a2 hJ => liftJ hJ (fun hW hS => by
  rcases hS.inQ a0 with ⟨hP, hM⟩ | ⟨q, t, n, R, nt, fa, h, px, cs, hq, rfl, hI⟩
  · exact nul_frontAt (J := fun V2 => WF V2 → JS B' V2) (by omega) hW hP hM (fun _ => hS.mono hB)
  · have p20 := hI.p20
    have lvl : ∀ {V1 : VH} {K : Int64 → VH → Prop}, MiQ V1 q t n R fa h px cs → ((∀ l, l < 3 → a2 ≠ nI l) → K (-9223372036854775808) V1) → (∀ l, l < 3 → a2 = nI l → vMV E (d - 1) M_X12_know [sl 6 0, wi (nI q)] V1 (fun V3 => vMI E (d - 1) M_X12_findPair [sl 6 0, wi (nI q), wi a1] V3 (fun r5 V5 => (¬ r5 = 0 → (a2 ≤ 0 → vwp E d M_X12_frontAt 66 [some (sl 6 0), some (wi (nI q)), some (wi a1), some (wi a2), some (wj 0), none, some (wi 0)] [] V5 (zj K)) ∧ (¬ (a2 ≤ 0) → (¬ a2 = 1 → K (vJ V5 6 0 70) V5) ∧ (a2 = 1 → K (vJ V5 6 0 69) V5))) ∧ (r5 = 0 → K (-9223372036854775808) V5)))) → vMJ E d M_X12_frontAt [sl 6 0, wi (nI q), wi a1, wi a2] V1 K := fun {V1 K} mi h1 h2 => by
      refine w_X12_frontAt_0 (by omega) (c_isProblem_y mi hq ⟨fun z => absurd z (by decide), fun _ => ⟨fun z => h1 (fun l hl e => ?_), fun z => ⟨fun y => ?_, fun y => h1 (fun l hl e => ?_)⟩⟩⟩)
      · rw [e] at z; exact absurd z (nI_pos (by omega))
      · obtain ⟨l, hl, e⟩ := nI_ofn z
        have : l < 3 := Nat.lt_of_not_le (fun w => absurd y (by rw [e]; exact nI_ge (a := 2) w hl))
        exact h2 l this e
      · rw [e] at y; exact y (nI_le (b := 2) (by omega) (by decide))
    refine w_X11_frontAt_0 (by omega) (c_scoredQ (by omega) hW hq hS hI (fun V1 hS1 hI1 s1 => ⟨fun z => absurd hI1.2.1.1.1 z, fun _ => ⟨hI1.2.1.1.2, fun z => ?_, fun z => c_lvlC (fun hn => ⟨fun _ => ?_, fun z => absurd rfl z⟩) (fun l hl el => ⟨fun z => absurd z (by decide), fun _ => c_walkFront (by omega) hI1 s1 (fun V4 m F f4 fr hm st => ?_)⟩)⟩⟩))
    · refine lvl hI1.mi (fun _ => ⟨rfl, fun _ => hS1.mono hB⟩) (fun l hl el => know_end (by omega) hq hS1 hI1 Fc.refl (fun V2 f2 w mi2 hI2 hS2 => c_findPair_n (by omega) z ⟨fun w => absurd rfl w, fun _ => ⟨rfl, fun _ => hS2.mono hB⟩⟩))
    · exact lvl hI1.mi (fun _ => ⟨rfl, fun _ => hS1.mono hB⟩) (fun l hl el => absurd el (hn l hl))
    · obtain ⟨k, hk32, ek⟩ := nI_ofn z
      have mi := hI1.mi.fc hI1.1 f4 (fun f j y => by have := y.1; omega)
      have T4 : Tb V4 (q + 1) (plR R) (stQ R nt fa) (scQ R nt fa) := s1.1.fc f4 (fun i => ⟨fun y => by have := y.2; omega, fun y => by have := y.2; omega⟩)
      have ref : ∀ r : Int64, (m ≤ k → r = -9223372036854775808) → (k < m → r = if l = 0 then nL (cnP (scQ R nt fa) (gdR R nt fa h px) (F k)) else scQ R nt fa (F k) l) → vMJ E d M_X12_frontAt [sl 6 0, wi (nI q), wi a1, wi a2] V4 (fun r' V2 => r = r' ∧ (WF V2 → JS B' V2)) := fun r c1 c2 => by
        refine lvl mi (fun w => absurd el (w l hl)) (fun l' hl' el' => know_go (by omega) hI1 f4 (fun f j y => by have := y.1; omega) (fun V2 f2 w mi2 e1 e2 => ?_))
        have fin : ∀ V3, Fc V2 V3 prS → JS B' V3 := fun V3 f3 => (fr_end hq hS1 hI1 f4 f2 w mi2 e1 e2 f3).mono hB
        have kn2 : KnM V2 q t n R nt fa h px cs := ⟨mi2, w⟩
        rw [ek]
        refine c_findPair (k := k) (by omega) hk32 hI1.1 kn2 fr (fun km V3 f3 e3 e4 => ⟨fun _ => ?_, fun w => absurd w (by decide)⟩) (fun km V3 f3 => ⟨fun w => absurd rfl w, fun _ => ⟨c1 km, fun _ => fin V3 f3⟩⟩)
        have c2 := c2 km
        rw [el]
        refine ⟨fun w => ?_, fun w => ⟨fun u => ?_, fun u => ?_⟩⟩
        · have l0 : l = 0 := by
            by_cases c : l = 0
            · exact c
            · exact absurd w (nI_ge (b := l) (a := 0) (by omega) (by omega))
          rw [if_pos l0] at c2
          exact frAt_go (p := F k) (by omega) (kn2.fc hI1.1 f3 (fun f j y => Or.inl y.2.1)) e3 e4 ⟨c2, fun _ => fin V3 f3⟩ (plR R) 0 (Nat.zero_add _)
        · have l2 : l = 2 := by
            have : l ≠ 0 := fun c => w (by rw [c]; decide)
            have : l ≠ 1 := fun c => u (by rw [c]; decide)
            omega
          rw [if_neg (by omega), l2] at c2
          rw [e4]
          exact ⟨c2, fun _ => fin V3 f3⟩
        · have l1 : l = 1 := (nI_eq (a := l) (b := 1) (by omega) (by decide)).mp u
          rw [if_neg (by omega), l1] at c2
          rw [e3]
          exact ⟨c2, fun _ => fin V3 f3⟩
      refine ⟨fun y => ?_, fun y => ref _ (fun _ => rfl) (fun w => absurd ?_ y)⟩
      · have km : k < m := by
          rw [ek] at y
          exact Nat.lt_of_not_le (fun w => absurd (nI_le w hk32) (Int32.not_le.mpr y))
        obtain ⟨s4, s5⟩ := st k hk32 ek km
        have hp : F k < plR R := gd_lt (fr.1 k km).1
        have cb : cnP (scQ R nt fa) (gdR R nt fa h px) (F k) ≤ plR R := by
          have a := List.length_filter_le (smp (scQ R nt fa) (F k)) (gdR R nt fa h px)
          have b : (gdR R nt fa h px).length ≤ plR R := Nat.le_trans (List.length_filter_le _ _) (by rw [List.length_range]; exact Nat.le_refl _)
          exact Nat.le_trans a b
        rw [s4, s5]
        refine ⟨fun w => ?_, fun w => ref _ (fun u => absurd km (by omega)) (fun _ => ?_)⟩
        · rw [el]
          refine c_scoreOf (by rw [f4.l]; exact hI1.2.1.1) T4 hp hl ?_
          have := ref (scQ R nt fa (F k) l) (fun u => absurd km (by omega)) (fun _ => by rw [if_neg (fun c => w (by rw [el, c]; decide))])
          rw [el] at this
          exact this
        · have l0 : l = 0 := (nI_eq (a := l) (b := 0) (by omega) (by decide)).mp (by rw [← el]; exact w)
          rw [if_pos l0, i2l_nI (by omega)]
      · rw [ek]
        exact Int32.not_le.mp (nI_ge w (by omega)))
theorem o_frontPlan (h0 : 190 < d) (hB : B ≤ B') : VO_frontPlan E d (JA x B) (JA x B') := fun V a0 a1 hJ => liftI hJ (fun hW hS => by
  rcases hS.inQ a0 with ⟨hP, hM⟩ | ⟨q, t, n, R, nt, fa, h, px, cs, hq, rfl, hI⟩
  · exact nul_frontPlan (J := fun V2 => WF V2 → JS B' V2) (by omega) hW hP hM (fun _ => hS.mono hB)
  · have p20 := hI.p20
    refine w_X11_frontPlan_0 (by omega) (c_scoredQ (by omega) hW hq hS hI (fun V1 hS1 hI1 s1 => ⟨fun z => absurd hI1.2.1.1.1 z, fun _ => ⟨hI1.2.1.1.2, fun z => ?_, fun z => c_walkFront (by omega) hI1 s1 (fun V4 m F f4 fr hm st => ?_)⟩⟩))
    · exact w_X12_frontPlan_0 (by omega) (c_isProblem_y hI1.mi hq ⟨fun _ => know_end (by omega) hq hS1 hI1 Fc.refl (fun V2 f2 w mi2 hI2 hS2 => c_findPair_n (by omega) z ⟨fun w => absurd rfl w, fun _ => ⟨rfl, fun _ => hS2.mono hB⟩⟩), fun w => absurd w (by decide)⟩)
    · obtain ⟨k, hk32, ek⟩ := nI_ofn z
      rw [ek]
      refine ⟨fun y => ?_, fun y => ?_⟩
      · have km : m ≤ k := Nat.le_of_not_lt (fun w => absurd y (nI_ge w (by omega)))
        have mi := hI1.mi.fc hI1.1 f4 (fun f j y => by have := y.1; omega)
        refine w_X12_frontPlan_0 (by omega) (c_isProblem_y mi hq ⟨fun _ => know_go (by omega) hI1 f4 (fun f j y => by have := y.1; omega) (fun V2 f2 w mi2 e1 e2 => ?_), fun w => absurd w (by decide)⟩)
        exact c_findPair (k := k) (by omega) hk32 hI1.1 ⟨mi2, w⟩ fr (fun km' => absurd km' (by omega)) (fun _ V3 f3 => ⟨fun w => absurd rfl w, fun _ => ⟨rfl, fun _ => (fr_end hq hS1 hI1 f4 f2 w mi2 e1 e2 f3).mono hB⟩⟩)
      · have km : k < m := Nat.lt_of_not_le (fun w => absurd (nI_le w hk32) y)
        obtain ⟨s4, s5⟩ := st k hk32 ek km
        have hp : F k < plR R := gd_lt (fr.1 k km).1
        rw [s4]
        refine w_X3_moveTo_0 (by rw [f4.l]; exact hI1.2.1.1) (fun V9 e9 => ⟨fun y => absurd y (by decide), fun _ => ?_⟩)
        have k9 : Fc V1 V9 (fun a f j => a = q + 1) := (f4.mono (fun a f j y => y.1)).trans (by rw [e9]; exact Fc_wrI rfl)
        have mi := hI1.mi.fc hI1.1 k9 (fun f j y => by have y : 6 = q + 1 := y; omega)
        refine w_X12_frontPlan_0 (by omega) (c_isProblem_y mi hq ⟨fun _ => know_go (by omega) hI1 k9 (fun f j y => by have y : 6 = q + 1 := y; omega) (fun V2 f2 w mi2 e1 e2 => ?_), fun w => absurd w (by decide)⟩)
        have kn2 : KnM V2 q t n R nt fa h px cs := ⟨mi2, w⟩
        refine c_findPair (k := k) (by omega) hk32 hI1.1 kn2 fr (fun _ V3 f3 e3 e4 => ⟨fun _ => ?_, fun w => absurd w (by decide)⟩) (fun km' => absurd km' (by omega))
        exact frPl_go (F := F) (by omega) (kn2.fc hI1.1 f3 (fun f j y => Or.inl y.2.1)) (by have := hI1.v12; omega) fr km e3 e4 (fun V5 f5 hh => ⟨rfl, fun _ => (fr_mv hq hS1 hI1 f4 e9 hp f2 w e1 e2 f3 f5 hh).mono hB⟩) (F k) 0 (Nat.zero_add _))
end
