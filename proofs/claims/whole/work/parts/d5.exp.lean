/-! expected -/
section
variable {E : EE} {d : Nat} {V V' V1 V2 : VH} {q B : Nat} {t : Nat → Int32} {n : Nat} {R : List SR} {nt fa : Nat → Int32} {h h' : Nat} {x b : Int32} {cs : Nat → Int32} {U : Nat} {od : Nat → Int32} {FT : Nat → Nat → Int32}
theorem JS.ns (hJ : JS B V) (hI : PbI V q t n R nt fa h x cs) (hq : q < 4) (k : Fc V V' (enS q)) (hs : ∀ j, j < 4 → vI V' 0 16 j = vI V 0 16 j) (hs2 : ∀ j, 76 ≤ j → j ≤ 79 → vI V' 6 0 j = vI V 6 0 j) (e1 : vI V' 6 0 62 = -1) (e2 : vI V' 6 0 63 = vI V 6 33 q ∨ vI V' 6 0 63 = vI V 6 0 63) (hb1 : vI V' 0 28 9 = vI V 0 28 9) (hb2 : vJ V' 0 28 10 = vJ V' 6 0 2) (hb3 : vJ V' 0 28 11 = vJ V' 6 0 3) (hh : vI V' (q + 1) 0 8 = nI h' ∧ h' < plR R) (hm : Hq V' q (tcR R 1) (szR R) h') : JS B V' := by
  have no : ∀ q', q' < 4 → ¬ vI V' 6 0 62 = nI q' := fun q' h1 z => by
    rw [e1] at z
    exact absurd (by rw [← z]; decide) (nI_pos (n := q') (by omega))
  have hI' := hI.en k (fun z _ => absurd z (no q hq)) hh hm
  refine hJ.en hq k ⟨?_, hb2, hb3⟩ ?_ (hJ.2.2.2.2.2.2.1.no hq e1 e2 (fun j => k.i (fun y => by unfold enS at y; omega))) (fun q' h1 _ => no q' h1) (Or.inr ⟨t, n, R, nt, fa, h', x, cs, hI'⟩)
  · rw [hb1, k.i (fun y => by unfold enS at y; omega)]; exact hJ.2.1.1
  · unfold SeJ
    rw [hs 0 (by omega), hs 1 (by omega), hs 2 (by omega), hs 3 (by omega), hs2 76 (by omega) (by omega), hs2 77 (by omega) (by omega), hs2 78 (by omega) (by omega), hs2 79 (by omega) (by omega)]
    exact hJ.2.2.2.1
/-- all odds -/
def aOd (ov : Nat → Nat) : Nat → Nat
  | 0 => 0
  | u + 1 => aOd ov u + ov u
theorem aOd_s {ov : Nat → Nat} {u : Nat} : aOd ov (u + 1) = aOd ov u + ov u := by rw [aOd]
theorem aOd_b {ov : Nat → Nat} {U : Nat} (hv : ∀ u, u < U → 1 ≤ ov u ∧ ov u ≤ 100) : ∀ u, u ≤ U → u ≤ aOd ov u ∧ aOd ov u ≤ 100 * u := by
  intro u
  induction u with
  | zero => intro _; rw [aOd]; exact ⟨Nat.le_refl _, Nat.le_refl _⟩
  | succ u ih =>
    intro hu
    have := ih (by omega)
    have := hv u (by omega)
    rw [aOd_s]; omega
def odN (od : Nat → Int32) (u : Nat) : Nat := (od u).toNatClampNeg
theorem FtI.odd (hF : FtI V q R U od FT) {u : Nat} (hu : u < U) : od u = nI (odN od u) ∧ 1 ≤ odN od u ∧ odN od u ≤ 100 := by
  obtain ⟨_, _, ⟨o, eo, o1, o2⟩, _⟩ := hF.2.2.2 u hu
  have : odN od u = o := by unfold odN; rw [eo, nI_clamp (by omega)]
  rw [this]; exact ⟨eo, o1, o2⟩
theorem c_allOdds {K : Int32 → VH → Prop} (hI : PbI V q t n R nt fa h x cs) (hF : FtI V q R U od FT) (f1 : Fc V V1 (csS q)) (hk : K (nI (aOd (odN od) U)) V1) : vMI E d M_X3_allOdds [sl (q + 1) 0] V1 K := by
  have u6 := hF.1
  have hg1 : PG (vL V1) (q + 1) := by rw [f1.l]; exact hI.2.1.1
  have e11 : vI V1 (q + 1) 0 11 = nI U := by rw [f1.i (fun y => by have := y.2; omega)]; exact hF.2.1
  have go : ∀ m u, u + m = U → vwp E d M_X3_allOdds 4 [some (sl (q + 1) 0), some (wi (nI (aOd (odN od) u))), some (wi (nI u))] [] V1 (zi K) := by
    intro m
    induction m with
    | zero =>
      intro u e
      have : u = U := by omega
      subst this
      exact w_X3_allOdds_4 hg1 ⟨fun _ => hk, fun z => absurd (by rw [e11]; exact nI_le (Nat.le_refl _) (by omega)) z⟩
    | succ m ih =>
      intro u e
      have hu : u < U := by omega
      have i := ih (u + 1) (by omega)
      rw [aOd_s] at i
      have e29 : vI V1 (q + 1) 29 u = nI (odN od u) := by rw [f1.i (fun y => by have := y.2; omega), (hF.2.2.2 u hu).1]; exact (hF.odd hu).1
      refine w_X3_allOdds_4 hg1 ⟨fun z => absurd z (by rw [e11]; exact nI_ge hu (by omega)), fun _ => ⟨vp_in_nI (by omega) (by decide), ?_⟩⟩
      rw [nI_clamp (show u < 2 ^ 31 by omega), e29, nI_add, nI_1]; exact i
  exact w_X3_allOdds_0 hg1 (go U 0 (Nat.zero_add _))
theorem wqS_wa {p a f j : Nat} (y : wqS p a f j) : waS a f j := by
  rcases y with y | ⟨y1, y2⟩
  · exact Or.inl y
  · exact Or.inr ⟨y1, by omega⟩
theorem exp_go {l : Nat} {K : Int64 → VH → Prop} (h0 : 170 < d) (hs : PrS t n R nt) (hm : MiQ V q t n R fa h x cs) (hl : l < 3) (u6 : U ≤ 6) (e29 : vI V 6 29 q = nI U) (hF : ∀ u, u < U → vI V 6 30 (6 * q + u) = od u ∧ Bds (tcR R 0) (FT u) ∧ (∀ f, f < tcR R 0 → FT u f = tfv V q (some u) f) ∧ od u = nI (odN od u) ∧ odN od u ≤ 100)
    (hk : ∀ V', Fc V V' (fun a f j => waS a f j ∧ ¬ (f = 0 ∧ (j = 62 ∨ j = 63))) → MiQ V' q t n R fa h x cs → vMV E (d - 1) M_X12_show [sl 6 0, wj (smQ R nt od FT U h l), wj (nL (aOd (odN od) U))] V' (fun V2 => K (smQ R nt od FT U h l) V2)) :
    ∀ m u V1, u + m = U → Fc V V1 (fun a f j => waS a f j ∧ ¬ (f = 0 ∧ (j = 62 ∨ j = 63))) → vwp E d M_X12_expected 48 [some (sl 6 0), some (wi (nI q)), some (wi (nI l)), some (wi (nI h)), some (wj (smQ R nt od FT u h l)), none, some (wj (nL (aOd (odN od) u))), none, some (wi (nI u))] [] V1 (zj K) := by
  have sq0 := hm.1.2.2.2.2.1
  have q5 := sq0.1
  have p20 : plR R ≤ 20000 := sq0.2.2.2.2.1
  have hh : h < plR R := hm.1.2.2.2.2.2.2.2.2.1.1
  have mi : ∀ {V1}, Fc V V1 (fun a f j => waS a f j ∧ ¬ (f = 0 ∧ (j = 62 ∨ j = 63))) → MiQ V1 q t n R fa h x cs := fun f1 => hm.fc hs f1 (fun f j y => by have := (waS_6 y.1).2; omega)
  have f29 : ∀ {V1}, Fc V V1 (fun a f j => waS a f j ∧ ¬ (f = 0 ∧ (j = 62 ∨ j = 63))) → vI V1 6 29 q = nI U := fun f1 => by rw [f1.i (fun y => by have := (waS_6 y.1).2; omega)]; exact e29
  intro m
  induction m with
  | zero =>
    intro u V1 e f1
    have : u = U := by omega
    subst this
    refine w_X12_expected_48 (by omega) ?_
    rw [nI_clamp (show q < 2 ^ 31 by omega), f29 f1]
    exact ⟨vp_in_nI q5 (by decide), fun _ => hk V1 f1 (mi f1), fun z => absurd (nI_le (Nat.le_refl _) (by omega)) z⟩
  | succ m ih =>
    intro u V1 e f1
    have hu : u < U := by omega
    obtain ⟨o1, bF, eF, eo, o100⟩ := hF u hu
    have m1 := mi f1
    have tf : ∀ f, tfv V1 q (some u) f = tfv V q (some u) f := fun f => by
      show (if vI V1 6 31 (16 * (6 * q + u) + f) = 0 then vI V1 6 15 (16 * q + f) else vI V1 6 32 (16 * (6 * q + u) + f)) = (if vI V 6 31 (16 * (6 * q + u) + f) = 0 then vI V 6 15 (16 * q + f) else vI V 6 32 (16 * (6 * q + u) + f))
      rw [f1.i (fun y => by have := (waS_6 y.1).2; omega), f1.i (fun y => by have := (waS_6 y.1).2; omega), f1.i (fun y => by have := (waS_6 y.1).2; omega)]
    have i := ih (u + 1)
    refine w_X12_expected_48 (by omega) ?_
    rw [nI_clamp (show q < 2 ^ 31 by omega), f29 f1]
    refine ⟨vp_in_nI q5 (by decide), fun z => absurd z (nI_ge hu (by omega)), fun _ => c_takeFacts (u := some u) q5 (hs.2.2.2.1.1 0 (by decide)) (m1.1.2.2.1.1 0 (by decide)).1 (fun j ej => by rw [← Option.some.inj ej]; omega) (fun V2 f2 r2 => ?_)⟩
    have f02 : Fc V V2 (fun a f j => waS a f j ∧ ¬ (f = 0 ∧ (j = 62 ∨ j = 63))) := f1.trans (f2.mono (fun a f j y => ⟨Or.inr ⟨y.1, by omega⟩, fun z => by omega⟩))
    have m2 := mi f02
    have r3 : ∀ f, f < tcR R 0 → vI V2 6 36 f = FT u f := fun f hf => by rw [r2 f hf, tf]; exact (eF f hf).symm
    refine c_weighPlan (by omega) m2.1.2.2.2.2.1 (m2.1.rq hs (by omega)) (fun r _ => PrS.dx r) (fun a _ => PrS.dxa a) (fun f hf => by rw [r3 f hf]; exact bF f hf) (fun v hv k hk => hs.vls hv hk) hh (fun V3 f3 _ _ j3 => ?_)
    have f03 : Fc V V3 (fun a f j => waS a f j ∧ ¬ (f = 0 ∧ (j = 62 ∨ j = 63))) := f02.trans (f3.mono (fun a f j y => ⟨wqS_wa y, fun z => by rcases y with ⟨_, y⟩ | ⟨_, y⟩ <;> omega⟩))
    have e6i : (6 : Int32) * nI q + nI u = nI (6 * q + u) := by rw [show (6 : Int32) = nI 6 from rfl, nI_mul, nI_add]
    have e30 : vI V3 6 30 (6 * q + u) = od u := by rw [f03.i (fun y => by have := (waS_6 y.1).2; omega)]; exact o1
    have e45 : vJ V3 6 45 (20000 * l + h) = scQ R nt (FT u) h l := by
      rw [j3 l hl]
      show scP (szR R) (tcR R 1) (vlR R) (DR R nt) (DRa R nt) (lvn R) (aln R) (wtR R) (tcR R 2) (tcR R 3) (vI V2 6 36) h l = _
      rw [scP_ext (fa' := FT u) r3]
    rw [e6i, nI_clamp (show 6 * q + u < 2 ^ 31 by omega), e30, i20k, nI_clamp (show 20000 * l + h < 2 ^ 31 by omega), e45, nI_1]
    refine ⟨vp_in_nI (by omega) (by decide), vp_in_nI (by omega) (by decide), vp_in_nI (by omega) (by decide), ?_⟩
    have i := i V3 (by omega) f03
    rw [aOd_s] at i
    have e1 : smQ R nt od FT (u + 1) h l = smQ R nt od FT u h l + Int32.toInt64 (od u) * scQ R nt (FT u) h l := sOd_s
    rw [e1] at i
    have e2 : nL (aOd (odN od) u) + Int32.toInt64 (od u) = nL (aOd (odN od) u + odN od u) := by rw [eo, i2l_nI (by omega), nL_add]
    rw [e2]
    exact i
end
section
variable {E : EE} {d x B B' : Nat}
theorem o_expected (h0 : 190 < d) (hB : B ≤ B') : VO_expected E d (JA x B) (JA x B') := fun V a0 a1 hJ => liftJ hJ (fun hW hS => by
  rcases hS.inQ a0 with ⟨hP, hM⟩ | ⟨q, t, n, R, nt, fa, h, px, cs, hq, rfl, hI⟩
  · exact nul_expected (J := fun V2 => WF V2 → JS B' V2) (by omega) hW hP hM (fun _ => hS.mono hB)
  · obtain ⟨U, od, FT, hF⟩ := hI.fti
    obtain ⟨u6, e11, e29, hu⟩ := id hF
    have p20 := hI.p20
    have hnd := hI.hnd
    refine w_X11_expected_0 (by omega) (c_known_y hI hq ⟨fun z => absurd hI.2.1.1.1 z, fun _ => ⟨hI.2.1.1.2, ?_⟩⟩)
    rw [e11]
    refine ⟨fun z => ?_, fun z => c_lvlC (fun hn => ⟨fun w => absurd rfl w, fun _ => ?_⟩) (fun l hl el => ⟨fun _ => ?_, fun w => absurd w (by decide)⟩)⟩
    · refine w_X12_expected_0 (by omega) (c_isProblem_y hI.mi hq ⟨fun w => absurd w (by decide), fun _ => c_lvlM (fun _ => ⟨fun _ => ⟨rfl, fun _ => hS.mono hB⟩, fun w => absurd rfl w⟩) (fun l hl el => ⟨fun w => absurd w (by decide), fun _ => ?_⟩)⟩)
      rw [nI_clamp (show q < 2 ^ 31 by omega), e29]
      exact ⟨vp_in_nI (by omega) (by decide), fun w => absurd z w, fun _ => ⟨rfl, fun _ => hS.mono hB⟩⟩
    · exact w_X12_expected_0 (by omega) (c_isProblem_y hI.mi hq ⟨fun w => absurd w (by decide), fun _ => c_lvlM (fun _ => ⟨fun _ => ⟨rfl, fun _ => hS.mono hB⟩, fun w => absurd rfl w⟩) (fun l hl el => absurd el (hn l hl))⟩)
    · subst el
      have U0 : 0 < U := by
        by_cases c : U = 0
        · rw [c] at z; exact absurd rfl z
        · omega
      have ob := aOd_b (ov := odN od) (U := U) (fun u hu' => (hF.odd hu').2) U (Nat.le_refl _)
      rw [hnd.1]
      refine c_sumF (by omega) hW hI hF Fc.refl (by omega) (fun V4 f4 _ e28 => ⟨vp_in_nI hl (by decide), c_allOdds hI hF f4 ?_⟩)
      rw [nI_clamp (show l < 2 ^ 31 by omega), e28 l hl, i2l_nI (by omega)]
      have ne : nL (aOd (odN od) U) ≠ 0 := fun w => by
        have := nL_inj (a := aOd (odN od) U) (b := 0) (by omega) (by decide) w
        omega
      refine c_show (by omega) ne ?_
      generalize eg : gcj (smQ R nt od FT U h l) (nL (aOd (odN od) U)) = gg
      generalize e9 : wrJ (wrJ V4 0 28 10 (smQ R nt od FT U h l / gg)) 0 28 11 (nL (aOd (odN od) U) / gg) = V9
      have k9 : Fc V V9 (fun a f j => csS q a f j ∨ a = 0 ∧ f = 28 ∧ (j = 10 ∨ j = 11)) := by
        rw [← e9]
        exact (f4.mono (fun a f j y => Or.inl y)).trans ((Fc_wrJ (Or.inr ⟨rfl, rfl, Or.inl rfl⟩)).trans (Fc_wrJ (Or.inr ⟨rfl, rfl, Or.inr rfl⟩)))
      have v28 : vJ V9 (q + 1) 28 l = smQ R nt od FT U h l := by rw [← e9, wrJ_ne (fun z => by omega), wrJ_ne (fun z => by omega)]; exact e28 l hl
      rw [v28]
      refine ⟨vp_in_nI hl (by decide), ?_⟩
      have n6 : ∀ f j, ¬ (csS q 6 f j ∨ 6 = 0 ∧ f = 28 ∧ (j = 10 ∨ j = 11)) := fun f j y => by rcases y with y | y; exact csS_6 hI f j y; exact absurd y.1 (by decide)
      have mi := hI.mi.fc hI.1 k9 (fun f j y => absurd y (n6 f j))
      refine w_X12_expected_0 (by omega) (c_isProblem_y mi hq ⟨fun w => absurd w (by decide), fun _ => c_lvlM (fun w => absurd rfl (w l hl)) (fun _ _ _ => ⟨fun w => absurd w (by decide), fun _ => ?_⟩)⟩)
      rw [nI_clamp (show q < 2 ^ 31 by omega), k9.i (n6 _ _), e29]
      refine ⟨vp_in_nI (by omega) (by decide), fun _ => c_handOf (by omega) mi.1.2.2.2.2.1 mi.1.2.2.2.2.2.2.2.2.1 (fun V8 e8 => ?_), fun w => absurd w z⟩
      have k8 : Fc V9 V8 (fun a f j => a = 6 ∧ f = 0 ∧ j = 62) := by rw [e8]; exact Fc_wrI ⟨rfl, rfl, rfl⟩
      have m8 := mi.fc hI.1 k8 (fun f j y => Or.inl y.2.1)
      have i8 : ∀ f j, ¬ (f = 0 ∧ j = 62) → vI V8 6 f j = vI V 6 f j := fun f j y => by rw [k8.i (fun w => y w.2), k9.i (n6 _ _)]
      have tf8 : ∀ u f, tfv V8 q (some u) f = tfv V q (some u) f := fun u f => by
        show (if vI V8 6 31 (16 * (6 * q + u) + f) = 0 then vI V8 6 15 (16 * q + f) else vI V8 6 32 (16 * (6 * q + u) + f)) = (if vI V 6 31 (16 * (6 * q + u) + f) = 0 then vI V 6 15 (16 * q + f) else vI V 6 32 (16 * (6 * q + u) + f))
        rw [i8 _ _ (by omega), i8 _ _ (by omega), i8 _ _ (by omega)]
      refine exp_go (U := U) (od := od) (FT := FT) (h := h) (by omega) hI.1 m8 hl u6 (by rw [i8 _ _ (by omega)]; exact e29) (fun u hu' => ⟨by rw [i8 _ _ (by omega)]; exact (hu u hu').2.1, (hu u hu').2.2.2.1, fun f hf => by rw [tf8]; exact ((hu u hu').2.2.2.2 f hf).1, (hF.odd hu').1, (hF.odd hu').2.2⟩) (fun V5 f5 m5 => c_showM ne ?_) U 0 V8 (Nat.zero_add _) Fc.refl
      rw [eg]
      refine ⟨rfl, fun _ => ?_⟩
      generalize e7 : wrJ (wrJ V5 6 0 2 (smQ R nt od FT U h l / gg)) 6 0 3 (nL (aOd (odN od) U) / gg) = V7
      have k7 : Fc V5 V7 (fun a f j => a = 6 ∧ f = 0 ∧ (j = 2 ∨ j = 3)) := by rw [← e7]; exact (Fc_wrJ ⟨rfl, rfl, Or.inl rfl⟩).trans (Fc_wrJ ⟨rfl, rfl, Or.inr rfl⟩)
      have kk : Fc V V7 (enS q) := (((k9.mono (fun a f j y => by
        rcases y with y | ⟨y1, y2, y3⟩
        · exact (csS_ek y).1
        · exact Or.inr (Or.inr ⟨y1, by omega⟩))).trans (k8.mono (fun a f j y => Or.inr (Or.inl ⟨y.1, by omega⟩)))).trans (f5.mono (fun a f j y => (waS_ek y.1).1))).trans (k7.mono (fun a f j y => Or.inr (Or.inl ⟨y.1, by omega⟩)))
      have i7 : ∀ a f j, vI V7 a f j = vI V5 a f j := fun a f j => by rw [← e7]; rfl
      have c0 : ∀ f j, vI V7 0 f j = vI V 0 f j := fun f j => by
        rw [i7, f5.i (fun y => by have := (waS_6 y.1).1; omega), k8.i (fun y => by have := y.1; omega)]
        have : vI V9 0 f j = vI V4 0 f j := by rw [← e9]; rfl
        rw [this, f4.i (fun y => by have := y.1; omega)]
      refine (hS.ns hI hq kk (fun j _ => c0 16 j) (fun j h1 h2 => ?_) ?_ (Or.inr ?_) (c0 28 9) ?_ ?_ ⟨?_, hnd.2⟩ ⟨m5.1.2.2.2.2.2.2.2.2.1.1, fun v hv => by rw [i7]; exact m5.1.2.2.2.2.2.2.2.2.1.2 v hv⟩).mono hB
      · rw [i7, f5.i (fun y => by have := (waS_6 y.1).2; omega), i8 _ _ (by omega)]
      · rw [i7, f5.i (fun y => by have := y.2; omega), e8, wrI_at]
      · rw [i7, f5.i (fun y => by have := y.2; omega), i8 _ _ (by omega)]
      · rw [← e7, wrJ_ne (fun z => by omega), wrJ_ne (fun z => by omega), f5.j (fun y => by have := (waS_6 y.1).1; omega), k8.j (fun y => by have := y.1; omega), ← e9, wrJ_ne (fun z => by omega), wrJ_at, wrJ_ne (fun z => by omega), wrJ_at]
      · rw [← e7, wrJ_ne (fun z => by omega), wrJ_ne (fun z => by omega), f5.j (fun y => by have := (waS_6 y.1).1; omega), k8.j (fun y => by have := y.1; omega), ← e9, wrJ_at, wrJ_at]
      · rw [i7, f5.i (fun y => by have := (waS_6 y.1).1; omega), k8.i (fun y => by have := y.1; omega)]
        have : vI V9 (q + 1) 0 8 = vI V4 (q + 1) 0 8 := by rw [← e9]; rfl
        rw [this, f4.i (fun y => by have := y.2; omega)]
        exact hnd.1)
end
