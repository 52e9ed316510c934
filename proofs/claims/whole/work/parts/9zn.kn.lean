/-! what both know of a problem's plans -/
section
variable {t : Nat → Int32} {n : Nat} {R : List SR} {nt fa se : Nat → Int32}
theorem DR_tv (E : EE) (hs : PrS t n R nt) (b1 : Bds (tcR R 0) fa) (b2 : Bds (tcR R 1) se) {r : Nat} (hr : r < tcR R 2) : Tv (DR R nt r fa se) := by
  obtain ⟨_, _, _, e1, e2, e3, e4⟩ := hs.rule hr
  obtain ⟨hT, hL⟩ := hs.L
  have g := (EG_R hs).of b1 b2
  have ff : FF = 160008 := rfl
  obtain ⟨v, x, b, _⟩ := ((PV_all (E := E) (p := 0) hT hL g (spH_all (nt := nt) hT g)) FF 0).1 0 (by decide) 158 _ _ _ _ _ [] (by decide) (by decide) (by omega) e2 e4 (by have : rnk 0 = 7 := rfl; omega) e1 (hs.2.2.2.2.1 2 r (Or.inl rfl) hr).1 (by decide)
  have : DR R nt r fa se = v := by unfold DR dnt; rw [x]; rfl
  rw [this]; exact b
theorem tst_wst {D : Nat → Den} : ∀ (m r : Nat), m ≤ 32 → r < 32 → tst (wst D fa se m) r = decide (r < m ∧ ¬ D r fa se ≤ 0) := by
  intro m
  induction m with
  | zero => intro r _ _; rw [wst, tst_z]; exact (decide_eq_false (fun z => absurd z.1 (Nat.not_lt_zero r))).symm
  | succ m ih =>
    intro r hm hr
    rw [wst]
    by_cases c : D m fa se ≤ 0
    · rw [if_pos c, ih r (by omega) hr]
      by_cases z : r = m
      · subst z
        rw [decide_eq_false (fun y => absurd y.1 (Nat.lt_irrefl _)), decide_eq_false (fun y => y.2 c)]
      · exact decide_eq_decide.mpr ⟨fun y => ⟨by omega, y.2⟩, fun y => ⟨by omega, y.2⟩⟩
    · rw [if_neg c, tst_or, ih r (by omega) hr, tst_one (by omega) hr]
      by_cases z : r = m
      · subst z
        rw [decide_eq_true (show r = r from rfl), Bool.or_true, decide_eq_true ⟨Nat.lt_succ_self r, c⟩]
      · rw [decide_eq_false z, Bool.or_false]
        exact decide_eq_decide.mpr ⟨fun y => ⟨by omega, y.2⟩, fun y => ⟨by omega, y.2⟩⟩
/-- the score of level 0 -/
theorem wsR_0s (E : EE) (hs : PrS t n R nt) (b1 : Bds (tcR R 0) fa) (b2 : Bds (tcR R 1) se) : ∀ m, m ≤ tcR R 2 → 0 ≤ (wsR (lvn R) (wtR R) (DR R nt) fa se m 0).toInt ∧ (wsR (lvn R) (wtR R) (DR R nt) fa se m 0).toInt ≤ m * 2000001000 ∧ ((wsR (lvn R) (wtR R) (DR R nt) fa se m 0).toInt = 0 ↔ ∀ r, r < m → lvn R r = 0 → DR R nt r fa se ≤ 0) := by
  intro m
  induction m with
  | zero => intro _; rw [wsR_0]; exact ⟨by decide, by decide, fun _ r hr => absurd hr (Nat.not_lt_zero r), fun _ => by decide⟩
  | succ m ih =>
    intro hm
    obtain ⟨i1, i2, i3⟩ := ih (by omega)
    have r24 : tcR R 2 ≤ 24 := hs.2.2.2.1.1 2 (by decide)
    obtain ⟨l3, _, ⟨w, ew, w1, w2⟩, _⟩ := hs.rule (show m < tcR R 2 by omega)
    obtain ⟨t1, t2⟩ := DR_tv E hs b1 b2 (show m < tcR R 2 by omega)
    have z0 : DR R nt m fa se ≤ 0 ↔ (DR R nt m fa se).toInt = 0 := by rw [Int32.le_iff_toInt_le, show (0 : Int32).toInt = 0 from by decide]; omega
    by_cases c : lvn R m = 0
    · have e : wsR (lvn R) (wtR R) (DR R nt) fa se (m + 1) 0 = wsR (lvn R) (wtR R) (DR R nt) fa se m 0 + Int32.toInt64 (wtR R m) * Int32.toInt64 (DR R nt m fa se) := by
        have := wsR_at (lv := lvn R) (wt := wtR R) (D := DR R nt) (fa := fa) (se := se) (r := m)
        rw [c] at this; exact this
      have ewi : (wtR R m).toInt = (w : Int) := by rw [ew]; exact Int32.toInt_ofNat_of_lt (by omega)
      have pb : 0 ≤ (w : Int) * (DR R nt m fa se).toInt ∧ (w : Int) * (DR R nt m fa se).toInt ≤ 2000001000 := ⟨Int.mul_nonneg (by omega) t1, by
        have := Int.mul_le_mul (show (w : Int) ≤ 1000 by omega) t2 t1 (by decide)
        omega⟩
      have em : (Int32.toInt64 (wtR R m) * Int32.toInt64 (DR R nt m fa se)).toInt = (w : Int) * (DR R nt m fa se).toInt := by
        rw [Int64.toInt_mul, Int32.toInt_toInt64, Int32.toInt_toInt64, ewi]
        exact Int.bmod_eq_of_le (by omega) (by omega)
      have es : (wsR (lvn R) (wtR R) (DR R nt) fa se (m + 1) 0).toInt = (wsR (lvn R) (wtR R) (DR R nt) fa se m 0).toInt + (w : Int) * (DR R nt m fa se).toInt := by
        rw [e, Int64.toInt_add, em]
        exact Int.bmod_eq_of_le (by omega) (by omega)
      have pz : (w : Int) * (DR R nt m fa se).toInt = 0 ↔ (DR R nt m fa se).toInt = 0 := ⟨fun y => (Int.mul_eq_zero.mp y).resolve_left (by omega), fun y => by rw [y, Int.mul_zero]⟩
      refine ⟨by omega, by omega, ⟨fun y r hr hl => ?_, fun y => ?_⟩⟩
      · by_cases u : r = m
        · subst u; exact z0.mpr (pz.mp (by omega))
        · exact i3.mp (by omega) r (by omega) hl
      · have a := i3.mpr (fun r hr hl => y r (by omega) hl)
        have b := pz.mpr (z0.mp (y m (by omega) c))
        omega
    · have e : wsR (lvn R) (wtR R) (DR R nt) fa se (m + 1) 0 = wsR (lvn R) (wtR R) (DR R nt) fa se m 0 := wsR_ne (fun z => c z.symm)
      rw [e]
      refine ⟨i1, by omega, i3.trans ⟨fun y r hr hl => ?_, fun y r hr hl => y r (by omega) hl⟩⟩
      by_cases u : r = m
      · subst u; exact absurd hl c
      · exact y r (by omega) hl
theorem wsA_0s (hs : PrS t n R nt) {s0 : Nat → Int64} : ∀ m, m ≤ tcR R 3 → wsA (aln R) (DRa R nt) fa se s0 m 0 = s0 0 := by
  intro m
  induction m with
  | zero => intro _; rw [wsA_0]
  | succ m ih =>
    intro hm
    obtain ⟨_, l1, _⟩ := hs.aim (show m < tcR R 3 by omega)
    rw [wsA_ne (by omega), ih (by omega)]
theorem sn_bd (hs : PrS t n R nt) (p : Nat) : Bds (tcR R 1) (sn (szR R) (tcR R 1) (vlR R) p) := fun v hv => by
  have pos : ∀ v, v < tcR R 1 → 0 < szR R v := fun v hv => (hs.2.2.2.1.sz hv).1
  exact hs.vls hv (Dg_lt pos hv)
/-- feasible, in both -/
theorem fea_sc (E : EE) (hs : PrS t n R nt) (b1 : Bds (tcR R 0) fa) {hd : Int32} (hh : HsC hd R) (p : Nat) : (stP (szR R) (tcR R 1) (vlR R) (DR R nt) (tcR R 2) fa p &&& hd = 0) ↔ scP (szR R) (tcR R 1) (vlR R) (DR R nt) (DRa R nt) (lvn R) (aln R) (wtR R) (tcR R 2) (tcR R 3) fa p 0 = 0 := by
  have r24 : tcR R 2 ≤ 24 := hs.2.2.2.1.1 2 (by decide)
  have b2 := sn_bd hs p
  unfold stP scP
  rw [wsA_0s hs _ (Nat.le_refl _), and_eq0]
  obtain ⟨_, _, i3⟩ := wsR_0s E hs b1 b2 _ (Nat.le_refl _)
  have e0 : (wsR (lvn R) (wtR R) (DR R nt) fa (sn (szR R) (tcR R 1) (vlR R) p) (tcR R 2) 0 = 0) ↔ (wsR (lvn R) (wtR R) (DR R nt) fa (sn (szR R) (tcR R 1) (vlR R) p) (tcR R 2) 0).toInt = 0 := by
    constructor
    · intro z; rw [z]; decide
    · intro z; exact Int64.toInt_inj.mp (z.trans (by decide))
  refine Iff.trans ⟨fun y r hr hl => ?_, fun y v hv hw => ?_⟩ (e0.trans i3).symm
  · by_cases c : DR R nt r fa (sn (szR R) (tcR R 1) (vlR R) p) ≤ 0
    · exact c
    · have := y r (by omega) (by rw [tst_wst _ _ (by omega) (by omega)]; exact decide_eq_true ⟨hr, c⟩)
      have h2 := (hh.1 r (by omega)).mpr ⟨hr, by obtain ⟨_, el, _⟩ := hs.rule hr; rw [el, hl]; rfl⟩
      rw [h2] at this; exact absurd this (by decide)
  · rw [tst_wst _ _ (by omega) hv] at hw
    obtain ⟨w1, w2⟩ := of_decide_eq_true hw
    cases u : tst hd v with
    | false => rfl
    | true =>
      obtain ⟨_, u2⟩ := (hh.1 v hv).mp u
      obtain ⟨l3, el, _⟩ := hs.rule w1
      exact absurd (y v w1 (nI_0' (by omega) (el.symm.trans u2))) w2
theorem scP_ext {fa' : Nat → Int32} (h : ∀ f, f < tcR R 0 → fa f = fa' f) (p : Nat) : scP (szR R) (tcR R 1) (vlR R) (DR R nt) (DRa R nt) (lvn R) (aln R) (wtR R) (tcR R 2) (tcR R 3) fa p = scP (szR R) (tcR R 1) (vlR R) (DR R nt) (DRa R nt) (lvn R) (aln R) (wtR R) (tcR R 2) (tcR R 3) fa' p := by
  unfold scP
  rw [wsR_ext (fa' := fa') (se' := sn (szR R) (tcR R 1) (vlR R) p) _ (fun r _ => PrS.dx r _ _ _ _ h (fun _ _ => rfl)), wsA_ext (fa' := fa') (se' := sn (szR R) (tcR R 1) (vlR R) p) _ (fun r _ => PrS.dxa r _ _ _ _ h (fun _ _ => rfl))]
theorem stP_ext {fa' : Nat → Int32} (h : ∀ f, f < tcR R 0 → fa f = fa' f) (p : Nat) : stP (szR R) (tcR R 1) (vlR R) (DR R nt) (tcR R 2) fa p = stP (szR R) (tcR R 1) (vlR R) (DR R nt) (tcR R 2) fa' p := by
  unfold stP
  exact wst_ext _ (fun r _ => PrS.dx r _ _ _ _ h (fun _ _ => rfl))
theorem WqR.fcts {V : VH} {fa' : Nat → Int32} (h : WqR V R nt fa) (e : ∀ f, f < tcR R 0 → fa f = fa' f) : WqR V R nt fa' := fun p hp => by
  obtain ⟨a, b, c⟩ := h p hp
  refine ⟨fun r hr => (a r hr).trans (PrS.dx r _ _ _ _ e (fun _ _ => rfl)), fun r hr => (b r hr).trans (PrS.dxa r _ _ _ _ e (fun _ _ => rfl)), fun l hl => (c l hl).trans (by rw [scP_ext e])⟩
end
/-- cells that looking at problem q's plans changes -/
def qrS (q a f j : Nat) : Prop := a = q + 1 ∧ (f = 9 ∧ j = 13 ∨ f = 17 ∨ f = 18 ∨ f = 27 ∨ f = 28 ∨ f = 30 ∨ f = 31 ∨ f = 19 ∧ 2 < j ∨ f = 20) ∨ a = 6 ∧ (f = 0 ∧ 37 ≤ j ∧ (j < 76 ∨ 79 < j ∧ j < 89 ∨ 92 < j) ∨ 34 ≤ f ∧ f ≠ 59 ∧ f ≠ 60)
section
variable {E : EE} {d : Nat} {V V' : VH} {q B : Nat} {t : Nat → Int32} {n : Nat} {R : List SR} {nt fa : Nat → Int32} {h : Nat} {x : Int32} {cs : Nat → Int32}
theorem waS_qr {a f j : Nat} (y : waS a f j) : qrS q a f j := by
  rcases y with ⟨y1, y2⟩ | ⟨y1, y2⟩
  · exact Or.inr ⟨y1, by omega⟩
  · exact Or.inr ⟨y1, by omega⟩
theorem k_know {K : VH → Prop} (h0 : 170 < d) (hs : PrS t n R nt) (hm : MiQ V q t n R fa h x cs) (bd : Bds (tcR R 0) fa) (ch : CchM V q R nt fa) (hk : ∀ V', Fc V V' waS → WqR V' R nt fa → vI V' 6 0 62 = nI q → vI V' 6 0 63 = vI V 6 33 q → K V') : vMV E d M_X12_know [sl 6 0, wi (nI q)] V K := by
  have e15 : ∀ f, f < tcR R 0 → fa f = tfv V q none f := fun f hf => (hm.1.2.2.2.2.2.2.2.1 f hf).symm
  refine c_know (by omega) hm.1.2.2.2.2.1 (hm.1.rq hs (by omega)) (fun r _ => PrS.dx r) (fun a _ => PrS.dxa a) (hs.2.2.2.1.1 0 (by decide)) (hm.1.2.2.1.1 0 (by decide)).1 (fun f hf => by rw [← e15 f hf]; exact bd f hf) (fun v hv k hk => hs.vls hv hk) (fun z1 z2 => WqR.fcts (ch z1 z2) e15) (fun V' f w a b => hk V' f (WqR.fcts (R := R) (nt := nt) w (fun f hf => (e15 f hf).symm)) a b)
/-- a problem that was looked at -/
theorem PbI.kn (hI : PbI V q t n R nt fa h x cs) (k : Fc V V' (qrS q)) (w : WqR V' R nt fa) : PbI V' q t n R nt fa h x cs := by
  have hq6 : q + 1 ≠ 6 := hI.2.1.1.2.2
  have c : ∀ f j, ¬ (f = 9 ∧ j = 13 ∨ f = 17 ∨ f = 18 ∨ f = 27 ∨ f = 28 ∨ f = 30 ∨ f = 31 ∨ f = 19 ∧ 2 < j ∨ f = 20) → vI V' (q + 1) f j = vI V (q + 1) f j := fun f j z => k.i (fun y => by rcases y with y | y; exact z y.2; exact hq6 y.1)
  have cj : ∀ f j, f = 3 ∨ f = 21 → vJ V' (q + 1) f j = vJ V (q + 1) f j := fun f j z => k.j (fun y => by rcases y with y | y; have := y.2; omega; exact hq6 y.1)
  have m : ∀ f j, 1 ≤ f → f < 34 → vI V' 6 f j = vI V 6 f j := fun f j z1 z2 => k.i (fun y => by rcases y with y | y; exact hq6 y.1.symm; have := y.2; omega)
  have tb : TabC V' (q + 1) R nt fa := by
    rcases hI.2.2.2.2.2.1 with z | ⟨z1, z2⟩
    · exact Or.inl (by rw [c 19 0 (by omega)]; exact z)
    · exact Or.inr ⟨z1.ex (fun f _ => by rw [k.n]) (fun j => c 22 j (by omega)) (fun j => cj 21 j (by omega)), by rw [c 19 1 (by omega)]; exact z2⟩
  exact ⟨hI.1, hI.2.1.fr (by rw [k.l]) (fun f _ => by rw [k.n]) (fun f j z => c f j (by unfold kpC at z; omega)) (fun j => cj 3 j (by omega)), hI.2.2.1.fr hI.1 (fun f j z l => m f j (by have := z.1; omega) (by omega)), ⟨by rw [c 0 0 (by omega)]; exact hI.2.2.2.1.1, by rw [m 2 q (by omega) (by omega)]; exact hI.2.2.2.1.2⟩, hI.2.2.2.2.1.ex hI.f16 (fun f j z => c f j (by omega)) (fun f j _ _ _ => m f j (by omega) (by omega)), tb, fun _ _ => w, hI.2.2.2.2.2.2.2⟩
theorem JS.kn (hJ : JS B V) (hq : q < 4) (k : Fc V V' (qrS q)) (e1 : vI V' 6 0 62 = nI q) (e2 : vI V' 6 0 63 = vI V 6 33 q) (hp : PbJ V' q) : JS B V' := by
  refine hJ.fc q k (fun a f j y z => ?_) (fun q' a f j h1 h2 y z => ?_) (fun g j h1 h2 y => ?_) (Or.inr (fun q' h1 h2 z => ?_)) ?_ (fun _ => hp)
  · unfold Glo at z
    rcases y with ⟨y1, y2⟩ | ⟨y1, y2⟩ <;> omega
  · rcases y with ⟨y1, y2⟩ | ⟨y1, y2⟩
    · rcases z with z | ⟨z, _⟩ <;> omega
    · rcases z with z | ⟨z, ⟨w1, w2⟩ | w⟩
      · omega
      · omega
      · have := w.1; have := w.2.1; omega
  · rcases y with ⟨y1, y2⟩ | ⟨y1, _⟩ <;> omega
  · rw [e1] at z
    exact h2 ((nI_eq (by omega) (by omega)).mp z).symm
  · obtain ⟨s, c, a1, a2, a3, a4⟩ := hJ.2.2.2.2.2.2.1
    refine ⟨s, s q, fun u hu => by rw [k.i (fun y => by rcases y with ⟨y1, _⟩ | ⟨_, y2⟩ <;> omega)]; exact a1 u hu, by rw [e2]; exact (a1 q (by omega)).1, (a1 q (by omega)).2, fun u hu z => ?_⟩
    rw [e1] at z
    have : q = u := (nI_eq (by omega) (by omega)).mp z
    subst this; exact Nat.le_refl _
end
