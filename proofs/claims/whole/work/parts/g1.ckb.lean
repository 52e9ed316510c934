/-! check: the class's bound -/
/-- cells that the bound changes -/
def bnS (q a f j : Nat) : Prop := a = 0 ∧ (f = 21 ∨ f = 22) ∨ a = q + 1 ∧ (f = 9 ∧ j = 13 ∨ f = 17 ∨ f = 18)
theorem bnS_ck {q a f j : Nat} (y : bnS q a f j) : ckS q a f j := by
  rcases y with ⟨y1, y2⟩ | y
  · exact Or.inl ⟨y1, by omega⟩
  · exact Or.inr y
theorem bnS_0 {q f j : Nat} (h1 : f ≠ 21) (h2 : f ≠ 22) : ¬ bnS q 0 f j := fun y => by
  rcases y with ⟨_, y⟩ | ⟨y, _⟩ <;> omega
/-- part i is there -/
def prI (R : List SR) (i : Nat) : Prop := i < tcR R 2 ∨ 24 ≤ i ∧ i < 24 + tcR R 3
section
variable {E : EE} {d : Nat} {V0 V V' : VH} {q : Nat} {t : Nat → Int32} {n : Nat} {R : List SR} {nt fa : Nat → Int32} {h : Nat} {x y : Int32} {cs : Nat → Int32} {T : Nat → TK} {L i p : Nat}
theorem LvC.bn (hv : LvC V0 V q L i) (k : Fc V V' (bnS q)) : LvC V0 V' q L i := by
  obtain ⟨f, ⟨t1, t2, t3, t4, t5⟩, hi, z⟩ := hv
  have ei : ∀ f j, f ≠ 21 → f ≠ 22 → vI V' 0 f j = vI V 0 f j := fun f j a b => k.i (bnS_0 a b)
  have ej : ∀ f j, f ≠ 21 → f ≠ 22 → vJ V' 0 f j = vJ V 0 f j := fun f j a b => k.j (bnS_0 a b)
  refine ⟨f.trans (k.mono (fun a f j y => bnS_ck y)), ⟨?_, ?_, ?_, ?_, ?_⟩, hi, ?_⟩
  · rw [ei 2 4 (by decide) (by decide)]; exact t1
  · rw [ei 2 6 (by decide) (by decide), ei 3 i (by decide) (by decide)]; exact t2
  · rw [ej 2 7 (by decide) (by decide), ej 4 i (by decide) (by decide)]; exact t3
  · rw [ei 2 8 (by decide) (by decide), ei 5 i (by decide) (by decide)]; exact t4
  · rw [ei 2 9 (by decide) (by decide), ei 6 i (by decide) (by decide)]; exact t5
  · rw [ei 2 10 (by decide) (by decide)]; exact z
/-- the class runs part i at the plan it has looked at -/
theorem k_run {a : Nat} {K : Int32 → VH → Prop} (h0 : 3 < d) (c0 : CkC V0 q T L) (hI : PbI V0 q t n R nt fa h x cs) (f : Fc V0 V (ckS q)) (s2 : ∀ v, v < tcR R 1 → vI V (q + 1) 18 v = sn (szR R) (tcR R 1) (vlR R) a v) (hi : prI R i) (hk : ∀ V', Fc V V' (skS (q + 1)) → K (vpR R nt fa i a) V') : vMI E d M_X2_run [sl (q + 1) 9, wi (nI i), sl (q + 1) 23] V K := by
  have r24 : tcR R 2 ≤ 24 := hI.1.2.2.2.1.1 2 (by decide)
  have rl := hI.2.1.rl (E := E) (d := d) hI.1 h0
  have jr : JR V0 V (q + 1) := f.jr (fun f i z => by
    rcases z with ⟨z, _⟩ | ⟨_, z⟩ <;> omega)
  have sl23 : SL (vL V) (q + 1) 23 14 := by rw [f.l]; exact sP_23 hI.2.1.1
  have n23 : vN V (q + 1) 23 = 16 := by rw [f.n]; exact c0.2.2.2.1.1
  have fe : ∀ k, k < tcR R 0 → vI V (q + 1) 23 k = fa k := fun k hk => by
    rw [f.i (ckS_g (by omega) (by omega) (by omega))]
    exact hI.bd.1 k hk
  rcases hi with hi | ⟨h1, h2⟩
  · refine (rl.2.2.2.2.2.1 i hi).2.2.2 V (q + 1) 23 _ jr sl23 n23 (fun z => by omega) (fun V' f' => ?_)
    have dv : DR R nt i (vI V (q + 1) 23) (vI V (q + 1) 18) = vpR R nt fa i a := by
      unfold vpR
      rw [if_pos (show i < 24 by omega)]
      exact PrS.dx i _ _ _ _ fe s2
    rw [dv]
    exact hk V' f'
  · obtain ⟨k, rfl⟩ : ∃ k, i = 24 + k := ⟨i - 24, by omega⟩
    refine (rl.2.2.2.2.2.2 k (by omega)).2.2 V (q + 1) 23 _ jr sl23 n23 (fun z => by omega) (fun V' f' => ?_)
    have dv : DRa R nt k (vI V (q + 1) 23) (vI V (q + 1) 18) = vpR R nt fa (24 + k) a := by
      unfold vpR
      rw [if_neg (show ¬ 24 + k < 24 by omega), show 24 + k - 24 = k by omega]
      exact PrS.dxa k _ _ _ _ fe s2
    rw [dv]
    exact hk V' f'
theorem k_bounded {K : Int32 → VH → Prop} (h0 : 6 < d) (c0 : CkC V0 q T L) (hI : PbI V0 q t n R nt fa h x cs) (s : Scd V0 q R nt fa) (f0 : Fc V0 V (ckS q)) (hp : p < plR R) (hk : ∀ V', Fc V V' (bnS q) → K (bI (bdR R nt fa h y p)) V') : vMI E d M_X4_isBounded [sl 0 20, sl (q + 1) 0, wi y, wi (nI p)] V K := by
  have r24 : tcR R 2 ≤ 24 := hI.1.2.2.2.1.1 2 (by decide)
  have a6 := (hI.2.1.rl (E := E) (d := d) hI.1 (by omega)).2.2.1
  have rl := hI.2.1.rl (E := E) (d := d) hI.1 (by omega)
  have t20 := hI.sp.2.2.2.2.1
  have nv := hI.v12
  have n21 : ∀ {W}, Fc V W (bnS q) → vN W 0 21 = 30 := fun k => by rw [k.n, f0.n]; exact c0.2.2.2.1.2.1
  have n22 : ∀ {W}, Fc V W (bnS q) → vN W 0 22 = 3 := fun k => by rw [k.n, f0.n]; exact c0.2.2.2.1.2.2
  have l0 : ∀ {W}, Fc V W (bnS q) → vL W 0 = true := fun k => by rw [k.l, f0.l]; exact c0.2.2.2.2
  have fw : ∀ {W}, Fc V W (bnS q) → Fc V0 W (ckS q) := fun k => f0.trans (k.mono (fun a f j y => bnS_ck y))
  have g9 : ∀ {W}, Fc V W (bnS q) → vI W (q + 1) 9 1 = nI (tcR R 2) ∧ vI W (q + 1) 9 2 = nI (tcR R 3) := fun k => by
    have z := hI.2.1.2.2.2.2.1.2
    exact ⟨by rw [(fw k).i (ckS_g (by omega) (by omega) (by omega))]; exact z.1, by rw [(fw k).i (ckS_g (by omega) (by omega) (by omega))]; exact z.2⟩
  -- levels are compared
  have cmp : ∀ W, Fc V W (bnS q) → (∀ l, l < 3 → vJ W 0 22 l = bnR R nt fa y p l) → ∀ m l (x4 : Int32), l + m = 3 → (∀ j, j < l → scQ R nt fa h j = bnR R nt fa y p j) → vwp E d M_X4_isBounded 223 [some (sl 0 20), some (sl (q + 1) 0), some (wi y), some (wi (nI p)), some (wi x4), some (wi (nI l)), none, none] [] W (zi K) := by
    intro W kW eW m
    have hg := ck_gp hI (fw kW)
    have hh : vI W (q + 1) 0 8 = nI h := by rw [(fw kW).i (ckS_g (by omega) (by omega) (by omega))]; exact hI.hnd.1
    induction m with
    | zero =>
      intro l x4 e he
      have : l = 3 := by omega
      subst this
      have yes : bdR R nt fa h y p = true := cmpB_t he
      have hK := hk W kW
      rw [yes] at hK
      exact w_X4_isBounded_223 hg (by omega) ⟨fun _ => hK, fun z => absurd (show (3 : Int32) ≤ nI 3 by decide) z⟩
    | succ m ih =>
      intro l x4 e he
      have hl : l < 3 := by omega
      refine w_X4_isBounded_223 hg (by omega) ⟨fun z => absurd z (nI_ge (b := 3) hl (by decide)), fun _ => ?_⟩
      rw [hh]
      refine c_scoreOf hg (ck_tb s (fw kW)) hI.hnd.2 hl ?_
      rw [nI_clamp (show l < 2 ^ 31 by omega), eW l hl, nI_1]
      have vp : vp_in (nI l) 3 := vp_in_nI hl (by decide)
      have hK := hk W kW
      refine ⟨vp, fun z => ih (l + 1) x4 (by omega) (fun j hj => ?_), fun z => ⟨vp, fun z2 => ?_, fun z2 => ?_⟩⟩
      · by_cases c : j = l
        · rw [c]; exact z
        · exact he j (by omega)
      · have no : bdR R nt fa h y p = false := (cmpB_f hl he z).trans (decide_eq_false (Int64.not_lt.mpr z2))
        rw [no] at hK; exact hK
      · have yes : bdR R nt fa h y p = true := (cmpB_f hl he z).trans (decide_eq_true (Int64.not_le.mp z2))
        rw [yes] at hK; exact hK
  -- aims are added
  have go2 : ∀ m k W, k + m = 6 → Fc V W (bnS q) → (∀ j, prI R j → vI W 0 21 j = lsR R nt fa y p j) → (∀ l, l < 3 → vJ W 0 22 l = wsA (aln R) (fun k _ _ => lsR R nt fa y p (24 + k)) fa fa (wsR (lvn R) (wtR R) (fun r _ _ => lsR R nt fa y p r) fa fa (tcR R 2)) (min k (tcR R 3)) l) → ∀ x4 : Int32, vwp E d M_X4_isBounded 143 [some (sl 0 20), some (sl (q + 1) 0), some (wi y), some (wi (nI p)), some (wi x4), some (wi (nI (24 + k))), none, none] [] W (zi K) := by
    intro m
    induction m with
    | zero =>
      intro k W e kW e1 e2 x4
      have : k = 6 := by omega
      subst this
      have hg := ck_gp hI (fw kW)
      refine w_X4_isBounded_143 hg (by omega) ⟨fun _ => cmp W kW (fun l hl => ?_) 3 0 x4 (by omega) (fun j hj => absurd hj (Nat.not_lt_zero j)), fun z => absurd (nI_le (Nat.le_refl _) (by decide)) z⟩
      have := e2 l hl
      rw [show min 6 (tcR R 3) = tcR R 3 by omega] at this
      exact this
    | succ m ih =>
      intro k W e kW e1 e2 x4
      have hg := ck_gp hI (fw kW)
      obtain ⟨p1, p2⟩ := g9 kW
      have k6 : k < 6 := by omega
      have n24 : nI (24 + k) + 1 = nI (24 + (k + 1)) := by rw [nI_1, Nat.add_assoc]
      refine w_X4_isBounded_143 hg (by omega) ⟨fun z => absurd z (nI_ge (by omega) (by decide)), fun _ => k_isPart hg p1 p2 r24 a6 (by omega) (fun np => ⟨fun _ => w_X4_isBounded_214 hg ?_, fun z => absurd rfl z⟩) (fun hp1 => ⟨fun z => absurd z (by decide), fun _ => ?_⟩)⟩
      · rw [n24]
        refine ih (k + 1) W (by omega) kW e1 (fun l hl => ?_) x4
        rw [e2 l hl, show min k (tcR R 3) = min (k + 1) (tcR R 3) by omega]
      · have ka : k < tcR R 3 := by omega
        obtain ⟨al3, al1, _⟩ := rl.2.2.2.2.2.2 k ka
        have lev : vI W (q + 1) 10 (24 + k) = nI (aln R k) := by rw [(fw kW).i (ckS_g (by omega) (by omega) (by omega))]; exact al1
        rw [nI_clamp (show 24 + k < 2 ^ 31 by omega), lev, nI_clamp (show aln R k < 2 ^ 31 by omega), e1 (24 + k) (Or.inr (by omega)), e2 (aln R k) al3]
        refine ⟨vp_in_nI (by omega) (by decide), vp_in_nI al3 (by decide), vp_in_nI (by omega) (by decide), fun _ => ?_, fun z => absurd (nI_le (a := 24) (by omega) (by omega)) z⟩
        have mk : min k (tcR R 3) = k := by omega
        rw [mk]
        refine w_X4_isBounded_210 hg ⟨l0 kW, by decide, rfl⟩ ⟨by rw [n22 kW]; exact vp_in_nI al3 (by decide), fun W2 w2 => ?_⟩
        rw [nI_clamp (show aln R k < 2 ^ 31 by omega), show Int32.toInt64 1 = (1 : Int64) from rfl, Int64.mul_one] at w2
        have kW2 : Fc V W2 (bnS q) := kW.trans (by rw [w2]; exact Fc_wrJ (Or.inl ⟨rfl, Or.inr rfl⟩))
        refine w_X4_isBounded_214 (ck_gp hI (fw kW2)) ?_
        rw [n24]
        refine ih (k + 1) W2 (by omega) kW2 (fun j hj => by rw [w2]; exact e1 j hj) (fun l hl => ?_) x4
        rw [show min (k + 1) (tcR R 3) = k + 1 by omega]
        by_cases c : l = aln R k
        · rw [c, w2, wrJ_at, wsA_at]
        · rw [wsA_ne c, w2, wrJ_ne (fun z => c z.2.2), e2 l hl, mk]
  -- rules are added
  have go1 : ∀ m k W, k + m = 24 → Fc V W (bnS q) → (∀ j, prI R j → vI W 0 21 j = lsR R nt fa y p j) → (∀ l, l < 3 → vJ W 0 22 l = wsR (lvn R) (wtR R) (fun r _ _ => lsR R nt fa y p r) fa fa (min k (tcR R 2)) l) → ∀ x4 : Int32, vwp E d M_X4_isBounded 143 [some (sl 0 20), some (sl (q + 1) 0), some (wi y), some (wi (nI p)), some (wi x4), some (wi (nI k)), none, none] [] W (zi K) := by
    intro m
    induction m with
    | zero =>
      intro k W e kW e1 e2 x4
      have : k = 24 := by omega
      subst this
      refine go2 6 0 W (by omega) kW e1 (fun l hl => ?_) x4
      rw [e2 l hl, show min 24 (tcR R 2) = tcR R 2 by omega, Nat.zero_min, wsA_0]
    | succ m ih =>
      intro k W e kW e1 e2 x4
      have hg := ck_gp hI (fw kW)
      obtain ⟨p1, p2⟩ := g9 kW
      have k24 : k < 24 := by omega
      refine w_X4_isBounded_143 hg (by omega) ⟨fun z => absurd z (nI_ge (by omega) (by decide)), fun _ => k_isPart hg p1 p2 r24 a6 (by omega) (fun np => ⟨fun _ => w_X4_isBounded_214 hg ?_, fun z => absurd rfl z⟩) (fun hp1 => ⟨fun z => absurd z (by decide), fun _ => ?_⟩)⟩
      · rw [nI_1]
        refine ih (k + 1) W (by omega) kW e1 (fun l hl => ?_) x4
        rw [e2 l hl, show min k (tcR R 2) = min (k + 1) (tcR R 2) by omega]
      · have ka : k < tcR R 2 := by omega
        obtain ⟨lv3, lv1, wt1, _⟩ := rl.2.2.2.2.2.1 k ka
        have lev : vI W (q + 1) 10 k = nI (lvn R k) := by rw [(fw kW).i (ckS_g (by omega) (by omega) (by omega))]; exact lv1
        have wei : vI W (q + 1) 11 k = wtR R k := by rw [(fw kW).i (ckS_g (by omega) (by omega) (by omega))]; exact wt1
        have mk : min k (tcR R 2) = k := by omega
        rw [nI_clamp (show k < 2 ^ 31 by omega), lev, wei, nI_clamp (show lvn R k < 2 ^ 31 by omega), e1 k (Or.inl ka), e2 (lvn R k) lv3, mk]
        refine ⟨vp_in_nI (by omega) (by decide), vp_in_nI lv3 (by decide), vp_in_nI (by omega) (by decide), fun z => absurd z (nI_ge (b := 24) k24 (by decide)), fun _ => ⟨vp_in_nI (by omega) (by decide), ?_⟩⟩
        refine w_X4_isBounded_210 hg ⟨l0 kW, by decide, rfl⟩ ⟨by rw [n22 kW]; exact vp_in_nI lv3 (by decide), fun W2 w2 => ?_⟩
        rw [nI_clamp (show lvn R k < 2 ^ 31 by omega)] at w2
        have kW2 : Fc V W2 (bnS q) := kW.trans (by rw [w2]; exact Fc_wrJ (Or.inl ⟨rfl, Or.inr rfl⟩))
        refine w_X4_isBounded_214 (ck_gp hI (fw kW2)) ?_
        rw [nI_1]
        refine ih (k + 1) W2 (by omega) kW2 (fun j hj => by rw [w2]; exact e1 j hj) (fun l hl => ?_) x4
        rw [show min (k + 1) (tcR R 2) = k + 1 by omega]
        by_cases c : l = lvn R k
        · rw [c, w2, wrJ_at, wsR_at, Int64.mul_comm]
        · rw [wsR_ne c, w2, wrJ_ne (fun z => c z.2.2), e2 l hl, mk]
  -- behind the plans
  have fin : ∀ W, Fc V W (bnS q) → (∀ j, prI R j → vI W 0 21 j = lsR R nt fa y p j) → ∀ x4 x5 : Int32, vwp E d M_X4_isBounded 132 [some (sl 0 20), some (sl (q + 1) 0), some (wi y), some (wi (nI p)), some (wi x4), some (wi x5), none, none] [] W (zi K) := fun W kW e1 x4 x5 => by
    have hg := ck_gp hI (fw kW)
    have sl22 : SL (vL W) 0 22 15 := ⟨l0 kW, by decide, rfl⟩
    refine w_X4_isBounded_132 hg (by omega) (c_fillL sl22 (by rw [n22 kW]; decide) (fun W1 k1 z1 => ?_))
    have kW1 : Fc V W1 (bnS q) := kW.trans (k1.mono (fun a f j y => Or.inl ⟨y.1, Or.inr y.2⟩))
    refine go1 24 0 W1 (by omega) kW1 (fun j hj => by rw [k1.i (fun z => by have := z.2; omega)]; exact e1 j hj) (fun l hl => ?_) x4
    rw [z1 l (by rw [n22 kW]; exact hl), Nat.zero_min, wsR_0]
  -- the plans
  have sl21 : SL (vL V) 0 21 14 := ⟨l0 Fc.refl, by decide, rfl⟩
  refine w_X4_isBounded_0 (ck_gp hI f0) (by omega) (c_fill sl21 (by rw [n21 Fc.refl]; decide) (fun V1 k1 z1 => ?_))
  have kV1 : Fc V V1 (bnS q) := k1.mono (fun a f j y => Or.inl ⟨y.1, Or.inl y.2⟩)
  refine c_lowest (by omega) (ck_sp hI (fw kV1)) hp ?_
  refine en_loop (fx := tst y) (h := p) (f := fun s a i => imin (s i) (vpR R nt fa i a)) (a := fun _ => 2147483647) hI.sp.pos hp (fun c n s' => ∀ W, Fc V W (bnS q) → (∀ j, prI R j → vI W 0 21 j = s' j) → vwp E d M_X4_isBounded 23 [some (sl 0 20), some (sl (q + 1) 0), some (wi y), some (wi (nI p)), some (wi (cuI c)), some (wi (nI n)), none, none] [] W (zi K)) (fun n W kW e1 => ?_) (fun p1 n s' hp1 hnp ha ih W kW e1 => ?_) V1 kV1 (fun j hj => z1 j (by rw [n21 Fc.refl]; rcases hj with hj | hj <;> omega))
  · have hg := ck_gp hI (fw kW)
    exact w_X4_isBounded_23 hg (by omega) ⟨fun _ => fin W kW e1 _ _, fun _ => ⟨fun _ => fin W kW e1 _ _, fun z => absurd (show cuI none < 0 by decide) z⟩⟩
  · have hg := ck_gp hI (fw kW)
    have sp := ck_sp hI (fw kW)
    have inner : ∀ m i W2, i + m = 30 → Fc V W2 (bnS q) → (∀ v, v < tcR R 1 → vI W2 (q + 1) 18 v = sn (szR R) (tcR R 1) (vlR R) p1 v) → (∀ j, prI R j → vI W2 0 21 j = if j < i then imin (s' j) (vpR R nt fa j p1) else s' j) → vwp E d M_X4_isBounded 56 [some (sl 0 20), some (sl (q + 1) 0), some (wi y), some (wi (nI p)), some (wi (nI p1)), some (wi (nI n)), some (wi (nI i)), none] [] W2 (zi K) := by
      intro m
      induction m with
      | zero =>
        intro i W2 ei k2 s2 r2
        have : i = 30 := by omega
        subst this
        have hg2 := ck_gp hI (fw k2)
        have ih3 := ih W2 k2 (fun j hj => by rw [r2 j hj, if_pos (by rcases hj with hj | hj <;> omega)])
        refine w_X4_isBounded_56 hg2 (by omega) ⟨fun _ => c_following (by omega) (ck_sp hI (fw k2)) hp1 (fun e => ?_) (fun q2 e => ?_), fun z => absurd (nI_le (Nat.le_refl _) (by decide)) z⟩
        · rw [e] at ih3; rw [nI_1]; exact ih3
        · rw [e] at ih3; rw [nI_1]; exact ih3
      | succ m ihm =>
        intro i W2 ei k2 s2 r2
        have i30 : i < 30 := by omega
        have hg2 := ck_gp hI (fw k2)
        obtain ⟨p1', p2'⟩ := g9 k2
        have vp : vp_in (nI i) 30 := vp_in_nI i30 (by decide)
        refine w_X4_isBounded_56 hg2 (by omega) ⟨fun z => absurd z (nI_ge i30 (by decide)), fun _ => k_isPart hg2 p1' p2' r24 a6 i30 (fun np => ⟨fun _ => w_X4_isBounded_108 hg2 ?_, fun z => absurd rfl z⟩) (fun hp2 => ⟨fun z => absurd z (by decide), fun _ => ⟨vp, k_run (by omega) c0 hI (fw k2) s2 hp2 (fun W3 k3 => ⟨vp, fun W4 w4 => ?_⟩)⟩⟩)⟩
        · rw [nI_1]
          refine ihm (i + 1) W2 (by omega) k2 s2 (fun j hj => ?_)
          rw [r2 j hj]
          have ji : j ≠ i := fun u => np (by rw [← u]; exact hj)
          by_cases c : j < i
          · rw [if_pos c, if_pos (by omega)]
          · rw [if_neg c, if_neg (by omega)]
        · rw [nI_clamp (show i < 2 ^ 31 by omega), r2 i hp2, if_neg (Nat.lt_irrefl i)] at w4
          have k23 : Fc V W3 (bnS q) := k2.trans (k3.mono (fun a f j y => Or.inr ⟨y.1, by have := y.2; omega⟩))
          have k4 : Fc V W4 (bnS q) := k23.trans (by rw [w4]; exact Fc_wrI (Or.inl ⟨rfl, Or.inl rfl⟩))
          refine w_X4_isBounded_108 (ck_gp hI (fw k4)) ?_
          rw [nI_1]
          refine ihm (i + 1) W4 (by omega) k4 (fun v hv => ?_) (fun j hj => ?_)
          · rw [w4, wrI_ne (fun z => by omega), k3.i (fun y => by have := y.2; omega)]
            exact s2 v hv
          · by_cases c : j = i
            · rw [c, w4, wrI_at, if_pos (by omega)]
            · rw [w4, wrI_ne (fun z => c z.2.2), k3.i (fun y => by have := y.1; omega), r2 j hj]
              by_cases c2 : j < i
              · rw [if_pos c2, if_pos (by omega)]
              · rw [if_neg c2, if_neg (by omega)]
    refine w_X4_isBounded_23 hg (by omega) ⟨fun z => absurd z (by rw [sp.2.2.2.1]; exact nI_ge (by omega) (by omega)), fun _ => ⟨fun z => absurd z (nI_pos (by omega)), fun _ => c_look (by omega) sp (by omega) (fun W1 k1' s1 => ?_)⟩⟩
    have kW1 : Fc V W1 (bnS q) := kW.trans (k1'.mono (fun a f j y => Or.inr ⟨y.1, by have := y.2; omega⟩))
    refine inner 30 0 W1 (by omega) kW1 (fun v hv => s1 v hv) (fun j hj => ?_)
    rw [if_neg (Nat.not_lt_zero j), k1'.i (fun y => by have := y.1; omega)]
    exact e1 j hj
end
