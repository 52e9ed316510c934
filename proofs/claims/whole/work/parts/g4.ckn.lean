/-! check: the reference's bound -/
theorem ck_lle (a b : Int32) : Int32.toInt64 a ≤ Int32.toInt64 b ↔ a ≤ b := by
  rw [Int64.le_iff_toInt_le, Int32.le_iff_toInt_le, Int32.toInt_toInt64, Int32.toInt_toInt64]
section
variable {E : EE} {d : Nat} {V V' : VH} {q : Nat} {t : Nat → Int32} {n : Nat} {R : List SR} {nt fa : Nat → Int32} {h : Nat} {x y : Int32} {cs : Nat → Int32} {p : Nat}
theorem m_isBound {K : Int32 → VH → Prop} (h0 : 2 < d) (hm : KnM V q t n R nt fa h x cs) (hs : PrS t n R nt) (hp : p < plR R) (hG : GvM V R y p) (hL6 : vL V 6 = true) (hn57 : vN V 6 57 = 30) (hk : ∀ V', Fc V V' bmS → K (bI (bdR R nt fa h y p)) V') : vMI E d M_X12_isBound [sl 6 0, wi (nI q)] V K := by
  have q5 := hm.q5
  have r24 : tcR R 2 ≤ 24 := hs.2.2.2.1.1 2 (by decide)
  have a6 : tcR R 3 ≤ 6 := hs.2.2.2.1.1 3 (by decide)
  have t20 := hm.sq.2.2.2.2.1
  have p20 := hm.p20
  have km : ∀ {W}, Fc V W bmS → KnM W q t n R nt fa h x cs := fun k => hm.fc hs k (fun f j z => by have := z.2; omega)
  have gm : ∀ {W}, Fc V W bmS → GvM W R y p := fun k v hv => by
    rw [k.i (fun z => by have := z.2; omega)]
    exact hG v hv
  have n2 : ∀ {W}, Fc V W bmS → vI W 6 14 (4 * q + 2) = nI (tcR R 2) := fun k => ((km k).1.1.2.2.1.1 2 (by decide)).1
  have n3 : ∀ {W}, Fc V W bmS → vI W 6 14 (4 * q + 3) = nI (tcR R 3) := fun k => ((km k).1.1.2.2.1.1 3 (by decide)).1
  -- levels are compared
  have cmp : ∀ W, Fc V W bmS → (∀ l, l < 3 → vJ W 6 56 l = bnR R nt fa y p l) → ∀ m l (x2 : Int32), l + m = 3 → (∀ j, j < l → scQ R nt fa h j = bnR R nt fa y p j) → vwp E d M_X12_isBound 320 [some (sl 6 0), some (wi (nI q)), some (wi x2), some (wi (nI h)), some (wi (nI l))] [] W (zi K) := by
    intro W kW eW m
    have hh := (km kW).hq.1
    induction m with
    | zero =>
      intro l x2 e he
      have : l = 3 := by omega
      subst this
      have yes : bdR R nt fa h y p = true := cmpB_t he
      have hK := hk W kW
      rw [yes] at hK
      exact w_X12_isBound_320 ⟨fun _ => hK, fun z => absurd (show (3 : Int32) ≤ nI 3 by decide) z⟩
    | succ m ih =>
      intro l x2 e he
      have hl : l < 3 := by omega
      have e45 : vJ W 6 45 (20000 * l + h) = scQ R nt fa h l := KnM.at (km kW) hh hl
      have h20 : h < 20000 := Nat.lt_of_lt_of_le hh p20
      refine w_X12_isBound_320 ⟨fun z => absurd z (nI_ge (b := 3) hl (by decide)), fun _ => ?_⟩
      rw [i20k, nI_clamp (show 20000 * l + h < 2 ^ 31 by omega), nI_clamp (show l < 2 ^ 31 by omega), e45, eW l hl, nI_1]
      have vp : vp_in (nI l) 3 := vp_in_nI hl (by decide)
      have vq : vp_in (nI (20000 * l + h)) 60000 := vp_in_nI (by omega) (by decide)
      have hK := hk W kW
      refine ⟨vq, vp, fun z => ih (l + 1) x2 (by omega) (fun j hj => ?_), fun z => ⟨vq, vp, fun z2 => ?_, fun z2 => ?_⟩⟩
      · by_cases c : j = l
        · rw [c]; exact z
        · exact he j (by omega)
      · have no : bdR R nt fa h y p = false := (cmpB_f hl he z).trans (decide_eq_false (Int64.not_lt.mpr z2))
        rw [no] at hK; exact hK
      · have yes : bdR R nt fa h y p = true := (cmpB_f hl he z).trans (decide_eq_true (Int64.not_le.mp z2))
        rw [yes] at hK; exact hK
  -- aims are added
  have go2 : ∀ m k W, k + m = tcR R 3 → Fc V W bmS → (∀ j, prI R j → vJ W 6 57 j = Int32.toInt64 (lsR R nt fa y p j)) → (∀ l, l < 3 → vJ W 6 56 l = wsA (aln R) (fun k _ _ => lsR R nt fa y p (24 + k)) fa fa (wsR (lvn R) (wtR R) (fun r _ _ => lsR R nt fa y p r) fa fa (tcR R 2)) k l) → ∀ x2 : Int32, vwp E d M_X12_isBound 268 [some (sl 6 0), some (wi (nI q)), some (wi x2), some (wi (nI k)), none] [] W (zi K) := by
    intro m
    induction m with
    | zero =>
      intro k W e kW e1 e2 x2
      have : k = tcR R 3 := by omega
      subst this
      exact w_X12_isBound_268 (by omega) (c_aimsOf q5 (n3 kW) ⟨fun _ => c_handOf (by omega) (km kW).sq (km kW).hq (cmp W kW e2 3 0 x2 (by omega) (fun j hj => absurd hj (Nat.not_lt_zero j))), fun z => absurd (nI_le (Nat.le_refl _) (by omega)) z⟩)
    | succ m ih =>
      intro k W e kW e1 e2 x2
      have ka : k < tcR R 3 := by omega
      obtain ⟨al3, _, al1, _⟩ := hs.aim ka
      have lev : vI W 6 27 (6 * q + k) = nI (aln R k) := ((km kW).1.1.2.2.2.2.2.2.1.2 k ka).1.trans al1
      have e6 : (6 : Int32) * nI q + nI k = nI (6 * q + k) := by rw [show (6 : Int32) = nI 6 from rfl, nI_mul, nI_add]
      have e24 : (24 : Int32) + nI k = nI (24 + k) := by rw [show (24 : Int32) = nI 24 from rfl, nI_add]
      refine w_X12_isBound_268 (by omega) (c_aimsOf q5 (n3 kW) ⟨fun z => absurd z (nI_ge ka (by omega)), fun _ => ?_⟩)
      rw [e6, e24, nI_clamp (show 6 * q + k < 2 ^ 31 by omega), nI_clamp (show 24 + k < 2 ^ 31 by omega), lev, nI_clamp (show aln R k < 2 ^ 31 by omega), e1 (24 + k) (Or.inr (by omega)), e2 (aln R k) al3, nI_1]
      refine ⟨vp_in_nI (by omega) (by decide), vp_in_nI al3 (by decide), vp_in_nI (by omega) (by decide), vp_in_nI al3 (by decide), fun W2 w2 => ?_⟩
      have kW2 : Fc V W2 bmS := kW.trans (by rw [w2]; exact Fc_wrJ ⟨rfl, Or.inl rfl⟩)
      refine ih (k + 1) W2 (by omega) kW2 (fun j hj => by rw [w2, wrJ_ne (fun z => by omega)]; exact e1 j hj) (fun l hl => ?_) x2
      by_cases c : l = aln R k
      · rw [c, w2, wrJ_at, wsA_at]
      · rw [wsA_ne c, w2, wrJ_ne (fun z => c z.2.2), e2 l hl]
  -- rules are added
  have go1 : ∀ m k W, k + m = tcR R 2 → Fc V W bmS → (∀ j, prI R j → vJ W 6 57 j = Int32.toInt64 (lsR R nt fa y p j)) → (∀ l, l < 3 → vJ W 6 56 l = wsR (lvn R) (wtR R) (fun r _ _ => lsR R nt fa y p r) fa fa k l) → ∀ x2 : Int32, vwp E d M_X12_isBound 213 [some (sl 6 0), some (wi (nI q)), some (wi x2), some (wi (nI k)), none] [] W (zi K) := by
    intro m
    induction m with
    | zero =>
      intro k W e kW e1 e2 x2
      have : k = tcR R 2 := by omega
      subst this
      refine w_X12_isBound_213 (by omega) (c_rulesOf q5 (n2 kW) ⟨fun _ => go2 (tcR R 3) 0 W (by omega) kW e1 (fun l hl => ?_) x2, fun z => absurd (nI_le (Nat.le_refl _) (by omega)) z⟩)
      rw [e2 l hl, wsA_0]
    | succ m ih =>
      intro k W e kW e1 e2 x2
      have ka : k < tcR R 2 := by omega
      obtain ⟨lv3, lv1, _⟩ := hs.rule ka
      have ru := (km kW).1.1.2.2.2.2.2.2.1.1 k ka
      have lev : vI W 6 24 (24 * q + k) = nI (lvn R k) := ru.1.trans lv1
      have e24 : (24 : Int32) * nI q + nI k = nI (24 * q + k) := by rw [show (24 : Int32) = nI 24 from rfl, nI_mul, nI_add]
      refine w_X12_isBound_213 (by omega) (c_rulesOf q5 (n2 kW) ⟨fun z => absurd z (nI_ge ka (by omega)), fun _ => ?_⟩)
      rw [e24, nI_clamp (show 24 * q + k < 2 ^ 31 by omega), nI_clamp (show k < 2 ^ 31 by omega), lev, nI_clamp (show lvn R k < 2 ^ 31 by omega), ru.2.1, e1 k (Or.inl ka), e2 (lvn R k) lv3, nI_1]
      refine ⟨vp_in_nI (by omega) (by decide), vp_in_nI lv3 (by decide), vp_in_nI (by omega) (by decide), vp_in_nI (by omega) (by decide), vp_in_nI lv3 (by decide), fun W2 w2 => ?_⟩
      have kW2 : Fc V W2 bmS := kW.trans (by rw [w2]; exact Fc_wrJ ⟨rfl, Or.inl rfl⟩)
      refine ih (k + 1) W2 (by omega) kW2 (fun j hj => by rw [w2, wrJ_ne (fun z => by omega)]; exact e1 j hj) (fun l hl => ?_) x2
      by_cases c : l = lvn R k
      · rw [c, w2, wrJ_at, wsR_at]
      · rw [wsR_ne c, w2, wrJ_ne (fun z => c z.2.2), e2 l hl]
  -- the bound is cleared
  have clr : ∀ m k W, k + m = 3 → Fc V W bmS → (∀ j, prI R j → vJ W 6 57 j = Int32.toInt64 (lsR R nt fa y p j)) → (∀ l, l < k → vJ W 6 56 l = 0) → ∀ x2 : Int32, vwp E d M_X12_isBound 193 [some (sl 6 0), some (wi (nI q)), some (wi x2), some (wi (nI k)), none] [] W (zi K) := by
    intro m
    induction m with
    | zero =>
      intro k W e kW e1 e2 x2
      have : k = 3 := by omega
      subst this
      refine w_X12_isBound_193 ⟨fun _ => go1 (tcR R 2) 0 W (by omega) kW e1 (fun l hl => ?_) x2, fun z => absurd (show (3 : Int32) ≤ nI 3 by decide) z⟩
      rw [e2 l hl, wsR_0]
    | succ m ih =>
      intro k W e kW e1 e2 x2
      have k3 : k < 3 := by omega
      refine w_X12_isBound_193 ⟨fun z => absurd z (nI_ge (b := 3) k3 (by decide)), fun _ => ⟨vp_in_nI k3 (by decide), fun W2 w2 => ?_⟩⟩
      rw [nI_clamp (show k < 2 ^ 31 by omega)] at w2
      have kW2 : Fc V W2 bmS := kW.trans (by rw [w2]; exact Fc_wrJ ⟨rfl, Or.inl rfl⟩)
      rw [nI_1]
      refine ih (k + 1) W2 (by omega) kW2 (fun j hj => by rw [w2, wrJ_ne (fun z => by omega)]; exact e1 j hj) (fun l hl => ?_) x2
      by_cases c : l = k
      · rw [c, w2, wrJ_at]
      · rw [w2, wrJ_ne (fun z => c z.2.2)]; exact e2 l (by omega)
  -- the plans
  refine w_X12_isBound_0 (by omega) (c_firstGiven (by omega) hm hp hG ?_)
  refine en_loop (fx := tst y) (h := p) (f := fun s a i => imin (s i) (vpR R nt fa i a)) (a := fun _ => 2147483647) hm.sq.pos hp (fun c n s' => ∀ (W : VH) (x2 : Int32), Fc V W bmS → (c ≠ none ∧ ¬ x2 = 0 ∧ s' = (fun _ => 2147483647)) ∨ (x2 = 0 ∧ ∀ j, prI R j → vJ W 6 57 j = Int32.toInt64 (s' j)) → vwp E d M_X12_isBound 8 [some (sl 6 0), some (wi (nI q)), some (wi x2), some (wi (cuI c)), none] [] W (zi K)) (fun n W x2 kW e1 => ?_) (fun p1 n s' hp1 hnp ha ih W x2 kW e1 => ?_) V 1 Fc.refl (Or.inl ⟨fun z => (by cases z), by decide, rfl⟩)
  · rcases e1 with ⟨z, _⟩ | ⟨_, e1⟩
    · exact absurd rfl z
    · exact w_X12_isBound_8 ⟨fun _ => clr 3 0 W (by omega) kW e1 (fun l hl => absurd hl (Nat.not_lt_zero l)) x2, fun z => absurd (show cuI none < 0 by decide) z⟩
  · have e1 : (¬ x2 = 0 ∧ s' = (fun _ => 2147483647)) ∨ (x2 = 0 ∧ ∀ j, prI R j → vJ W 6 57 j = Int32.toInt64 (s' j)) := by
      rcases e1 with ⟨_, z⟩ | z
      · exact Or.inl z
      · exact Or.inr z
    -- the new least value of part i
    have newv : ∀ (i : Nat) (W2 : VH), prI R i → ¬ x2 = 0 → vpR R nt fa i p1 = imin (s' i) (vpR R nt fa i p1) := fun i W2 hi nz => by
      rcases e1 with ⟨_, z⟩ | ⟨z, _⟩
      · rw [z]; exact (imin_top _).symm
      · exact absurd z nz
    have aims : ∀ m k W2, k + m = tcR R 3 → Fc V W2 bmS → (∀ j, prI R j → (j < 24 + k → vJ W2 6 57 j = Int32.toInt64 (imin (s' j) (vpR R nt fa j p1))) ∧ (24 + k ≤ j → x2 = 0 → vJ W2 6 57 j = Int32.toInt64 (s' j))) → vwp E d M_X12_isBound 94 [some (sl 6 0), some (wi (nI q)), some (wi x2), some (wi (nI p1)), some (wi (nI k))] [] W2 (zi K) := by
      intro m
      induction m with
      | zero =>
        intro k W2 ek k2 r2
        have : k = tcR R 3 := by omega
        subst this
        have ih3 := ih W2 0 k2 (Or.inr ⟨rfl, fun j hj => (r2 j hj).1 (by rcases hj with hj | hj <;> omega)⟩)
        refine w_X12_isBound_94 (by omega) (c_aimsOf q5 (n3 k2) ⟨fun _ => c_nextGiven (by omega) (km k2) (gm k2) hp1 (fun e => ?_) (fun b e => ?_), fun z => absurd (nI_le (Nat.le_refl _) (by omega)) z⟩)
        · rw [e] at ih3; exact ih3
        · rw [e] at ih3; exact ih3
      | succ m ihm =>
        intro k W2 ek k2 r2
        have ka : k < tcR R 3 := by omega
        have e24 : (24 : Int32) + nI k = nI (24 + k) := by rw [show (24 : Int32) = nI 24 from rfl, nI_add]
        have pk : prI R (24 + k) := Or.inr (by omega)
        have e44 : vI W2 6 44 (20000 * k + p1) = vpR R nt fa (24 + k) p1 := by
          rw [((km k2).2 p1 hp1).2.1 k ka]
          unfold vpR
          rw [if_neg (show ¬ 24 + k < 24 by omega), show 24 + k - 24 = k by omega]
        have vq : vp_in (nI (20000 * k + p1)) 120000 := vp_in_nI (by omega) (by decide)
        have v30 : vp_in (nI (24 + k)) 30 := vp_in_nI (by omega) (by decide)
        have s57 : SL (vL W2) 6 57 15 := ⟨by rw [k2.l]; exact hL6, by decide, rfl⟩
        have n57 : vN W2 6 57 = 30 := by rw [k2.n]; exact hn57
        have put : ∀ w : Int64, w = Int32.toInt64 (imin (s' (24 + k)) (vpR R nt fa (24 + k) p1)) → vwp E d M_X12_isBound 172 [some (sl 6 0), some (wi (nI q)), some (wi x2), some (wi (nI p1)), some (wi (nI k))] [wj w, wi (nI (24 + k)), sl 6 57] W2 (zi K) := fun w ew => by
          refine w_X12_isBound_172 s57 ⟨by rw [n57]; exact v30, fun W3 w3 => ?_⟩
          rw [nI_clamp (show 24 + k < 2 ^ 31 by omega)] at w3
          have k3 : Fc V W3 bmS := k2.trans (by rw [w3]; exact Fc_wrJ ⟨rfl, Or.inr rfl⟩)
          rw [nI_1]
          refine ihm (k + 1) W3 (by omega) k3 (fun j hj => ?_)
          by_cases c : j = 24 + k
          · refine ⟨fun _ => by rw [c, w3, wrJ_at, ew], fun z => by omega⟩
          · have e : vJ W3 6 57 j = vJ W2 6 57 j := by rw [w3, wrJ_ne (fun z => c z.2.2)]
            rw [e]
            exact ⟨fun z => (r2 j hj).1 (by omega), fun z => (r2 j hj).2 (by omega)⟩
        refine w_X12_isBound_94 (by omega) (c_aimsOf q5 (n3 k2) ⟨fun z => absurd z (nI_ge ka (by omega)), fun _ => ?_⟩)
        rw [e24, i20k, nI_clamp (show 20000 * k + p1 < 2 ^ 31 by omega), nI_clamp (show 24 + k < 2 ^ 31 by omega), e44]
        have fresh : vpR R nt fa (24 + k) p1 = imin (s' (24 + k)) (vpR R nt fa (24 + k) p1) → vwp E d M_X12_isBound 145 [some (sl 6 0), some (wi (nI q)), some (wi x2), some (wi (nI p1)), some (wi (nI k))] [wi (nI (24 + k)), sl 6 57] W2 (zi K) := fun e => by
          refine w_X12_isBound_145 s57 ?_
          rw [i20k, nI_clamp (show 20000 * k + p1 < 2 ^ 31 by omega), e44]
          exact ⟨vq, put _ (by rw [← e])⟩
        refine ⟨fun z => fresh (newv (24 + k) W2 pk z), fun z => ?_⟩
        rw [(r2 (24 + k) pk).2 (Nat.le_refl _) z]
        refine ⟨vq, v30, fun z2 => ⟨v30, put _ ?_⟩, fun z2 => fresh ?_⟩
        · rw [imin_l ((ck_lle _ _).mp z2)]
        · exact (imin_r (fun u => z2 ((ck_lle _ _).mpr u))).symm
    have rules : ∀ m k W2, k + m = tcR R 2 → Fc V W2 bmS → (∀ j, prI R j → (j < k → vJ W2 6 57 j = Int32.toInt64 (imin (s' j) (vpR R nt fa j p1))) ∧ (k ≤ j → x2 = 0 → vJ W2 6 57 j = Int32.toInt64 (s' j))) → vwp E d M_X12_isBound 15 [some (sl 6 0), some (wi (nI q)), some (wi x2), some (wi (nI p1)), some (wi (nI k))] [] W2 (zi K) := by
      intro m
      induction m with
      | zero =>
        intro k W2 ek k2 r2
        have : k = tcR R 2 := by omega
        subst this
        refine w_X12_isBound_15 (by omega) (c_rulesOf q5 (n2 k2) ⟨fun _ => aims (tcR R 3) 0 W2 (by omega) k2 (fun j hj => ⟨fun z => (r2 j hj).1 (by rcases hj with hj | hj <;> omega), fun z => (r2 j hj).2 (by omega)⟩), fun z => absurd (nI_le (Nat.le_refl _) (by omega)) z⟩)
      | succ m ihm =>
        intro k W2 ek k2 r2
        have ka : k < tcR R 2 := by omega
        have pk : prI R k := Or.inl ka
        have e43 : vI W2 6 43 (20000 * k + p1) = vpR R nt fa k p1 := by
          rw [((km k2).2 p1 hp1).1 k ka]
          unfold vpR
          rw [if_pos (show k < 24 by omega)]
        have vq : vp_in (nI (20000 * k + p1)) 480000 := vp_in_nI (by omega) (by decide)
        have v30 : vp_in (nI k) 30 := vp_in_nI (by omega) (by decide)
        have s57 : SL (vL W2) 6 57 15 := ⟨by rw [k2.l]; exact hL6, by decide, rfl⟩
        have n57 : vN W2 6 57 = 30 := by rw [k2.n]; exact hn57
        have put : ∀ w : Int64, w = Int32.toInt64 (imin (s' k) (vpR R nt fa k p1)) → vwp E d M_X12_isBound 84 [some (sl 6 0), some (wi (nI q)), some (wi x2), some (wi (nI p1)), some (wi (nI k))] [wj w, wi (nI k), sl 6 57] W2 (zi K) := fun w ew => by
          refine w_X12_isBound_84 s57 ⟨by rw [n57]; exact v30, fun W3 w3 => ?_⟩
          rw [nI_clamp (show k < 2 ^ 31 by omega)] at w3
          have k3 : Fc V W3 bmS := k2.trans (by rw [w3]; exact Fc_wrJ ⟨rfl, Or.inr rfl⟩)
          rw [nI_1]
          refine ihm (k + 1) W3 (by omega) k3 (fun j hj => ?_)
          by_cases c : j = k
          · refine ⟨fun _ => by rw [c, w3, wrJ_at, ew], fun z => by omega⟩
          · have e : vJ W3 6 57 j = vJ W2 6 57 j := by rw [w3, wrJ_ne (fun z => c z.2.2)]
            rw [e]
            exact ⟨fun z => (r2 j hj).1 (by omega), fun z => (r2 j hj).2 (by omega)⟩
        refine w_X12_isBound_15 (by omega) (c_rulesOf q5 (n2 k2) ⟨fun z => absurd z (nI_ge ka (by omega)), fun _ => ?_⟩)
        rw [i20k, nI_clamp (show 20000 * k + p1 < 2 ^ 31 by omega), nI_clamp (show k < 2 ^ 31 by omega), e43]
        have fresh : vpR R nt fa k p1 = imin (s' k) (vpR R nt fa k p1) → vwp E d M_X12_isBound 60 [some (sl 6 0), some (wi (nI q)), some (wi x2), some (wi (nI p1)), some (wi (nI k))] [wi (nI k), sl 6 57] W2 (zi K) := fun e => by
          refine w_X12_isBound_60 s57 ?_
          rw [i20k, nI_clamp (show 20000 * k + p1 < 2 ^ 31 by omega), e43]
          exact ⟨vq, put _ (by rw [← e])⟩
        refine ⟨fun z => fresh (newv k W2 pk z), fun z => ?_⟩
        rw [(r2 k pk).2 (Nat.le_refl _) z]
        refine ⟨vq, v30, fun z2 => ⟨v30, put _ ?_⟩, fun z2 => fresh ?_⟩
        · rw [imin_l ((ck_lle _ _).mp z2)]
        · exact (imin_r (fun u => z2 ((ck_lle _ _).mpr u))).symm
    refine w_X12_isBound_8 ⟨fun z => absurd z (nI_pos (by omega)), fun _ => rules (tcR R 2) 0 W (by omega) kW (fun j hj => ⟨fun z => absurd z (Nat.not_lt_zero j), fun _ z => ?_⟩)⟩
    rcases e1 with ⟨nz, _⟩ | ⟨_, e1⟩
    · exact absurd z nz
    · exact e1 j hj
end
