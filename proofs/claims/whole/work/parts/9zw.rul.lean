/-! hopeless, rule -/
section
variable {E : EE} {d : Nat} {V V' : VH} {g q B : Nat} {t : Nat → Int32} {n : Nat} {R : List SR} {nt fa : Nat → Int32} {h h' : Nat} {x b : Int32} {cs : Nat → Int32}
/-- allowed plans -/
abbrev agR (R : List SR) (h : Nat) (x : Int32) : Nat → Bool := agr (szR R) (tcR R 1) (tst x) h
/-- rule r is broken by plan p -/
abbrev brk (R : List SR) (nt fa : Nat → Int32) (r p : Nat) : Int32 := DR R nt r fa (sn (szR R) (tcR R 1) (vlR R) p)
/-- hard rule r is broken by every allowed plan -/
def alB (R : List SR) (nt fa : Nat → Int32) (h : Nat) (x : Int32) (r : Nat) : Prop := lvR R r = 0 ∧ ∀ p, p < plR R → agR R h x p = true → ¬ brk R nt fa r p = 0
theorem brk_0 (E : EE) (hs : PrS t n R nt) (bd : Bds (tcR R 0) fa) {r : Nat} (hr : r < tcR R 2) (p : Nat) : brk R nt fa r p ≤ 0 ↔ brk R nt fa r p = 0 := by
  obtain ⟨t1, t2⟩ := DR_tv E hs bd (sn_bd hs p) hr
  have e0 : (0 : Int32).toInt = 0 := by decide
  constructor
  · intro z
    rw [Int32.le_iff_toInt_le, e0] at z
    refine Int32.toInt_inj.mp ?_
    rw [e0]
    show (DR R nt r fa (sn (szR R) (tcR R 1) (vlR R) p)).toInt = 0
    have z : (DR R nt r fa (sn (szR R) (tcR R 1) (vlR R) p)).toInt ≤ 0 := z
    omega
  · intro z; rw [z]; decide
theorem tst_st (E : EE) (hs : PrS t n R nt) (bd : Bds (tcR R 0) fa) {r : Nat} (hr : r < tcR R 2) (p : Nat) : tst (stQ R nt fa p) r = true ↔ ¬ brk R nt fa r p = 0 := by
  have r24 : tcR R 2 ≤ 24 := hs.2.2.2.1.1 2 (by decide)
  show tst (wst (DR R nt) fa (sn (szR R) (tcR R 1) (vlR R) p) (tcR R 2)) r = true ↔ _
  rw [tst_wst _ _ (by omega) (by omega), decide_eq_true_iff]
  exact ⟨fun z y => z.2 ((brk_0 E hs bd hr p).mpr y), fun z => ⟨hr, fun y => z ((brk_0 E hs bd hr p).mp y)⟩⟩
theorem fA_and (A : Nat → Bool) (st : Nat → Int32) (a : Int32) (r : Nat) : ∀ b, tst (fA A (fun s p => s &&& st p) a b) r = true ↔ tst a r = true ∧ ∀ p, p < b → A p = true → tst (st p) r = true := by
  intro b
  induction b with
  | zero => rw [fA_zero]; exact ⟨fun z => ⟨z, fun p hp => absurd hp (Nat.not_lt_zero p)⟩, fun z => z.1⟩
  | succ b ih =>
    by_cases c : A b = true
    · rw [fA_yes c, tst_and, Bool.and_eq_true, ih]
      refine ⟨fun z => ⟨z.1.1, fun p hp ha => ?_⟩, fun z => ⟨⟨z.1, fun p hp ha => z.2 p (by omega) ha⟩, z.2 b (by omega) c⟩⟩
      by_cases u : p = b
      · rw [u]; exact z.2
      · exact z.1.2 p (by omega) ha
    · rw [fA_no c, ih]
      refine ⟨fun z => ⟨z.1, fun p hp ha => ?_⟩, fun z => ⟨z.1, fun p hp ha => z.2 p (by omega) ha⟩⟩
      by_cases u : p = b
      · rw [u] at ha; exact absurd ha c
      · exact z.2 p (by omega) ha
theorem c_always {K : Int32 → VH → Prop} (h0 : 2 < d) (hI : PbI V q t n R nt fa h x cs) (s : Scd V q R nt fa) (hk1 : (∀ r, r < tcR R 2 → ¬ alB R nt fa h x r) → K (-1) V) (hk2 : ∀ r, r < tcR R 2 → alB R nt fa h x r → (∀ r', r' < r → ¬ alB R nt fa h x r') → K (nI r) V) : vMI E d M_X1_alwaysBroken [sl 0 10, sl (q + 1) 0] V K := by
  have hg := hI.2.1.1
  have p20 := hI.p20
  have hs := hI.1
  have bd := hI.bd.2
  have r24 : tcR R 2 ≤ 24 := hs.2.2.2.1.1 2 (by decide)
  obtain ⟨hd, _⟩ := hI.2.1.2.2.2.2.1.1
  refine w_X1_alwaysBroken_0 hg (by omega) ?_
  rw [hI.hnd.1, hI.2.1.2.2.2.2.2.2.2.2.2.1]
  refine c_lowest (by omega) hI.sp hI.hnd.2 ?_
  have key : ∀ r, r < 32 → (tst (fA (agR R h x) (fun s p => s &&& stQ R nt fa p) (vI V (q + 1) 9 0) (plR R)) r = true ↔ r < tcR R 2 ∧ alB R nt fa h x r) := fun r hr => by
    rw [fA_and, hd r hr]
    exact ⟨fun z => ⟨z.1.1, z.1.2, fun p hp ha => (tst_st E hs bd z.1.1 p).mp (z.2 p hp ha)⟩, fun z => ⟨⟨z.1, z.2.1⟩, fun p hp ha => (tst_st E hs bd z.1 p).mpr (z.2.2 p hp ha)⟩⟩
  have end_ : ∀ (m : Nat) (y : Int32), vwp E d M_X1_alwaysBroken 73 [some (sl 0 10), some (sl (q + 1) 0), some (wi (fA (agR R h x) (fun s p => s &&& stQ R nt fa p) (vI V (q + 1) 9 0) (plR R))), some (wi y), some (wi (nI m))] [] V (zi K) := fun m y => by
    generalize fA (agR R h x) (fun s p => s &&& stQ R nt fa p) (vI V (q + 1) 9 0) (plR R) = w at *
    refine w_X1_alwaysBroken_73 hg (by omega) ⟨fun z => ?_, fun z => hk1 (fun r hr c => ?_)⟩
    · cases e : fsb (tst w) 32 with
      | none => exact absurd ((tst_eq0 w).mpr (fsb_all e)) z
      | some k =>
        have kl := fsb_lt e
        obtain ⟨a1, a2⟩ := (key k kl).mp (fsb_true e)
        exact c_ntz kl (fsb_true e) (fsb_min e) (hk2 k a1 a2 (fun r' hr' c => by
          have := (key r' (by omega)).mpr ⟨by omega, c⟩
          rw [fsb_min e r' hr'] at this
          exact absurd this (by decide)))
    · have := (key r (by omega)).mpr ⟨hr, c⟩
      rw [z, tst_z] at this
      exact absurd this (by decide)
  refine en_loop (fx := tst x) (h := h) (f := fun s p => s &&& stQ R nt fa p) (a := vI V (q + 1) 9 0) hI.sp.pos hI.hnd.2 (fun c m s => vwp E d M_X1_alwaysBroken 27 [some (sl 0 10), some (sl (q + 1) 0), some (wi s), some (wi (cuI c)), some (wi (nI m))] [] V (zi K)) (fun m => ?_) (fun p m s' hp hm ha ih => ?_)
  · exact w_X1_alwaysBroken_27 hg (by omega) ⟨fun _ => end_ m _, fun _ => ⟨fun _ => end_ m _, fun z => absurd (by decide) z⟩⟩
  · have hp : p < plR R := hp
    refine w_X1_alwaysBroken_27 hg (by omega) ⟨fun z => absurd z (by rw [hI.sp.2.2.2.1]; exact nI_ge (show m < plR R by omega) (by show plR R < _; omega)), fun _ => ⟨fun z => absurd z (nI_pos (by omega)), fun _ => c_setOf hg s.1 hp ?_⟩⟩
    rw [hI.2.1.2.2.2.2.2.2.2.2.2.1]
    refine c_following (by omega) hI.sp hp (fun e => ?_) (fun q' e => ?_)
    · rw [e] at ih; rw [nI_1]; exact ih
    · rw [e] at ih; rw [nI_1]; exact ih
theorem i24 (q r : Nat) : (24 : Int32) * nI q + nI r = nI (24 * q + r) := by rw [show (24 : Int32) = nI 24 from rfl, nI_mul, nI_add]
theorem hop_in {r : Nat} {K : Int32 → VH → Prop} (h0 : 2 < d) (hm : KnM V q t n R nt fa h x cs) (hr : r < tcR R 2) (r24 : tcR R 2 ≤ 24) (hk0 : (∀ p, p < plR R → agR R h x p = true → ¬ brk R nt fa r p = 0) → ∀ y, vwp E d M_X12_hopeless 102 [some (sl 6 0), some (wi (nI q)), some (wi (nI r)), some (wi 0), some (wi y)] [] V (zi K)) (hk1 : ∀ p, p < plR R → agR R h x p = true → brk R nt fa r p = 0 → ∀ y, vwp E d M_X12_hopeless 102 [some (sl 6 0), some (wi (nI q)), some (wi (nI r)), some (wi 1), some (wi y)] [] V (zi K)) : ∀ m p, p + m = plR R → (∀ p', p' < p → agR R h x p' = true → ¬ brk R nt fa r p' = 0) → vwp E d M_X12_hopeless 49 [some (sl 6 0), some (wi (nI q)), some (wi (nI r)), some (wi 0), some (wi (nI p))] [] V (zi K) := by
  have p20 := hm.p20
  have q5 := hm.q5
  have pl := hm.pl
  intro m
  induction m with
  | zero =>
    intro p e ok
    have : p = plR R := by omega
    subst this
    refine w_X12_hopeless_49 (by omega) ⟨fun z => absurd rfl z, fun _ => ?_⟩
    rw [nI_clamp (show q < 2 ^ 31 by omega), pl]
    exact ⟨vp_in_nI q5 (by decide), fun _ => hk0 ok _, fun z => absurd (nI_le (Nat.le_refl _) (by omega)) z⟩
  | succ m ih =>
    intro p e ok
    have hp : p < plR R := by omega
    refine w_X12_hopeless_49 (by omega) ⟨fun z => absurd rfl z, fun _ => ?_⟩
    rw [nI_clamp (show q < 2 ^ 31 by omega), pl, i20k, nI_clamp (show 20000 * r + p < 2 ^ 31 by omega), (hm.2 p hp).1 r hr]
    have go : (agR R h x p = true → ¬ brk R nt fa r p = 0) → vwp E d M_X12_hopeless 94 [some (sl 6 0), some (wi (nI q)), some (wi (nI r)), some (wi 0), some (wi (nI p))] [] V (zi K) := fun c => by
      refine w_X12_hopeless_94 (w_X12_hopeless_95 ?_)
      rw [nI_1]
      refine ih (p + 1) (by omega) (fun p' hp' ha => ?_)
      by_cases u : p' = p
      · rw [u] at ha ⊢; exact c ha
      · exact ok p' (by omega) ha
    refine ⟨vp_in_nI q5 (by decide), fun z => absurd z (nI_ge hp (by omega)), fun _ => ⟨vp_in_nI (by omega) (by decide), fun z => go (fun _ => z), fun z => c_isAllowed (by omega) hm.sq hm.hq hm.pq (by omega) ⟨fun y => go (fun a => ?_), fun y => w_X12_hopeless_95 (w_X12_hopeless_49 (by omega) ⟨fun _ => hk1 p hp (bI_1.mp y) z _, fun z => absurd z (by decide)⟩)⟩⟩⟩
    rw [bI_0] at y
    rw [show agR R h x p = false from y] at a
    exact absurd a (by decide)
theorem hop_go {K : Int32 → VH → Prop} (h0 : 3 < d) (hm : KnM V q t n R nt fa h x cs) (r24 : tcR R 2 ≤ 24) (hk1 : (∀ r, r < tcR R 2 → ¬ alB R nt fa h x r) → K (-1) V) (hk2 : ∀ r, r < tcR R 2 → alB R nt fa h x r → (∀ r', r' < r → ¬ alB R nt fa h x r') → K (nI r) V) : ∀ m r, r + m = tcR R 2 → (∀ r', r' < r → ¬ alB R nt fa h x r') → vwp E d M_X12_hopeless 17 [some (sl 6 0), some (wi (nI q)), some (wi (nI r)), none, none] [] V (zi K) := by
  have q5 := hm.q5
  have n14 : vI V 6 14 (4 * q + 2) = nI (tcR R 2) := (hm.1.1.2.2.1.1 2 (by decide)).1
  intro m
  induction m with
  | zero =>
    intro r e ok
    exact w_X12_hopeless_17 (by omega) (c_rulesOf q5 n14 ⟨fun _ => hk1 (fun r' hr' => ok r' (by omega)), fun z => absurd (nI_le (show tcR R 2 ≤ r by omega) (by omega)) z⟩)
  | succ m ih =>
    intro r e ok
    have hr : r < tcR R 2 := by omega
    have lv : vI V 6 24 (24 * q + r) = lvR R r := (hm.1.1.2.2.2.2.2.2.1.1 r hr).1
    have nx : ¬ alB R nt fa h x r → ∀ y, vwp E d M_X12_hopeless 102 [some (sl 6 0), some (wi (nI q)), some (wi (nI r)), some (wi 1), some (wi y)] [] V (zi K) := fun c y => by
      refine w_X12_hopeless_102 ⟨fun _ => ?_, fun z => absurd z (by decide)⟩
      rw [nI_1]
      refine ih (r + 1) (by omega) (fun r' hr' => ?_)
      by_cases u : r' = r
      · rw [u]; exact c
      · exact ok r' (by omega)
    refine w_X12_hopeless_17 (by omega) (c_rulesOf q5 n14 ⟨fun z => absurd z (nI_ge hr (by omega)), fun _ => ?_⟩)
    rw [i24, nI_clamp (show 24 * q + r < 2 ^ 31 by omega), lv]
    refine ⟨vp_in_nI (by omega) (by decide), fun z => w_X12_hopeless_45 (hop_in (by omega) hm hr r24 (fun c y => w_X12_hopeless_102 ⟨fun w => absurd rfl w, fun _ => hk2 r hr ⟨z, c⟩ ok⟩) (fun p hp ha c y => nx (fun a => a.2 p hp ha c) y) (plR R) 0 (Nat.zero_add _) (fun p hp => absurd hp (Nat.not_lt_zero p))), fun z => w_X12_hopeless_45 (w_X12_hopeless_49 (by omega) ⟨fun _ => nx (fun a => z a.1) _, fun w => absurd w (by decide)⟩)⟩
/-- the vars that a rule names -/
theorem rule_vars {r : Nat} {K : Int32 → VH → Prop} (hs : PrS t n R nt) (hm : MiQ V q t n R fa h x cs) (hr : r < tcR R 2) (hk : K (gtR R 2 r).sv V) : ∀ (m j : Nat), j + m = (gtR R 2 r).i1 → (gtR R 2 r).b ≤ j → vwp E d M_X12_rule 71 [some (sl 6 0), some (wi (nI q)), some (wi (nI r)), some (wi 2), some (wi (svx (tkT t n) (MR R) (gtR R 2 r).b j)), some (wi (nI (20000 * q + j)))] [] V (zi K) := by
  obtain ⟨k1, k2, k3, k4⟩ := hs.sv hr
  obtain ⟨_, _, _, b1, b2, b3, b4⟩ := hs.rule hr
  have q5 : q < 5 := hm.1.1
  obtain ⟨kp, _⟩ := hm.1.2.2.2.1
  have hL := hs.L.2
  generalize (gtR R 2 r).i1 = i1 at *
  generalize (gtR R 2 r).b = b at *
  intro m
  induction m with
  | zero =>
    intro j e hb
    have : j = i1 := by omega
    subst this
    obtain ⟨y1, _⟩ := kp j (by omega) (by omega)
    refine w_X12_rule_71 ?_
    rw [nI_clamp (show 20000 * q + j < 2 ^ 31 by omega), y1, k1]
    exact ⟨vp_in_nI (by omega) (by decide), fun _ => by rw [k2] at hk; exact hk, fun z => absurd rfl z⟩
  | succ m ih =>
    intro j e hb
    obtain ⟨y1, y2, _⟩ := kp j (by omega) (by omega)
    obtain ⟨z1, z2⟩ := k4 j hb (by omega)
    have i := ih (j + 1) (by omega) (by omega)
    rw [← svx_tr hb (Nat.le_succ j), svx_1] at i
    have c16 : (tkT t n j).1 < 65536 := by
      obtain ⟨x1, _⟩ := tkT_ok t n j
      have := of_decide_eq_true x1
      omega
    refine w_X12_rule_71 ?_
    rw [nI_clamp (show 20000 * q + j < 2 ^ 31 by omega), y1, y2]
    have vp : vp_in (nI (20000 * q + j)) 100000 := vp_in_nI (by omega) (by decide)
    refine ⟨vp, fun w => absurd ((nI_eq (b := 59) (by omega) (by decide)).mp w) z2, fun _ => ⟨vp, fun w => w_X12_rule_123 (w_X12_rule_124 ?_), fun w => ?_⟩⟩
    · have c : (tkT t n j).1 ≠ 1 := fun c => w (by rw [c]; rfl)
      rw [show vbt (tkT t n) (MR R) j = 0 by unfold vbt; rw [if_neg c]] at i
      rw [nI_1]; exact i
    · have c : (tkT t n j).1 = 1 := (nI_eq (b := 1) (by omega) (by decide)).mp w
      obtain ⟨y, ey, y2⟩ := z1 c
      have nv : nuv (tkT t n) (MR R) j = nI (100 * y.1 + y.2) := by unfold nuv; rw [if_pos c, ey]; rfl
      have vb : vbt (tkT t n) (MR R) j = if y.1 = 1 then (1 : Int32) <<< (nI y.2 &&& 31) else 0 := by unfold vbt; rw [if_pos c, ey]
      obtain ⟨lt, _⟩ := lku_lt ey
      rw [nv]
      rw [vb] at i
      have y24 : y.2 < 24 := by
        obtain ⟨_, l2, _⟩ := lku_lt ey
        have := hs.2.2.2.1.1 y.1 (by omega)
        unfold moK at this
        split at this
        · omega
        · split at this
          · omega
          · split at this <;> omega
      refine ⟨vp, fun u => w_X12_rule_123 (w_X12_rule_124 ?_), fun u => ⟨vp, w_X12_rule_124 ?_⟩⟩
      · have : y.1 ≠ 1 := fun e1 => by
          rw [e1] at u
          exact absurd u (Int32.not_lt.mpr (nI_le (a := 100) (by omega) (by omega)))
        rw [if_neg this] at i
        rw [nI_1]; exact i
      · have : y.1 = 1 := by
          by_cases e1 : y.1 = 1
          · exact e1
          · exfalso
            have e0 : y.1 = 0 := by omega
            rw [e0] at u
            exact u (nI_lt (b := 100) (by omega) (by decide))
        rw [if_pos this] at i
        rw [this, show nI (100 * 1 + y.2) - 100 = nI y.2 from by rw [show (100 : Int32) = nI 100 from rfl, nI_sub (by omega)]; congr 1; omega, nI_1]
        exact i
theorem evb_tst (st : Nat → Int32) (r : Nat) : ∀ b, tst (evb st b) r = true ↔ ∃ p, p < b ∧ tst (st p) r = true := by
  intro b
  induction b with
  | zero => rw [evb, tst_z]; exact ⟨fun z => absurd z (by decide), fun ⟨p, hp, _⟩ => absurd hp (Nat.not_lt_zero p)⟩
  | succ b ih =>
    rw [evb, tst_or, Bool.or_eq_true, ih]
    refine ⟨fun z => ?_, fun ⟨p, hp, e⟩ => ?_⟩
    · rcases z with ⟨p, hp, e⟩ | e
      · exact ⟨p, by omega, e⟩
      · exact ⟨b, by omega, e⟩
    · by_cases u : p = b
      · rw [u] at e; exact Or.inr e
      · exact Or.inl ⟨p, by omega, e⟩
theorem rule_ev {r : Nat} {K : Int32 → VH → Prop} (hs : PrS t n R nt) (bd : Bds (tcR R 0) fa) (hm : KnM V q t n R nt fa h x cs) (hr : r < tcR R 2) (hk : K (if tst (evb (stQ R nt fa) (plR R)) r = true then 1 else 0) V) : ∀ m p, p + m = plR R → vwp E d M_X12_rule 154 [some (sl 6 0), some (wi (nI q)), some (wi (nI r)), some (wi 3), some (wi (if tst (evb (stQ R nt fa) p) r = true then 1 else 0)), some (wi (nI p))] [] V (zi K) := by
  have p20 := hm.p20
  have q5 := hm.q5
  have pl := hm.pl
  have r24 : tcR R 2 ≤ 24 := hs.2.2.2.1.1 2 (by decide)
  intro m
  induction m with
  | zero =>
    intro p e
    have : p = plR R := by omega
    subst this
    refine w_X12_rule_154 ?_
    rw [nI_clamp (show q < 2 ^ 31 by omega), pl]
    exact ⟨vp_in_nI q5 (by decide), fun _ => hk, fun z => absurd (nI_le (Nat.le_refl _) (by omega)) z⟩
  | succ m ih =>
    intro p e
    have hp : p < plR R := by omega
    have i := ih (p + 1) (by omega)
    rw [evb, tst_or] at i
    refine w_X12_rule_154 ?_
    rw [nI_clamp (show q < 2 ^ 31 by omega), pl, i20k, nI_clamp (show 20000 * r + p < 2 ^ 31 by omega), (hm.2 p hp).1 r hr]
    refine ⟨vp_in_nI q5 (by decide), fun z => absurd z (nI_ge hp (by omega)), fun _ => ⟨vp_in_nI (by omega) (by decide), fun z => w_X12_rule_187 ?_, fun z => w_X12_rule_187 ?_⟩⟩
    · have c : tst (stQ R nt fa p) r = false := Bool.eq_false_iff.mpr (fun c => (tst_st E hs bd hr p).mp c ((brk_0 E hs bd hr p).mp z))
      rw [c, Bool.or_false] at i
      rw [nI_1]; exact i
    · have c : tst (stQ R nt fa p) r = true := (tst_st E hs bd hr p).mpr (fun c => z ((brk_0 E hs bd hr p).mpr c))
      rw [c, Bool.or_true, if_pos rfl] at i
      rw [nI_1]; exact i
end
section
variable {E : EE} {d x B B' : Nat}
theorem o_hopeless (h0 : 190 < d) (hB : B ≤ B') : VO_hopeless E d (JA x B) (JA x B') := fun V a0 hJ => liftI hJ (fun hW hS => by
  rcases hS.inQ a0 with ⟨hP, hM⟩ | ⟨q, t, n, R, nt, fa, h, px, cs, hq, rfl, hI⟩
  · exact nul_hopeless (J := fun V2 => WF V2 → JS B' V2) (by omega) hW hP hM (fun _ => hS.mono hB)
  · have r24 : tcR R 2 ≤ 24 := hI.1.2.2.2.1.1 2 (by decide)
    refine w_X11_hopeless_0 (by omega) (c_scoredQ (by omega) hW hq hS hI (fun V1 hS1 hI1 s1 => ⟨fun _ => ⟨hI1.2.1.1.2, ?_⟩, fun z => absurd hI1.2.1.1.1 z⟩))
    have ref : ∀ (c : Int32), ((∀ r, r < tcR R 2 → ¬ alB R nt fa h px r) → c = -1) → (∀ r, r < tcR R 2 → alB R nt fa h px r → (∀ r', r' < r → ¬ alB R nt fa h px r') → c = nI r) → vMI E d M_X12_hopeless [sl 6 0, wi (nI q)] V1 (fun r' V2 => c = r' ∧ (WF V2 → JS B' V2)) := fun c c1 c2 =>
      w_X12_hopeless_0 (by omega) (c_isProblem_y hI1.mi hq ⟨fun _ => know_end (by omega) hq hS1 hI1 Fc.refl (fun V2 f2 w mi2 hI2 hS2 => hop_go (E := E) (d := d) (K := fun r' V2 => c = r' ∧ (WF V2 → JS B' V2)) (by omega) ⟨mi2, w⟩ r24 (fun z => ⟨c1 z, fun _ => hS2.mono hB⟩) (fun r hr z1 z2 => ⟨c2 r hr z1 z2, fun _ => hS2.mono hB⟩) (tcR R 2) 0 (Nat.zero_add _) (fun r hr => absurd hr (Nat.not_lt_zero r))), fun w => absurd w (by decide)⟩)
    refine c_always (by omega) hI1 s1 (fun z => ref _ (fun _ => rfl) (fun r hr z1 _ => absurd z1 (z r hr))) (fun r hr z1 z2 => ref _ (fun z => absurd z1 (z r hr)) (fun r' hr' y1 y2 => ?_))
    have : r = r' := by
      rcases Nat.lt_trichotomy r r' with z | z | z
      · exact absurd z1 (y2 r z)
      · exact z
      · exact absurd y1 (z2 r' z)
    rw [this])
theorem o_rule (h0 : 190 < d) (hB : B ≤ B') : VO_rule E d (JA x B) (JA x B') := fun V a0 a1 a2 hJ => liftI hJ (fun hW hS => by
  rcases hS.inQ a0 with ⟨hP, hM⟩ | ⟨q, t, n, R, nt, fa, h, px, cs, hq, rfl, hI⟩
  · exact nul_rule (J := fun V2 => WF V2 → JS B' V2) (by omega) hW hP hM (fun _ => hS.mono hB)
  · have r24 : tcR R 2 ≤ 24 := hI.1.2.2.2.1.1 2 (by decide)
    have fin : ∀ (r : Int32), r = r ∧ (WF V → JS B' V) := fun r => ⟨rfl, fun _ => hS.mono hB⟩
    refine w_X11_rule_0 (by omega) (c_known_y hI hq ⟨fun z => absurd hI.2.1.1.1 z, fun _ => ⟨hI.2.1.1.2, c_isRuleC hI (fun hn => ⟨fun z => absurd rfl z, fun _ => ?_⟩) (fun u hu e => ⟨fun _ => ?_, fun z => absurd z (by decide)⟩)⟩⟩)
    · exact w_X12_rule_0 (by omega) (c_isRuleM (by omega) hI.1 hI.mi hq (fun _ => ⟨fun z => absurd rfl z, fun _ => fin _⟩) (fun u hu e => absurd e (hn u hu)))
    · subst e
      obtain ⟨⟨p1, _⟩, p11, p12⟩ := hI.2.1.2.2.2.2.2.1.1 u hu
      obtain ⟨m24, m25, m26⟩ := hI.2.2.1.2.2.2.2.2.2.1.1 u hu
      rw [nI_clamp (show u < 2 ^ 31 by omega)]
      refine ⟨fun z => ⟨vp_in_nI (by omega) (by decide), ?_⟩, fun z => ⟨vp_in_nI (by omega) (by decide), ?_⟩, fun z => ⟨vp_in_nI (by omega) (by decide), ?_⟩, fun z => ?_, fun z1 z2 z3 z4 => ?_⟩
      · refine w_X12_rule_0 (by omega) (c_isRuleM (by omega) hI.1 hI.mi hq (fun w => absurd rfl (w u hu)) (fun _ _ _ => ⟨fun _ => ⟨fun _ => w_X12_rule_20 ⟨fun w => absurd z w, fun _ => ?_⟩, fun w => absurd z w⟩, fun w => absurd w (by decide)⟩))
        rw [i24, nI_clamp (show 24 * q + u < 2 ^ 31 by omega), m24]
        exact ⟨vp_in_nI (by omega) (by decide), by rw [p1]; rfl, fun _ => hS.mono hB⟩
      · refine w_X12_rule_0 (by omega) (c_isRuleM (by omega) hI.1 hI.mi hq (fun w => absurd rfl (w u hu)) (fun _ _ _ => ⟨fun _ => ⟨fun w => absurd (z.symm.trans w) (by decide), fun _ => ⟨fun w => absurd z w, fun _ => w_X12_rule_20 ⟨fun _ => ?_, fun w => absurd (z.symm.trans w) (by decide)⟩⟩⟩, fun w => absurd w (by decide)⟩))
        rw [i24, nI_clamp (show 24 * q + u < 2 ^ 31 by omega), m25]
        exact ⟨vp_in_nI (by omega) (by decide), by rw [p11], fun _ => hS.mono hB⟩
      · refine w_X12_rule_0 (by omega) (c_isRuleM (by omega) hI.1 hI.mi hq (fun w => absurd rfl (w u hu)) (fun _ _ _ => ⟨fun _ => ⟨fun w => absurd (z.symm.trans w) (by decide), fun _ => ⟨fun _ => ⟨fun w => absurd z w, fun _ => ?_⟩, fun w => absurd (z.symm.trans w) (by decide)⟩⟩, fun w => absurd w (by decide)⟩))
        rw [i24, nI_clamp (show 24 * q + u < 2 ^ 31 by omega), m26]
        refine ⟨vp_in_nI (by omega) (by decide), ?_⟩
        obtain ⟨_, _, k3, _⟩ := hI.1.sv hu
        have go := rule_vars (E := E) (d := d) (K := fun r' V2 => (gtR R 2 u).sv = r' ∧ (WF V2 → JS B' V2)) hI.1 hI.mi hu ⟨rfl, fun _ => hS.mono hB⟩ ((gtR R 2 u).i1 - (gtR R 2 u).b) (gtR R 2 u).b (by omega) (Nat.le_refl _)
        rw [svx_self] at go
        rw [p12, z]
        exact go
      · refine c_renewQ (by omega) hW hq hS hI (fun V1 hS1 hI1 s1 => ?_)
        rw [s1.2, bit_is _ (by omega)]
        refine w_X12_rule_0 (by omega) (c_isRuleM (by omega) hI1.1 hI1.mi hq (fun w => absurd rfl (w u hu)) (fun _ _ _ => ⟨fun _ => ⟨fun w => absurd (z.symm.trans w) (by decide), fun _ => ⟨fun _ => ⟨fun _ => ⟨fun _ => know_end (by omega) hq hS1 hI1 Fc.refl (fun V2 f2 w mi2 hI2 hS2 => ?_), fun w => absurd z w⟩, fun w => absurd (z.symm.trans w) (by decide)⟩, fun w => absurd (z.symm.trans w) (by decide)⟩⟩, fun w => absurd w (by decide)⟩))
        have go := rule_ev (E := E) (d := d) (K := fun r' V2 => (if tst (evb (stQ R nt fa) (plR R)) u = true then 1 else 0) = r' ∧ (WF V2 → JS B' V2)) hI.1 hI.bd.2 ⟨mi2, w⟩ hu ⟨rfl, fun _ => hS2.mono hB⟩ (plR R) 0 (Nat.zero_add _)
        rw [show evb (stQ R nt fa) 0 = 0 from rfl, tst_z, if_neg (by decide)] at go
        rw [z]
        exact go
      · exact w_X12_rule_0 (by omega) (c_isRuleM (by omega) hI.1 hI.mi hq (fun w => absurd rfl (w u hu)) (fun _ _ _ => ⟨fun _ => ⟨fun w => absurd w z1, fun _ => ⟨fun _ => ⟨fun _ => ⟨fun w => absurd w z4, fun _ => fin _⟩, fun w => absurd w z3⟩, fun w => absurd w z2⟩⟩, fun w => absurd w (by decide)⟩)))
end
