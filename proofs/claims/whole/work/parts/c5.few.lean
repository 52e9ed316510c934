/-! fewest, relax -/
/-- the first of the least among numbers below m -/
def gfT (P : Nat → Bool) (w : Nat → Nat) (o : Option Nat) (m : Nat) : Option Nat := match o with
  | none => if P m = true then some m else none
  | some c => if (P m && decide (w m < w c)) = true then some m else some c
def gfS (P : Nat → Bool) (w : Nat → Nat) : Nat → Option Nat
  | 0 => none
  | m + 1 => gfT P w (gfS P w m) m
theorem gfS_s {P : Nat → Bool} {w : Nat → Nat} {m : Nat} : gfS P w (m + 1) = gfT P w (gfS P w m) m := by rw [gfS]
theorem gfS_is {P : Nat → Bool} {w : Nat → Nat} : ∀ m, (gfS P w m = none → ∀ j, j < m → P j = false) ∧ ∀ c, gfS P w m = some c → c < m ∧ P c = true ∧ ∀ j, j < m → P j = true → w c < w j ∨ w c = w j ∧ c ≤ j := by
  intro m
  induction m with
  | zero => exact ⟨fun _ j hj => absurd hj (Nat.not_lt_zero j), fun c z => by rw [gfS] at z; exact absurd z (by simp)⟩
  | succ m ih =>
    obtain ⟨i1, i2⟩ := ih
    rw [gfS_s]
    cases o : gfS P w m with
    | none =>
      have i1 := i1 o
      show ((if P m = true then some m else none) = none → _) ∧ ∀ c, (if P m = true then some m else none) = some c → _
      by_cases p : P m = true
      · rw [if_pos p]
        refine ⟨fun z => absurd z (by simp), fun c z => ?_⟩
        rw [← Option.some.inj z]
        refine ⟨Nat.lt_succ_self m, p, fun j hj hp => ?_⟩
        by_cases q : j = m
        · rw [q]; exact Or.inr ⟨rfl, Nat.le_refl m⟩
        · rw [i1 j (by omega)] at hp; exact Bool.noConfusion hp
      · rw [if_neg p]
        refine ⟨fun _ j hj => ?_, fun c z => absurd z (by simp)⟩
        by_cases q : j = m
        · rw [q]
          cases r : P m with
          | false => rfl
          | true => exact absurd r p
        · exact i1 j (by omega)
    | some c0 =>
      obtain ⟨a1, a2, a3⟩ := i2 c0 o
      show ((if (P m && decide (w m < w c0)) = true then some m else some c0) = none → _) ∧ ∀ c, (if (P m && decide (w m < w c0)) = true then some m else some c0) = some c → _
      by_cases p : (P m && decide (w m < w c0)) = true
      · rw [if_pos p]
        rw [Bool.and_eq_true, decide_eq_true_iff] at p
        refine ⟨fun z => absurd z (by simp), fun c z => ?_⟩
        rw [← Option.some.inj z]
        refine ⟨Nat.lt_succ_self m, p.1, fun j hj hp => ?_⟩
        by_cases q : j = m
        · rw [q]; exact Or.inr ⟨rfl, Nat.le_refl m⟩
        · have := a3 j (by omega) hp; omega
      · rw [if_neg p]
        refine ⟨fun z => absurd z (by simp), fun c z => ?_⟩
        rw [← Option.some.inj z]
        refine ⟨by omega, a2, fun j hj hp => ?_⟩
        by_cases q : j = m
        · rw [q] at hp ⊢
          rw [hp, Bool.true_and, decide_eq_true_iff] at p
          omega
        · exact a3 j (by omega) hp
section
variable {E : EE} {d : Nat} {V V' V1 V2 W : VH} {q B : Nat} {t : Nat → Int32} {n : Nat} {R : List SR} {nt fa : Nat → Int32} {h h' : Nat} {x b : Int32} {cs : Nat → Int32}
abbrev fwP (R : List SR) (nt fa : Nat → Int32) (L : List Nat) (m : Nat) : Bool := clB R nt fa L (nI m)
abbrev fwW (m : Nat) : Nat := pop (nI m)
def ofI (o : Option Nat) : Int32 := match o with
  | none => 0
  | some c => nI c
theorem pop12 {m : Nat} (h : m < 2 ^ 12) : pop (nI m) ≤ 12 := by
  have e : pop (nI m) = cnt (tst (nI m)) 12 := cnt_more (by decide) (fun i h1 h2 => nI_out h h1 h2)
  rw [e]; exact cnt_le _ _
theorem clB_0 {L : List Nat} {p : Nat} (hp : p ∈ L) : clB R nt fa L (nI 0) = false := by
  cases c : clB R nt fa L (nI 0) with
  | false => rfl
  | true =>
    obtain ⟨v, _, _, z⟩ := clB_iff.mp c p hp
    rw [show nI 0 = 0 from rfl, tst_z] at z; exact Bool.noConfusion z
theorem c_smallest {K : Int32 → VH → Prop} (h0 : 5 < d) (hW : WF V) (hJ : JS B V) (hI : PbI V q t n R nt fa h x cs) (s : Scd V q R nt fa) (hk : ∀ W V', JS B W → PbI W q t n R nt fa h x cs → Fc W V' seR → K (bnI (HL R) (ofI (gfS (fwP R nt fa (apL R h x)) fwW (2 ^ (HL R).length))) (HL R).length) V') : vMI E d M_X1_smallest [sl 0 10, sl (q + 1) 0] V K := by
  have h12 := HL_12 hI.1 hI.2.1.2.2.2.2.1.1
  have p2 := two12 h12
  have p0 : 0 < 2 ^ (HL R).length := Nat.two_pow_pos _
  refine w_X1_smallest_0 hI.2.1.1 (by omega) (c_lookAtSets (by omega) hW hJ hI s (fun W V1 hJW hIW f1 sf => ?_))
  have hk := hk W V1 hJW hIW f1
  have hg1 : PG (vL V1) (q + 1) := by rw [f1.l]; exact hIW.2.1.1
  have go : ∀ r k (x4 : Int32), k + r = 2 ^ (HL R).length → (gfS (fwP R nt fa (apL R h x)) fwW k = none → x4 = 13) → (∀ c, gfS (fwP R nt fa (apL R h x)) fwW k = some c → x4 = nI (pop (nI c))) → vwp E d M_X1_smallest 15 [some (sl 0 10), some (sl (q + 1) 0), some (wi (nI (2 ^ (HL R).length - 1))), some (wi (ofI (gfS (fwP R nt fa (apL R h x)) fwW k))), some (wi x4), some (wi (nI k)), none] [] V1 (zi K) := by
    intro r
    induction r with
    | zero =>
      intro k x4 e _ _
      have ek : k = 2 ^ (HL R).length := by omega
      refine w_X1_smallest_15 hg1 (by omega) ⟨fun _ => c_byNumber h12 sf.1 (by rw [ek]; exact hk), fun z => absurd ?_ z⟩
      exact Int32.not_le.mp (nI_ge (by omega) (by omega))
    | succ r ih =>
      intro k x4 e c0 c1
      have hk2 : k < 2 ^ (HL R).length := by omega
      have b12 := pop12 (show k < 2 ^ 12 by omega)
      have iN := fun y1 y2 => ih (k + 1) x4 (by omega) y1 y2
      have iY := fun y1 y2 => ih (k + 1) (nI (pop (nI k))) (by omega) y1 y2
      rw [gfS_s] at iN iY
      have no : gfT (fwP R nt fa (apL R h x)) fwW (gfS (fwP R nt fa (apL R h x)) fwW k) k = gfS (fwP R nt fa (apL R h x)) fwW k → ∀ x6 : Int32, vwp E d M_X1_smallest 55 [some (sl 0 10), some (sl (q + 1) 0), some (wi (nI (2 ^ (HL R).length - 1))), some (wi (ofI (gfS (fwP R nt fa (apL R h x)) fwW k))), some (wi x4), some (wi (nI k)), some (wi x6)] [] V1 (zi K) := fun eq x6 => by
        refine w_X1_smallest_55 hg1 ?_
        rw [nI_1]
        rw [eq] at iN
        exact iN c0 c1
      have yes : gfT (fwP R nt fa (apL R h x)) fwW (gfS (fwP R nt fa (apL R h x)) fwW k) k = some k → vwp E d M_X1_smallest 55 [some (sl 0 10), some (sl (q + 1) 0), some (wi (nI (2 ^ (HL R).length - 1))), some (wi (nI k)), some (wi (nI (pop (nI k)))), some (wi (nI k)), some (wi (nI (pop (nI k))))] [] V1 (zi K) := fun eq => by
        refine w_X1_smallest_55 hg1 ?_
        rw [nI_1]
        rw [eq] at iY
        exact iY (fun z => absurd z (by simp)) (fun c z => by rw [← Option.some.inj z])
      refine w_X1_smallest_15 hg1 (by omega) ⟨fun z => absurd z (Int32.not_lt.mpr (nI_le (by omega) (by omega))), fun _ => c_bitCount ⟨fun z => ?_, fun z => c_isClash h12 sf ⟨fun y => ?_, fun y => ?_⟩⟩⟩
      · cases o : gfS (fwP R nt fa (apL R h x)) fwW k with
        | none => rw [c0 o] at z; exact absurd z (nI_ge (b := 13) (by omega) (by decide))
        | some c =>
          have ob := pop12 (show c < 2 ^ 12 by have := ((gfS_is k).2 c o).1; omega)
          rw [o] at no
          refine no ?_ _
          show (if (fwP R nt fa (apL R h x) k && decide (pop (nI k) < pop (nI c))) = true then some k else some c) = some c
          rw [decide_eq_false (fun w => by rw [c1 c o] at z; exact absurd z (nI_ge w (by omega))), Bool.and_false]; rfl
      · have y : fwP R nt fa (apL R h x) k = true := bI_1.mp y
        refine yes ?_
        cases o : gfS (fwP R nt fa (apL R h x)) fwW k with
        | none => show (if fwP R nt fa (apL R h x) k = true then some k else none) = some k; rw [if_pos y]
        | some c =>
          have ob := pop12 (show c < 2 ^ 12 by have := ((gfS_is k).2 c o).1; omega)
          show (if (fwP R nt fa (apL R h x) k && decide (pop (nI k) < pop (nI c))) = true then some k else some c) = some k
          rw [y, decide_eq_true (Nat.lt_of_not_le (fun w => z (by rw [c1 c o]; exact nI_le w (by omega))))]; rfl
      · have y : fwP R nt fa (apL R h x) k = false := bI_0.mp y
        refine no ?_ _
        cases o : gfS (fwP R nt fa (apL R h x)) fwW k with
        | none => show (if fwP R nt fa (apL R h x) k = true then some k else none) = none; rw [y]; rfl
        | some c =>
          show (if (fwP R nt fa (apL R h x) k && decide (pop (nI k) < pop (nI c))) = true then some k else some c) = some c
          rw [y]; rfl
  have g1 : gfS (fwP R nt fa (apL R h x)) fwW 1 = none := by
    rw [gfS_s]
    show (if fwP R nt fa (apL R h x) 0 = true then some 0 else none) = none
    rw [show fwP R nt fa (apL R h x) 0 = false from clB_0 (ap_h hI.1 hI.hnd.2)]; rfl
  have := go (2 ^ (HL R).length - 1) 1 13 (by omega) (fun _ => rfl) (fun c z => by rw [g1] at z; exact absurd z (by simp))
  rw [g1] at this
  exact this
theorem fewest_go {K : Int32 → VH → Prop} {L : List Nat} (h0 : 1 < d) (h12 : (HL R).length ≤ 12) (ms : MsM V R nt fa L) (hk : K (bnI (HL R) (ofI (gfS (fwP R nt fa L) fwW (2 ^ (HL R).length))) (HL R).length) V) : ∀ r k, k + r = 2 ^ (HL R).length → vwp E d M_X12_fewest 22 [some (sl 6 0), some (wi (nI q)), some (wi (ofI (gfS (fwP R nt fa L) fwW k))), some (wi (oI (gfS (fwP R nt fa L) fwW k))), some (wi (nI k))] [] V (zi K) := by
  have p2 := two12 h12
  intro r
  induction r with
  | zero =>
    intro k e
    have ek : k = 2 ^ (HL R).length := by omega
    refine w_X12_fewest_22 (by omega) ?_
    rw [ms.1, pw2 _ (by omega)]
    refine ⟨fun _ => ?_, fun z => absurd (nI_le (by omega) (by omega)) z⟩
    rw [ek]
    cases o : gfS (fwP R nt fa L) fwW (2 ^ (HL R).length) with
    | none =>
      rw [o] at hk
      refine ⟨fun _ => ?_, fun z => absurd rfl z⟩
      have e0 : bnI (HL R) (ofI none) (HL R).length = 0 := bnI_0 _
      rw [e0] at hk; exact hk
    | some c =>
      rw [o] at hk
      exact ⟨fun z => absurd z (show ¬ (1 : Int32) = 0 by decide), fun _ => c_numberOf h12 ms hk⟩
  | succ r ih =>
    intro k e
    have hk2 : k < 2 ^ (HL R).length := by omega
    have b12 := pop12 (show k < 2 ^ 12 by omega)
    have i := ih (k + 1) (by omega)
    rw [gfS_s] at i
    have try_ : ∀ o, gfS (fwP R nt fa L) fwW k = o → (∀ c, o = some c → pop (nI k) < pop (nI c)) → vwp E d M_X12_fewest 49 [some (sl 6 0), some (wi (nI q)), some (wi (ofI o)), some (wi (oI o)), some (wi (nI k))] [] V (zi K) := fun o eo lt => by
      rw [eo] at i
      refine w_X12_fewest_49 (by omega) (c_clashes h12 ms ⟨fun z => w_X12_fewest_63 ?_, fun z => w_X12_fewest_63 ?_⟩)
      · have z : fwP R nt fa L k = false := bI_0.mp z
        have et : gfT (fwP R nt fa L) fwW o k = o := by
          cases o with
          | none => show (if fwP R nt fa L k = true then some k else none) = none; rw [z]; rfl
          | some c => show (if (fwP R nt fa L k && decide (pop (nI k) < pop (nI c))) = true then some k else some c) = some c; rw [z]; rfl
        rw [et] at i
        rw [nI_1]; exact i
      · have z : fwP R nt fa L k = true := bI_1.mp z
        have et : gfT (fwP R nt fa L) fwW o k = some k := by
          cases o with
          | none => show (if fwP R nt fa L k = true then some k else none) = some k; rw [z]; rfl
          | some c => show (if (fwP R nt fa L k && decide (pop (nI k) < pop (nI c))) = true then some k else some c) = some k; rw [z, decide_eq_true (lt c rfl)]; rfl
        rw [et] at i
        rw [nI_1]; exact i
    refine w_X12_fewest_22 (by omega) ?_
    rw [ms.1, pw2 _ (by omega)]
    refine ⟨fun z => absurd z (nI_ge hk2 (by omega)), fun _ => ?_⟩
    cases o : gfS (fwP R nt fa L) fwW k with
    | none => exact ⟨fun _ => try_ none o (fun c z => absurd z (by simp)), fun z => absurd rfl z⟩
    | some c =>
      have ob := pop12 (show c < 2 ^ 12 by have := ((gfS_is k).2 c o).1; omega)
      refine ⟨fun z => absurd z (show ¬ (1 : Int32) = 0 by decide), fun _ => c_bits (c_bits ⟨fun z => w_X12_fewest_63 ?_, fun z => try_ (some c) o (fun c' ec => ?_)⟩)⟩
      · rw [o] at i
        have z : nI (pop (nI c)) ≤ nI (pop (nI k)) := z
        have et : gfT (fwP R nt fa L) fwW (some c) k = some c := by
          show (if (fwP R nt fa L k && decide (pop (nI k) < pop (nI c))) = true then some k else some c) = some c
          rw [decide_eq_false (fun w => absurd z (nI_ge w (by omega))), Bool.and_false]; rfl
        rw [et] at i
        rw [nI_1]; exact i
      · rw [← Option.some.inj ec]
        have z : ¬ nI (pop (nI c)) ≤ nI (pop (nI k)) := z
        exact Nat.lt_of_not_le (fun w => z (nI_le w (by omega)))
end
section
variable {E : EE} {d x B B' : Nat}
theorem o_fewest (h0 : 190 < d) (hB : B ≤ B') : VO_fewest E d (JA x B) (JA x B') := fun V a0 hJ => liftI hJ (fun hW hS => by
  rcases hS.inQ a0 with ⟨hP, hM⟩ | ⟨q, t, n, R, nt, fa, h, px, cs, hq, rfl, hI⟩
  · exact nul_fewest (J := fun V2 => WF V2 → JS B' V2) (by omega) hW hP hM (fun _ => hS.mono hB)
  · have h12 := HL_12 hI.1 hI.2.1.2.2.2.2.1.1
    refine w_X11_fewest_0 (by omega) (c_scoredW (by omega) hW hq hS hI (fun V1 hW1 hS1 hI1 s1 => ⟨fun _ => ⟨hI1.2.1.1.2, c_smallest (by omega) hW1 hS1 hI1 s1 (fun W V4 hSW hIW f4 => ?_)⟩, fun z => absurd hI1.2.1.1.1 z⟩))
    have mi := hIW.mi.fc hIW.1 f4 (fun f j y => absurd y.1 (by decide))
    refine w_X12_fewest_0 (by omega) (c_isProblem_y mi hq ⟨fun _ => c_masks (by omega) hq hSW hIW f4 (fun V2 kn ms hS2 => ?_), fun w => absurd w (by decide)⟩)
    exact fewest_go (by omega) h12 ms ⟨rfl, fun _ => hS2.mono hB⟩ (2 ^ (HL R).length) 0 (Nat.zero_add _))
end
