/-! clash, fewest: both -/
theorem low_clear {x : Int32} {k : Nat} (hk : k < 32) (h : tst x k = true) (hl : ∀ i, i < k → tst x i = false) : ∀ i, i < 32 → tst (x &&& (x - 1)) i = (tst x i && decide (i ≠ k)) := by
  have tb : ∀ i, x.toBitVec.toNat.testBit i = tst x i := fun i => rfl
  generalize ex : x.toBitVec.toNat = X at tb
  have hp : 0 < 2 ^ k := Nat.two_pow_pos k
  have m0 : X % 2 ^ k = 0 := by
    apply Nat.eq_of_testBit_eq
    intro i
    rw [Nat.testBit_mod_two_pow, Nat.zero_testBit]
    by_cases c : i < k
    · rw [tb i, hl i c, Bool.and_false]
    · rw [decide_eq_false c, Bool.false_and]
  have mo : X / 2 ^ k % 2 = 1 := by
    have := tb k
    rw [h, Nat.testBit_eq_decide_div_mod_eq] at this
    exact of_decide_eq_true this
  have eX : X = 2 ^ k * (X / 2 ^ k) := by
    have := Nat.mod_add_div X (2 ^ k)
    rw [m0, Nat.zero_add] at this
    exact this.symm
  have hX : 1 ≤ X := by
    rcases Nat.eq_zero_or_pos X with z | z
    · rw [z, Nat.zero_div] at mo; exact absurd mo (by decide)
    · exact z
  have e1 : X - 1 = 2 ^ k * (X / 2 ^ k - 1) + (2 ^ k - 1) := by
    have : 2 ^ k * (X / 2 ^ k) = 2 ^ k * (X / 2 ^ k - 1) + 2 ^ k := by
      generalize X / 2 ^ k = Y at mo
      rw [← Nat.mul_succ, Nat.succ_eq_add_one, Nat.sub_add_cancel (by omega)]
    omega
  have es : (x - 1).toBitVec.toNat = X - 1 := by
    rw [i_sub x 1 (by rw [ex]; exact hX), ex]; rfl
  intro i hi
  have ti : tst (x - 1) i = (X - 1).testBit i := by rw [← es]; rfl
  rw [tst_and, ti, e1, Nat.testBit_two_pow_mul_add _ (by omega)]
  by_cases c : i < k
  · rw [if_pos c, hl i c]; rfl
  · rw [if_neg c]
    by_cases c2 : i = k
    · subst c2
      rw [decide_eq_false (fun z => z rfl), Bool.and_false, Nat.sub_self, Nat.testBit_zero]
      generalize X / 2 ^ i = Y at mo
      rw [decide_eq_false (by omega), Bool.and_false]
    · have : (X / 2 ^ k - 1).testBit (i - k) = tst x i := by
        rw [← tb i]
        have e2 : i = i - k - 1 + 1 + k := by omega
        have e3 : i - k = i - k - 1 + 1 := by omega
        generalize i - k - 1 = j at e2 e3
        have e4 : X.testBit (j + 1 + k) = (X / 2 ^ k).testBit (j + 1) := Nat.testBit_add ..
        rw [e3, e2, e4]
        generalize X / 2 ^ k = Y at mo
        rw [Nat.testBit_succ, Nat.testBit_succ]
        congr 1
        omega
      rw [this, decide_eq_true c2]
      cases tst x i <;> rfl
theorem pop_less {x : Int32} (h : x ≠ 0) : pop (x &&& (x - 1)) + 1 = pop x := by
  cases e : fsb (tst x) 32 with
  | none => exact absurd ((tst_eq0 x).mpr (fsb_all e)) h
  | some k =>
    have kl := fsb_lt e
    have lc := low_clear kl (fsb_true e) (fsb_min e)
    have kf : tst (x &&& (x - 1)) k = false := by rw [lc k kl, decide_eq_false (fun z => z rfl), Bool.and_false]
    rw [← pop_or kl kf]
    congr 1
    refine tst_ext (fun v hv => ?_)
    rw [tst_or, lc v hv, tst_one kl hv]
    by_cases c : v = k
    · rw [c, fsb_true e, decide_eq_true rfl, Bool.or_true]
    · rw [decide_eq_true c, decide_eq_false c, Bool.and_true, Bool.or_false]
theorem pop_0 {x : Int32} (h : pop x = 0) : x = 0 := by
  by_cases c : x = 0
  · exact c
  · have := pop_less c; omega
section
variable {E : EE} {d : Nat} {V V' V1 V2 W : VH} {q B : Nat} {t : Nat → Int32} {n : Nat} {R : List SR} {nt fa : Nat → Int32} {h h' : Nat} {x b : Int32} {cs : Nat → Int32}
theorem c_bits {y : Int32} {K : Int32 → VH → Prop} (hk : K (nI (pop y)) V) : vMI E d M_X12_bits [wi y] V K := by
  have go : ∀ m (z : Int32) (c : Nat), pop z = m → c + pop z = pop y → vwp E d M_X12_bits 4 [some (wi y), some (wi (nI c)), some (wi z)] [] V (zi K) := by
    intro m
    induction m with
    | zero =>
      intro z c e e2
      refine w_X12_bits_4 ⟨fun _ => ?_, fun w => absurd (pop_0 e) w⟩
      rw [show c = pop y by omega]; exact hk
    | succ m ih =>
      intro z c e e2
      refine w_X12_bits_4 ⟨fun w => ?_, fun w => ?_⟩
      · rw [w, show pop (0 : Int32) = 0 from cnt_none (fun i _ => tst_z i)] at e
        omega
      · have := pop_less w
        rw [nI_1]
        exact ih _ (c + 1) (by omega) (by omega)
  exact w_X12_bits_0 (go (pop y) y 0 rfl (Nat.zero_add _))
/-- rules that may go, one by one -/
def nar (R : List SR) (nt fa : Nat → Int32) (L : List Nat) (a : Int32) : Nat → Int32
  | 0 => a
  | h + 1 => if clB R nt fa L (lss (nar R nt fa L a h) h) = true then lss (nar R nt fa L a h) h else nar R nt fa L a h
theorem nar_s {L : List Nat} {a : Int32} {h : Nat} : nar R nt fa L a (h + 1) = if clB R nt fa L (lss (nar R nt fa L a h) h) = true then lss (nar R nt fa L a h) h else nar R nt fa L a h := by rw [nar]
theorem bI_2 {b : Bool} (h : b = true) : ¬ bI b = 0 := bI_1.mpr h
theorem c_narrowed {K : Int32 → VH → Prop} {W0 : VH} (h0 : 5 < d) (hW : WF V) (hJ : JS B V) (hI : PbI V q t n R nt fa h x cs) (s : Scd V q R nt fa) (hk : ∀ W V', JS B W → PbI W q t n R nt fa h x cs → Fc W V' seR → K (if clB R nt fa (apL R h x) (nI (2 ^ (HL R).length - 1)) = true then bnI (HL R) (nar R nt fa (apL R h x) (nI (2 ^ (HL R).length - 1)) (HL R).length) (HL R).length else 0) V') : vMI E d M_X1_narrowed [sl 0 10, sl (q + 1) 0] V K := by
  have h12 := HL_12 hI.1 hI.2.1.2.2.2.2.1.1
  refine w_X1_narrowed_0 hI.2.1.1 (by omega) (c_lookAtSets (by omega) hW hJ hI s (fun W V1 hJW hIW f1 sf => c_isClash h12 sf ?_))
  have hk := hk W V1 hJW hIW f1
  have hg1 : PG (vL V1) (q + 1) := by rw [f1.l]; exact hIW.2.1.1
  refine ⟨fun z => ?_, fun z => ?_⟩
  · rw [if_pos (bI_1.mp z)] at hk
    have go : ∀ m k, k + m = (HL R).length → vwp E d M_X1_narrowed 22 [some (sl 0 10), some (sl (q + 1) 0), some (wi (nI (2 ^ (HL R).length - 1))), some (wi (nar R nt fa (apL R h x) (nI (2 ^ (HL R).length - 1)) k)), some (wi (nI k)), none] [] V1 (zi K) := by
      intro m
      induction m with
      | zero =>
        intro k e
        have : k = (HL R).length := by omega
        subst this
        exact w_X1_narrowed_22 hg1 (by omega) ⟨fun _ => c_byNumber h12 sf.1 hk, fun z => absurd (by rw [sf.1.1]; exact nI_le (Nat.le_refl _) (by omega)) z⟩
      | succ m ih =>
        intro k e
        have i := ih (k + 1) (by omega)
        rw [nar_s] at i
        refine w_X1_narrowed_22 hg1 (by omega) ⟨fun z => absurd z (by rw [sf.1.1]; exact nI_ge (by omega) (by omega)), fun _ => c_isClash h12 sf ⟨fun z => w_X1_narrowed_54 hg1 ?_, fun z => w_X1_narrowed_54 hg1 ?_⟩⟩
        · have z : clB R nt fa (apL R h x) (lss (nar R nt fa (apL R h x) (nI (2 ^ (HL R).length - 1)) k) k) = false := bI_0.mp z
          rw [if_neg (by rw [z]; decide)] at i
          rw [nI_1]; exact i
        · have z : clB R nt fa (apL R h x) (lss (nar R nt fa (apL R h x) (nI (2 ^ (HL R).length - 1)) k) k) = true := bI_1.mp z
          rw [if_pos z] at i
          rw [nI_1]; exact i
    exact go (HL R).length 0 (Nat.zero_add _)
  · rw [if_neg (by rw [bI_0.mp z]; decide)] at hk
    exact hk
theorem clash_go {K : Int32 → VH → Prop} {L : List Nat} {a : Int32} (h0 : 1 < d) (h12 : (HL R).length ≤ 12) (ms : MsM V R nt fa L) (hk : K (bnI (HL R) (nar R nt fa L a (HL R).length) (HL R).length) V) : ∀ m k, k + m = (HL R).length → vwp E d M_X12_clash 36 [some (sl 6 0), some (wi (nI q)), some (wi (nar R nt fa L a k)), some (wi (nI k)), none] [] V (zi K) := by
  intro m
  induction m with
  | zero =>
    intro k e
    have : k = (HL R).length := by omega
    subst this
    exact w_X12_clash_36 (by omega) ⟨fun _ => c_numberOf h12 ms hk, fun z => absurd (by rw [ms.1]; exact nI_le (Nat.le_refl _) (by omega)) z⟩
  | succ m ih =>
    intro k e
    have i := ih (k + 1) (by omega)
    rw [nar_s] at i
    refine w_X12_clash_36 (by omega) ⟨fun z => absurd z (by rw [ms.1]; exact nI_ge (by omega) (by omega)), fun _ => c_clashes h12 ms ⟨fun z => w_X12_clash_68 ?_, fun z => w_X12_clash_68 ?_⟩⟩
    · have z : clB R nt fa L (lss (nar R nt fa L a k) k) = false := bI_0.mp z
      rw [if_neg (by rw [z]; decide)] at i
      rw [nI_1]; exact i
    · have z : clB R nt fa L (lss (nar R nt fa L a k) k) = true := bI_1.mp z
      rw [if_pos z] at i
      rw [nI_1]; exact i
/-- the reference's masks, behind the class's part; the end -/
theorem c_masks {K : VH → Prop} {V4 : VH} (h0 : 180 < d) (hq : q < 4) (hJ : JS B W) (hI : PbI W q t n R nt fa h x cs) (f4 : Fc W V4 seR) (hk : ∀ V2, KnM V2 q t n R nt fa h x cs → MsM V2 R nt fa (apL R h x) → JS B V2 → K V2) : vMV E d M_X12_findMasks [sl 6 0, wi (nI q)] V4 K := by
  have h12 := HL_12 hI.1 hI.2.1.2.2.2.2.1.1
  have n6 : ∀ f j, ¬ seR 6 f j := fun f j y => absurd y.1 (by decide)
  refine w_X12_findMasks_0 (by omega) (know_go (by omega) hI f4 n6 (fun V2 f2 w mi2 e1 e2 V3 e3 => ?_))
  have k3 : Fc V2 V3 fmk := by rw [e3]; exact Fc_wrI ⟨rfl, Or.inl ⟨rfl, rfl⟩⟩
  have kn3 : KnM V3 q t n R nt fa h x cs := KnM.fc ⟨mi2, w⟩ hI.1 k3 (fun f j y => by have := y.2; omega)
  refine masks_go (by omega) hI.1 kn3 h12 (fun V5 f5 ms => hk V5 (kn3.fc hI.1 f5 (fun f j y => by have := y.2; omega)) ms ?_) (by rw [e3, wrI_at])
  have f35 := k3.trans f5
  have kn5 := kn3.fc hI.1 f5 (fun f j y => by have := y.2; omega)
  have k : Fc W V5 (enK q) := ((f4.mono (fun a f j y => ⟨Or.inr (Or.inr ⟨y.1, by have := y.2; omega⟩), fun z => by have := y.2; omega, fun z => by have := y.1; omega⟩)).trans (f2.mono (fun a f j y => waS_ek y))).trans (f35.mono (fun a f j y => ⟨Or.inr (Or.inl ⟨y.1, by have := y.2; omega⟩), fun z => by have := y.1; omega, fun z => by have := y.2; omega⟩))
  refine (hJ.ek hI hq k kn5.2 (by rw [f35.i (fun y => by have := y.2; omega)]; exact e1) (by rw [f35.i (fun y => by have := y.2; omega)]; exact e2) ⟨?_, hI.hnd.2⟩ kn5.hq).1
  rw [f35.i (fun y => by have := y.1; omega), f2.i (fun y => by rcases y with ⟨y, _⟩ | ⟨y, _⟩ <;> omega), f4.i (fun y => by have := y.1; omega)]
  exact hI.hnd.1
end
section
variable {E : EE} {d x B B' : Nat}
theorem o_clash (h0 : 190 < d) (hB : B ≤ B') : VO_clash E d (JA x B) (JA x B') := fun V a0 hJ => liftI hJ (fun hW hS => by
  rcases hS.inQ a0 with ⟨hP, hM⟩ | ⟨q, t, n, R, nt, fa, h, px, cs, hq, rfl, hI⟩
  · exact nul_clash (J := fun V2 => WF V2 → JS B' V2) (by omega) hW hP hM (fun _ => hS.mono hB)
  · have h12 := HL_12 hI.1 hI.2.1.2.2.2.2.1.1
    have p0 : 0 < 2 ^ (HL R).length := Nat.two_pow_pos _
    refine w_X11_clash_0 (by omega) (c_scoredW (by omega) hW hq hS hI (fun V1 hW1 hS1 hI1 s1 => ⟨fun _ => ⟨hI1.2.1.1.2, c_narrowed (W0 := V1) (by omega) hW1 hS1 hI1 s1 (fun W V4 hSW hIW f4 => ?_)⟩, fun z => absurd hI1.2.1.1.1 z⟩))
    have mi := hIW.mi.fc hIW.1 f4 (fun f j y => absurd y.1 (by decide))
    refine w_X12_clash_0 (by omega) (c_isProblem_y mi hq ⟨fun _ => c_masks (by omega) hq hSW hIW f4 (fun V2 kn ms hS2 => ?_), fun w => absurd w (by decide)⟩)
    rw [ms.1, pw2 _ (by omega), show (1 : Int32) = nI 1 from rfl, nI_sub p0]
    refine c_clashes h12 ms ⟨fun z => ?_, fun z => ?_⟩
    · rw [if_pos (bI_1.mp z)]
      exact clash_go (by omega) h12 ms ⟨rfl, fun _ => hS2.mono hB⟩ (HL R).length 0 (Nat.zero_add _)
    · rw [if_neg (by rw [bI_0.mp z]; decide)]
      exact ⟨rfl, fun _ => hS2.mono hB⟩)
end
