/-! rows of the store: what they say; the class takes it over -/
theorem shr_0 {y k : Nat} (hy : y < 2 ^ 31) (hk : k < 32) : nI y >>> (nI k &&& 31) = 0 ↔ y < 2 ^ k := by
  rw [← Int32.toBitVec_inj, sh_bit _ hk]
  have m : (nI y).toBitVec.msb = false := by
    rw [BitVec.msb_eq_false_iff_two_mul_lt]
    show 2 * (BitVec.ofNat 32 y).toNat < 2 ^ 32
    rw [BitVec.toNat_ofNat, Nat.mod_eq_of_lt (by omega)]
    omega
  have e : ((nI y).toBitVec.sshiftRight k).toNat = y / 2 ^ k := by
    rw [BitVec.toNat_sshiftRight_of_msb_false m]
    show (BitVec.ofNat 32 y).toNat >>> k = _
    rw [BitVec.toNat_ofNat, Nat.mod_eq_of_lt (by omega), Nat.shiftRight_eq_div_pow]
  constructor
  · intro z
    have := congrArg BitVec.toNat z
    rw [e] at this
    have this : y / 2 ^ k = 0 := this
    exact (Nat.div_eq_zero_iff_lt (Nat.two_pow_pos k)).mp this
  · intro z
    apply BitVec.eq_of_toNat_eq
    rw [e, Nat.div_eq_of_lt z]
    rfl
theorem numS_pkb {t : Nat → Int32} {lo : Nat} : ∀ n, n ≤ 8 → numS t lo n 0 = nL (pkb (fun j => bt t (lo + j)) n) := by
  intro n
  induction n with
  | zero => intro _; rw [numS_zero]; rfl
  | succ n ih =>
    intro h
    unfold numS
    rw [List.range'_1_concat, List.foldl_append]
    have i := ih (by omega)
    unfold numS at i
    show (List.foldl _ 0 (List.range' lo n) <<< (Int32.toInt64 8 &&& 63)) ||| Int32.toInt64 (t (lo + n) &&& 255) = _
    rw [i, bt_nI, pkb_step (bt_lt t (lo + n))]
    rfl
theorem l2i_nq (m : Nat) : Int64.toInt32 (nL m) = nI m := by
  refine Int32.toBitVec_inj.mp ?_
  show (BitVec.ofNat 64 m).signExtend 32 = BitVec.ofNat 32 m
  rw [BitVec.signExtend_eq_setWidth_of_le _ (by decide)]
  apply BitVec.eq_of_toNat_eq
  rw [BitVec.toNat_setWidth, BitVec.toNat_ofNat, BitVec.toNat_ofNat, Nat.mod_mod_of_dvd _ (by decide : 2 ^ 32 ∣ 2 ^ 64)]
/-- facts, places, costs and pins that bytes b from s on say -/
def rsF (b : Nat → Nat) (s k : Nat) : Int32 := nI (pkb (fun j => b (s + 4 * k + j)) 4)
def rsP (b : Nat → Nat) (s : Nat) (R : List SR) (v : Nat) : Option Nat := fsb (fun k => decide (vlR R v k = i2b (nI (b (s + 4 * tcR R 0 + 3 * v))))) (szR R v)
def rsC (b : Nat → Nat) (s : Nat) (R : List SR) (v : Nat) : Nat := pkb (fun j => b (s + 4 * tcR R 0 + 3 * v + 1 + j)) 2
def rsX (b : Nat → Nat) (s : Nat) (R : List SR) : Nat := pkb (fun j => b (s + 4 * tcR R 0 + 3 * tcR R 1 + j)) 2
def RsOK (b : Nat → Nat) (s : Nat) (R : List SR) : Prop := (∀ k, k < tcR R 0 → Bd (rsF b s k)) ∧ (∀ v, v < tcR R 1 → rsP b s R v ≠ none ∧ rsC b s R v ≤ 1000) ∧ rsX b s R < 2 ^ tcR R 1
def rsK (b : Nat → Nat) (s : Nat) (R : List SR) (v : Nat) : Nat := (rsP b s R v).getD 0
theorem rsK_is {b : Nat → Nat} {s : Nat} {R : List SR} {v : Nat} (h : rsP b s R v ≠ none) : rsP b s R v = some (rsK b s R v) ∧ rsK b s R v < szR R v := by
  unfold rsK
  cases e : rsP b s R v with
  | none => exact absurd e h
  | some k => exact ⟨rfl, fsb_lt e⟩
section
variable {E : EE} {d : Nat} {V V' V1 V2 : VH} {q B g : Nat} {R : List SR}
def rsS (g a f j : Nat) : Prop := a = g ∧ (f = 23 ∨ f = 24 ∨ f = 0 ∧ (j = 8 ∨ j = 9))
theorem bd_iff {y : Int32} : ¬ y < -9999 → y ≤ 9999 → Bd y := fun h1 h2 => by
  rw [Int32.lt_iff_toInt_lt, show (-9999 : Int32).toInt = -9999 by decide] at h1
  rw [Int32.le_iff_toInt_le, show (9999 : Int32).toInt = 9999 by decide] at h2
  exact ⟨by omega, h2⟩
theorem bd_no {y : Int32} (h : Bd y) : ¬ y < -9999 ∧ y ≤ 9999 := by
  rw [Int32.lt_iff_toInt_lt, show (-9999 : Int32).toInt = -9999 by decide, Int32.le_iff_toInt_le, show (9999 : Int32).toInt = 9999 by decide]
  exact ⟨by have := h.1; omega, h.2⟩
theorem c_restore {b1 c1 N s : Nat} {K : Int32 → VH → Prop} (h0 : 2 < d) (hB : Byt V b1 c1 N) (hne : b1 ≠ g) (hS : Sp V g (tcR R 1) (szR R) (vlR R)) (n4 : vI V g 4 0 = nI (tcR R 0)) (n16 : tcR R 0 ≤ 16) (h8 : vI V g 0 8 = nI 0) (hr : s + 4 * tcR R 0 + 3 * tcR R 1 + 2 ≤ N)
    (hk0 : ¬ RsOK (bt (vI V b1 (c1 + 1))) s R → ∀ V', Fc V V' (rsS g) → K 0 V')
    (hk1 : RsOK (bt (vI V b1 (c1 + 1))) s R → ∀ V' h, Fc V V' (rsS g) → (∀ k, k < tcR R 0 → vI V' g 23 k = rsF (bt (vI V b1 (c1 + 1))) s k) → vI V' g 0 8 = nI h → h < plR R → (∀ v, v < tcR R 1 → Dg (szR R) (tcR R 1) v h = rsK (bt (vI V b1 (c1 + 1))) s R v) → (∀ v, vI V' g 24 v = if v < tcR R 1 then nI (rsC (bt (vI V b1 (c1 + 1))) s R v) else vI V g 24 v) → vI V' g 0 9 = nI (rsX (bt (vI V b1 (c1 + 1))) s R) → K 1 V') : vMI E d M_X8_restore [sl 0 23, sl b1 c1, wi (nI s), sl g 0] V K := by
  have n12 := hS.2.2.1
  have p20 : plR R ≤ 20000 := hS.2.2.2.2.1
  have p0 : 0 < plR R := Tpos hS.pos 0
  have N6 : N ≤ 60000 := by obtain ⟨_, _, h1, _, h3⟩ := hB; omega
  have hg := hS.1
  have byw : ∀ {W}, Fc V W (rsS g) → Byt W b1 c1 N := fun f => hB.fc2 f (fun y => hne y.1)
  have row : ∀ {W}, Fc V W (rsS g) → vI W b1 (c1 + 1) = vI V b1 (c1 + 1) := fun f => funext fun j => f.i (fun y => hne y.1)
  have spw : ∀ {W}, Fc V W (rsS g) → Sp W g (tcR R 1) (szR R) (vlR R) := fun f => hS.fc f (fun f i z y => by have := y.2; omega)
  generalize eb : bt (vI V b1 (c1 + 1)) = b at *
  have bw : ∀ {W}, Fc V W (rsS g) → bt (vI W b1 (c1 + 1)) = b := fun f => by rw [row f, eb]
  have four : (4 : Int32) = nI 4 := rfl
  have three : (3 : Int32) = nI 3 := rfl
  have vars : ∀ m v W h, v + m = tcR R 1 → Fc V W (rsS g) → (∀ k, k < tcR R 0 → vI W g 23 k = rsF b s k ∧ Bd (rsF b s k)) → vI W g 0 8 = nI h → h < plR R → (∀ u, u < v → rsP b s R u ≠ none ∧ rsC b s R u ≤ 1000 ∧ Dg (szR R) (tcR R 1) u h = rsK b s R u) → (∀ u, vI W g 24 u = if u < v then nI (rsC b s R u) else vI V g 24 u) → vwp E d M_X8_restore 72 [some (sl 0 23), some (sl b1 c1), some (wi (nI s)), some (sl g 0), some (wi (nI (s + 4 * tcR R 0 + 3 * v))), some (wi (nI v)), none, none] [] W (zi K) := by
    intro m
    induction m with
    | zero =>
      intro v W h e fw hf e8 hl hd hc
      have ev : v = tcR R 1 := by omega
      subst ev
      have sw := spw fw
      refine w_X8_restore_72 (byw fw).1 sw.1 (by omega) ⟨fun _ => c_number (m := 2) (by omega) (byw fw) (by omega) ?_, fun z => absurd (by rw [sw.2.1]; exact nI_le (Nat.le_refl _) (by omega)) z⟩
      rw [numS_pkb 2 (by decide), bw fw, l2i_nq]
      intro V7 e7
      have f7 : Fc V V7 (rsS g) := fw.trans (by rw [e7]; exact Fc_wrI ⟨rfl, by omega⟩)
      have x9 : vI V7 g 0 9 = nI (rsX b s R) := by rw [e7, wrI_at]; rfl
      have xl : rsX b s R < 65536 := pkb_lt (f := fun j => b (s + 4 * tcR R 0 + 3 * tcR R 1 + j)) 2 (fun j _ => by rw [← eb]; exact bt_lt _ _)
      rw [x9, (spw f7).2.1]
      refine ⟨fun z => hk0 (fun w => z ((shr_0 (by omega) (by omega)).mpr w.2.2)) V7 f7, fun z => hk1 ⟨fun k hk => (hf k hk).2, fun v hv => ⟨(hd v hv).1, (hd v hv).2.1⟩, (shr_0 (by omega) (by omega)).mp z⟩ V7 h f7 (fun k hk => ?_) ?_ hl (fun v hv => (hd v hv).2.2) (fun v => ?_) x9⟩
      · rw [e7, wrI_ne (fun z => by omega)]; exact (hf k hk).1
      · rw [e7, wrI_ne (fun z => by omega)]; exact e8
      · rw [e7, wrI_ne (fun z => by omega)]; exact hc v
    | succ m ih =>
      intro v W h e fw hf e8 hl hd hc
      have hv : v < tcR R 1 := by omega
      have sw := spw fw
      refine w_X8_restore_72 (byw fw).1 sw.1 (by omega) ⟨fun z => absurd z (by rw [sw.2.1]; exact nI_ge hv (by omega)), fun _ => c_at_in (byw fw) (by omega) ?_⟩
      rw [bt_nI, bw fw]
      have cl : rsC b s R v < 65536 := pkb_lt (f := fun j => b (s + 4 * tcR R 0 + 3 * v + 1 + j)) 2 (fun j _ => by rw [← eb]; exact bt_lt _ _)
      have num : ∀ (K' : Int64 → VH → Prop), K' (nL (rsC b s R v)) W → vMJ E (d - 1) M_X0_number [sl b1 c1, wi (nI (s + 4 * tcR R 0 + 3 * v) + 1), wi 2] W K' := fun K' hK => by
        rw [nI_1]
        refine c_number (m := 2) (by omega) (byw fw) (by omega) ?_
        rw [numS_pkb 2 (by decide), bw fw]; exact hK
      refine c_placeOfValue sw (fun hn => num _ ⟨fun _ => hk0 (fun w => ?_) W fw, fun z => absurd (by decide) z⟩) (fun u k hu eu hk ek mn => num _ ⟨fun z => absurd z (nI_pos (by have := (sw.2.2.2.2.2 u hu).2.2.1; omega)), fun _ => ?_⟩)
      · refine (w.2.1 v hv).1 ?_
        unfold rsP
        rcases fsb_pl (sz := szR R v) (vl := vlR R v) (y := i2b (nI (b (s + 4 * tcR R 0 + 3 * v)))) with ⟨w1, _⟩ | ⟨k, hk, ek, _⟩
        · exact w1
        · exact absurd ek (hn v hv rfl k hk)
      · have uv : v = u := (nI_eq (by omega) (by omega)).mp eu
        subst uv
        have hP : rsP b s R v = some k := by
          unfold rsP
          rcases fsb_pl (sz := szR R v) (vl := vlR R v) (y := i2b (nI (b (s + 4 * tcR R 0 + 3 * v)))) with ⟨_, w2⟩ | ⟨k', hk', ek', mn', w2⟩
          · exact absurd ek (w2 k hk)
          · rw [w2]
            rcases Nat.lt_trichotomy k k' with z | z | z
            · exact absurd ek (mn' k z)
            · rw [z]
            · exact absurd ek' (mn k' z)
        have hK : rsK b s R v = k := by unfold rsK; rw [hP]; rfl
        rw [l2i_nq]
        refine ⟨fun z => ?_, fun z => hk0 (fun w => z (nI_le (b := 1000) (w.2.1 v hv).2 (by decide))) W fw⟩
        have c1000 : rsC b s R v ≤ 1000 := Nat.le_of_not_lt (fun w => absurd z (nI_ge (b := rsC b s R v) (a := 1000) w (by omega)))
        rw [e8]
        refine c_moved (by omega) sw hv (by omega) (fun V33 e33 => ⟨vp_in_nI (by omega) (by decide), fun V35 e35 => ?_⟩)
        rw [nI_clamp (show v < 2 ^ 31 by omega)] at e35
        have f33 : Fc W V33 (rsS g) := by rw [e33]; exact Fc_wrI ⟨rfl, by omega⟩
        have f35 : Fc V33 V35 (rsS g) := by rw [e35]; exact Fc_wrI ⟨rfl, by omega⟩
        rw [three, nI_add, nI_1]
        refine ih (v + 1) V35 (mvd (szR R) (tcR R 1) v k h) (by omega) (fw.trans (f33.trans f35)) (fun j hj => ⟨?_, (hf j hj).2⟩) ?_ (mvd_lt sw.pos hv hk hl) (fun u hu => ?_) (fun u => ?_)
        · rw [e35, wrI_ne (fun z => by omega), e33, wrI_ne (fun z => by omega)]; exact (hf j hj).1
        · rw [e35, wrI_ne (fun z => by omega), e33, wrI_at]
        · by_cases c : u = v
          · subst c
            rw [hP, mvd_at sw.pos hv hk, hK]
            exact ⟨by simp, c1000, rfl⟩
          · obtain ⟨d1, d2, d3⟩ := hd u (by omega)
            exact ⟨d1, d2, by rw [mvd_ne sw.pos hv hk (by omega) c]; exact d3⟩
        · by_cases c : u = v
          · subst c
            rw [e35, wrI_at, if_pos (Nat.lt_succ_self u)]
          · rw [e35, wrI_ne (fun z => c z.2.2), e33, wrI_ne (fun z => by omega), hc u]
            by_cases c2 : u < v
            · rw [if_pos c2, if_pos (by omega)]
            · rw [if_neg c2, if_neg (by omega)]
  have facts : ∀ m k W, k + m = tcR R 0 → Fc V W (rsS g) → (∀ j, j < k → vI W g 23 j = rsF b s j ∧ Bd (rsF b s j)) → (vI W g 0 8 = nI 0 ∧ ∀ u, vI W g 24 u = vI V g 24 u) → vwp E d M_X8_restore 6 [some (sl 0 23), some (sl b1 c1), some (wi (nI s)), some (sl g 0), some (wi (nI (s + 4 * k))), some (wi (nI k)), none, none] [] W (zi K) := by
    intro m
    induction m with
    | zero =>
      intro k W e fw hf ho
      have ek : k = tcR R 0 := by omega
      subst ek
      have e4 : vI W g 4 (Int32.toNatClampNeg 0) = nI (tcR R 0) := by rw [show Int32.toNatClampNeg 0 = 0 from rfl, fw.i (fun y => by have := y.2; omega)]; exact n4
      refine w_X8_restore_6 (byw fw).1 (spw fw).1 (by omega) ⟨fun _ => vars (tcR R 1) 0 W 0 (Nat.zero_add _) fw hf ho.1 p0 (fun u hu => absurd hu (Nat.not_lt_zero u)) (fun u => by rw [if_neg (Nat.not_lt_zero u)]; exact ho.2 u), fun z => absurd (by rw [e4]; exact nI_le (Nat.le_refl _) (by omega)) z⟩
    | succ m ih =>
      intro k W e fw hf ho
      have hk : k < tcR R 0 := by omega
      have e4 : vI W g 4 (Int32.toNatClampNeg 0) = nI (tcR R 0) := by rw [show Int32.toNatClampNeg 0 = 0 from rfl, fw.i (fun y => by have := y.2; omega)]; exact n4
      refine w_X8_restore_6 (byw fw).1 (spw fw).1 (by omega) ⟨fun z => absurd z (by rw [e4]; exact nI_ge hk (by omega)), fun _ => c_number (m := 4) (by omega) (byw fw) (by omega) ?_⟩
      rw [numS_pkb 4 (by decide), bw fw, l2i_nq, nI_clamp (show k < 2 ^ 31 by omega)]
      refine ⟨vp_in_nI (by omega) (by decide), fun V10 e10 => ?_⟩
      have f10 : Fc V V10 (rsS g) := fw.trans (by rw [e10]; exact Fc_wrI ⟨rfl, Or.inl rfl⟩)
      have v23 : vI V10 g 23 k = rsF b s k := by rw [e10, wrI_at]; rfl
      rw [v23]
      refine ⟨vp_in_nI (by omega) (by decide), fun z => hk0 (fun w => (bd_no (w.1 k hk)).1 z) V10 f10, fun z => ⟨vp_in_nI (by omega) (by decide), fun y => ?_, fun y => hk0 (fun w => y (bd_no (w.1 k hk)).2) V10 f10⟩⟩
      rw [four, nI_add, nI_1, show s + 4 * k + 4 = s + 4 * (k + 1) by omega]
      refine ih (k + 1) V10 (by omega) f10 (fun j hj => ?_) ⟨by rw [e10, wrI_ne (fun z => by omega)]; exact ho.1, fun u => by rw [e10, wrI_ne (fun z => by omega)]; exact ho.2 u⟩
      by_cases c : j = k
      · rw [c]; exact ⟨v23, bd_iff z y⟩
      · rw [e10, wrI_ne (fun z => c z.2.2)]; exact hf j (by omega)
  refine w_X8_restore_0 hB.1 hg ?_
  have := facts (tcR R 0) 0 V (Nat.zero_add _) Fc.refl (fun j hj => absurd hj (Nat.not_lt_zero j)) ⟨h8, fun _ => rfl⟩
  rw [Nat.mul_zero, Nat.add_zero] at this
  exact this
end
