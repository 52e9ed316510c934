/-! rows of the store: the reference reads one -/
section
variable {E : EE} {d : Nat} {V V' V1 V2 : VH} {p n : Nat} {t : Nat → Int32} {R : List SR} {b : Nat → Nat}
theorem MrR.sq (hm : MrR V p t n R) (hp : p < 5) (w : WR (tkT t n) FF (tln t n) R (tln t n)) : Sq V p (tcR R 1) (szR R) (vlR R) := by
  obtain ⟨m1, m2, m3, m4, ⟨⟨e1, e2, e3, e4⟩, m5, m6⟩, m7, m8, m9, m10⟩ := hm
  exact ⟨hp, (m3.1 1 (by decide)).1, w.1 1 (by decide), m5, w.2.2.2.1, fun v hv => by
    obtain ⟨z1, _, _, _, z5⟩ := e2 v hv
    exact ⟨z1, (w.sz hv).1, (w.sz hv).2, m10 v hv, z5⟩⟩
/-- bytes that the reference reads: of the store or of the tape -/
def Src (V : VH) (L : Nat) (b : Nat → Nat) : Prop := L ≤ 20000 ∧ ∀ i, i < L → (vI V 6 0 93 = 0 → bt (vI V 6 1) i = b i) ∧ (¬ vI V 6 0 93 = 0 → bt (vI V 6 59) i = b i)
theorem Src.fc {S : Nat → Nat → Nat → Prop} {L : Nat} (h : Src V L b) (k : Fc V V' S) (c : ∀ f j, S 6 f j → f ≠ 1 ∧ f ≠ 59 ∧ ¬ (f = 0 ∧ j = 93)) : Src V' L b := ⟨h.1, fun i hi => by
  have e1 : vI V' 6 1 = vI V 6 1 := funext fun j => k.i (fun y => (c _ _ y).1 rfl)
  have e2 : vI V' 6 59 = vI V 6 59 := funext fun j => k.i (fun y => (c _ _ y).2.1 rfl)
  rw [k.i (fun y => (c _ _ y).2.2 ⟨rfl, rfl⟩), e1, e2]
  exact h.2 i hi⟩
theorem c_byteOf {i L : Nat} {K : Int32 → VH → Prop} (h : Src V L b) (hi : i < L) (hk : K (nI (b i)) V) : vMI E d M_X12_byteOf [sl 6 0, wi (nI i)] V K := by
  have L2 := h.1
  refine w_X12_byteOf_0 ?_
  rw [nI_clamp (show i < 2 ^ 31 by omega)]
  refine ⟨fun z => ⟨vp_in_nI (by omega) (by decide), w_X12_byteOf_22 ?_⟩, fun z => ⟨vp_in_nI (by omega) (by decide), w_X12_byteOf_22 ?_⟩⟩
  · rw [bt_nI, (h.2 i hi).1 z]; exact hk
  · rw [bt_nI, (h.2 i hi).2 z]; exact hk
theorem c_numberAt {i m L : Nat} {K : Int64 → VH → Prop} (h0 : 0 < d) (h : Src V L b) (hb : ∀ j, b j < 256) (hi : i + m ≤ L) (hk : K (nL (pkb (fun j => b (i + j)) m)) V) : vMJ E d M_X12_numberAt [sl 6 0, wi (nI i), wi (nI m)] V K := by
  have L2 := h.1
  have go : ∀ k j, j + k = m → vwp E d M_X12_numberAt 5 [some (sl 6 0), some (wi (nI i)), some (wi (nI m)), some (wj (nL (pkb (fun j => b (i + j)) j))), none, some (wi (nI j))] [] V (zj K) := by
    intro k
    induction k with
    | zero =>
      intro j e
      have : j = m := by omega
      subst this
      exact w_X12_numberAt_5 h0 ⟨fun _ => hk, fun z => absurd (nI_le (Nat.le_refl _) (by omega)) z⟩
    | succ k ih =>
      intro j e
      have i2 := ih (j + 1) (by omega)
      refine w_X12_numberAt_5 h0 ⟨fun z => absurd z (nI_ge (by omega) (by omega)), fun _ => ?_⟩
      rw [nI_add]
      refine c_byteOf h (by omega) ?_
      rw [pkb_step (hb _), nI_1]
      exact i2
  exact w_X12_numberAt_0 (go m 0 (Nat.zero_add _))
theorem bt_of {y : Nat} {i : Nat} (h : y < 256) : bt (fun _ => nI y) i = y := by
  unfold bt
  show ((BitVec.ofNat 32 y) &&& 255#32).toNat = y
  rw [BitVec.toNat_and, BitVec.toNat_ofNat, Nat.mod_eq_of_lt (by omega)]
  show y &&& (2 ^ 8 - 1) = y
  rw [Nat.and_two_pow_sub_one_eq_mod, Nat.mod_eq_of_lt h]
/-- a row's sum -/
def smW (b : Nat → Nat) (s k : Nat) : Int64 := sumS (fun i => nI (b i)) s k 0
def ndR (n : Nat) (R : List SR) : Nat := 3 + n + (4 * tcR R 0 + 3 * tcR R 1 + 2) + 8
def rrM (p a f j : Nat) : Prop := mpS p a f j ∧ ¬ (f = 0 ∧ (j = 1 ∨ j = 4)) ∧ ¬ (f = 2)
theorem rdM_rr {q a f j : Nat} (y : rdM q a f j) : rrM q a f j := ⟨rdM_mp y, fun z => by rcases y with ⟨_, y⟩ | ⟨_, y⟩ | ⟨_, y⟩ <;> omega, fun z => by rcases y with ⟨_, y⟩ | ⟨_, y⟩ | ⟨_, y⟩ <;> omega⟩
theorem of_rr {q f j w : Nat} (e : wM f = w) (h1 : 3 ≤ f) (h2 : f ≤ 33) (h3 : w * q ≤ j) (h4 : j < w * q + w) : rrM q 6 f j := ⟨⟨rfl, Or.inr (Or.inr (Or.inr ⟨h1, h2, by rw [e]; exact h3, by rw [e]; exact h4⟩))⟩, fun z => by omega, fun z => by omega⟩
theorem rrM_s {q f j : Nat} (y : rrM q 6 f j) : f ≠ 1 ∧ f ≠ 59 ∧ f ≠ 60 ∧ ¬ (f = 0 ∧ (j = 93 ∨ 62 ≤ j)) := by
  obtain ⟨⟨_, y⟩, y2, y3⟩ := y
  rcases y with y | y | y | y
  · omega
  · omega
  · omega
  · have := y.1; have := y.2.1; omega
/-- cells of the row's values -/
def rrD (p a f j : Nat) : Prop := a = 6 ∧ (f = 15 ∧ 16 * p ≤ j ∧ j < 16 * p + 16 ∨ (f = 19 ∨ f = 20 ∨ f = 21) ∧ 12 * p ≤ j ∧ j < 12 * p + 12)
theorem rrD_rr {a f j : Nat} (y : rrD p a f j) : rrM p a f j := by
  obtain ⟨rfl, ⟨rfl, y1, y2⟩ | ⟨y0, y1, y2⟩⟩ := y
  · exact of_rr (w := 16) rfl (by decide) (by decide) y1 y2
  · rcases y0 with rfl | rfl | rfl <;> exact of_rr (w := 12) rfl (by decide) (by decide) y1 y2
/-- what of a row at s, whose text has N bytes, is refused or taken -/
def RrF (b : Nat → Nat) (s e N : Nat) (t : Nat → Int32) : Prop := e < s + 3 ∨ b s ≠ 211 ∨ e < s + 3 + N ∨ (∃ z, rdx (tkT t N) FF (N + 1) = .inl z) ∨ ∃ R, rdx (tkT t N) FF (N + 1) = .inr (tln t N, R) ∧ (e < s + ndR N R ∨ ¬ RsOK b (s + 3 + N) R)
def RrY (b : Nat → Nat) (s e N : Nat) (t : Nat → Int32) (R : List SR) : Prop := s + 3 ≤ e ∧ b s = 211 ∧ s + 3 + N ≤ e ∧ rdx (tkT t N) FF (N + 1) = .inr (tln t N, R) ∧ s + ndR N R ≤ e ∧ RsOK b (s + 3 + N) R
theorem MrR.need {K : Int32 → VH → Prop} (h0 : 0 < d) (hm : MrR V p t n R) (hp : p < 5) (w : WR (tkT t n) FF (tln t n) R (tln t n)) (hk : K (nI (ndR n R)) V) : vMI E d M_X12_needOf [sl 6 0, wi (nI p)] V K := by
  have e4 : vI V 6 4 p = nI n := hm.2.1
  have e14 : vI V 6 14 (4 * p) = nI (tcR R 0) := (hm.2.2.1.1 0 (by decide)).1
  refine w_X12_needOf_0 h0 ?_
  rw [nI_clamp (show p < 2 ^ 31 by omega), e4, show (4 : Int32) = nI 4 from rfl, nI_mul, nI_clamp (show 4 * p < 2 ^ 31 by omega), e14, nI_mul]
  refine ⟨vp_in_nI hp (by decide), vp_in_nI (by omega) (by decide), c_vars (hm.sq hp w) ?_⟩
  rw [show (3 : Int32) = nI 3 from rfl, show (2 : Int32) = nI 2 from rfl, show (8 : Int32) = nI 8 from rfl, nI_mul, nI_add, nI_add, nI_add, nI_add, nI_add, show 3 + n + 4 * tcR R 0 + 3 * tcR R 1 + 2 + 8 = ndR n R by unfold ndR; omega]
  exact hk
/-- behind the text: facts, values, pins, sum -/
theorem rr_go {s e N : Nat} {K : Int32 → VH → Prop} (h0 : 1 < d) (hp : p < 5) (hl6 : vL V 6 = true) (hN21 : vN V 6 21 = 60) (hs : Src V e b) (hb : ∀ j, b j < 256) (he : e ≤ 20000) (hq : Sq V p (tcR R 1) (szR R) (vlR R)) (h14 : vI V 6 14 (4 * p) = nI (tcR R 0)) (n16 : tcR R 0 ≤ 16) (hend : s + ndR N R ≤ e)
    (hk0 : ¬ RsOK b (s + 3 + N) R → ∀ V', Fc V V' (rrD p) → K (-1) V')
    (hk1 : RsOK b (s + 3 + N) R → ∀ V', Fc V V' (rrD p) → (∀ k, k < tcR R 0 → vI V' 6 15 (16 * p + k) = rsF b (s + 3 + N) k) → (∀ v, v < tcR R 1 → vI V' 6 19 (12 * p + v) = nI (rsK b (s + 3 + N) R v) ∧ vI V' 6 20 (12 * p + v) = nI (rsC b (s + 3 + N) R v) ∧ vI V' 6 21 (12 * p + v) = bI (tst (nI (rsX b (s + 3 + N) R)) v)) → K (if nL (pkb (fun j => b (s + ndR N R - 8 + j)) 8) = smW b s (ndR N R - 8) then nI (s + ndR N R) else -1) V') : vwp E d M_X12_readRow 135 [some (sl 6 0), some (wi (nI s)), some (wi (nI e)), some (wi (nI p)), some (wi (nI N)), some (wi (nI (s + 3 + N))), some (wi 0), none, none, none] [] V (zi K) := by
  generalize ea : s + 3 + N = a at *
  have nd : s + ndR N R = a + 4 * tcR R 0 + 3 * tcR R 1 + 10 := by unfold ndR; omega
  have n12 := hq.2.2.1
  have sqw : ∀ {W}, Fc V W (rrD p) → Sq W p (tcR R 1) (szR R) (vlR R) := fun f => hq.fc f (fun f j y z => by have := z.2; omega)
  have srw : ∀ {W}, Fc V W (rrD p) → Src W e b := fun f => hs.fc f (fun f j y => by have := y.2; omega)
  have four : (4 : Int32) = nI 4 := rfl
  have three : (3 : Int32) = nI 3 := rfl
  -- the sum
  have sums : ∀ m k W (x6 : Int32) (y : Int64), k + m = ndR N R - 8 → Fc V W (rrD p) → y = smW b s k → RsOK b a R → (∀ k, k < tcR R 0 → vI W 6 15 (16 * p + k) = rsF b a k) → (∀ v, v < tcR R 1 → vI W 6 19 (12 * p + v) = nI (rsK b a R v) ∧ vI W 6 20 (12 * p + v) = nI (rsC b a R v) ∧ vI W 6 21 (12 * p + v) = bI (tst (nI (rsX b a R)) v)) → vwp E d M_X12_readRow 371 [some (sl 6 0), some (wi (nI s)), some (wi (nI e)), some (wi (nI p)), some (wi (nI N)), some (wi (nI (s + ndR N R - 8))), some (wi x6), some (wj y), none, some (wi (nI (s + k)))] [] W (zi K) := by
    intro m
    induction m with
    | zero =>
      intro k W x6 y ek fw ey ok h15 hv
      have e2 : s + ndR N R - 8 = s + k := by omega
      refine w_X12_readRow_371 (by omega) ⟨fun _ => c_numberAt (m := 8) (by omega) (srw fw) hb (by omega) ?_, fun z => absurd (nI_le (by omega) (by omega)) z⟩
      have := hk1 ok W fw h15 hv
      refine ⟨fun z => ?_, fun z => ?_⟩
      · rw [if_neg (fun w => z (by rw [w, ey, show ndR N R - 8 = k by omega]))] at this
        exact this
      · rw [if_pos (by rw [z, ey, show ndR N R - 8 = k by omega])] at this
        rw [show (8 : Int32) = nI 8 from rfl, nI_add, show s + ndR N R - 8 + 8 = s + ndR N R by omega]
        exact this
    | succ m ih =>
      intro k W x6 y ek fw ey ok h15 hv
      refine w_X12_readRow_371 (by omega) ⟨fun z => absurd z (nI_ge (by omega) (by omega)), fun _ => c_byteOf (srw fw) (by omega) (c_mixed ?_)⟩
      rw [nI_1, Nat.add_assoc]
      refine ih (k + 1) W x6 _ (by omega) fw ?_ ok h15 hv
      rw [ey]
      unfold smW sumS
      rw [List.range'_1_concat, List.foldl_append]
      rfl
  -- the pins
  have pins : ∀ m v W, v + m = tcR R 1 → Fc V W (rrD p) → RsOK b a R → (∀ k, k < tcR R 0 → vI W 6 15 (16 * p + k) = rsF b a k) → (∀ v, v < tcR R 1 → vI W 6 19 (12 * p + v) = nI (rsK b a R v) ∧ vI W 6 20 (12 * p + v) = nI (rsC b a R v)) → (∀ u, u < v → vI W 6 21 (12 * p + u) = bI (tst (nI (rsX b a R)) u)) → vwp E d M_X12_readRow 318 [some (sl 6 0), some (wi (nI s)), some (wi (nI e)), some (wi (nI p)), some (wi (nI N)), some (wi (nI (a + 4 * tcR R 0 + 3 * tcR R 1))), some (wi (nI (rsX b a R))), some (wi (nI v)), none, none] [] W (zi K) := by
    intro m
    induction m with
    | zero =>
      intro v W ev fw ok h15 hv h21
      have : v = tcR R 1 := by omega
      subst this
      refine w_X12_readRow_318 (by omega) (c_vars (sqw fw) ⟨fun _ => ?_, fun z => absurd (nI_le (Nat.le_refl _) (by omega)) z⟩)
      rw [show (2 : Int32) = nI 2 from rfl, nI_add, show a + 4 * tcR R 0 + 3 * tcR R 1 + 2 = s + ndR N R - 8 by omega]
      have := sums (ndR N R - 8) 0 W (nI (rsX b a R)) 0 (Nat.zero_add _) fw (sumS_zero).symm ok h15 (fun v hv' => ⟨(hv v hv').1, (hv v hv').2, h21 v hv'⟩)
      rw [Nat.add_zero] at this
      exact this
    | succ m ih =>
      intro v W ev fw ok h15 hv h21
      have hv' : v < tcR R 1 := by omega
      have step : ∀ (c : Bool), tst (nI (rsX b a R)) v = c → vwp E d M_X12_readRow 355 [some (sl 6 0), some (wi (nI s)), some (wi (nI e)), some (wi (nI p)), some (wi (nI N)), some (wi (nI (a + 4 * tcR R 0 + 3 * tcR R 1))), some (wi (nI (rsX b a R))), some (wi (nI v)), none, none] [wi (bI c), wi (nI (12 * p + v)), sl 6 21] W (zi K) := fun c ec => by
        refine w_X12_readRow_355 ⟨by rw [fw.l]; exact hl6, by decide, by decide⟩ ?_
        rw [fw.n, hN21, nI_clamp (show 12 * p + v < 2 ^ 31 by omega), nI_1, nz_b]
        refine ⟨vp_in_nI (by omega) (by decide), fun V2 e2 => ih (v + 1) V2 (by omega) (fw.trans (by rw [e2]; exact Fc_wrI ⟨rfl, Or.inr ⟨by omega, by omega, by omega⟩⟩)) ok (fun k hk => ?_) (fun u hu => ?_) (fun u hu => ?_)⟩
        · rw [e2, wrI_ne (fun z => by omega)]; exact h15 k hk
        · rw [e2, wrI_ne (fun z => by omega), wrI_ne (fun z => by omega)]; exact hv u hu
        · by_cases cu : u = v
          · rw [e2, cu, wrI_at, ec]
          · rw [e2, wrI_ne (fun z => by omega)]; exact h21 u (by omega)
      refine w_X12_readRow_318 (by omega) (c_vars (sqw fw) ⟨fun z => absurd z (nI_ge hv' (by omega)), fun _ => ?_⟩)
      rw [bit_is _ (show v < 32 by omega), i12]
      cases ec : tst (nI (rsX b a R)) v with
      | false => exact ⟨fun _ => step false ec, fun z => absurd z (by decide)⟩
      | true => exact ⟨fun z => absurd rfl z, fun _ => step true ec⟩
  -- the values
  have vars : ∀ m v W, v + m = tcR R 1 → Fc V W (rrD p) → (∀ k, k < tcR R 0 → vI W 6 15 (16 * p + k) = rsF b a k ∧ Bd (rsF b a k)) → (∀ u, u < v → (vI W 6 19 (12 * p + u) = nI (rsK b a R u) ∧ vI W 6 20 (12 * p + u) = nI (rsC b a R u)) ∧ rsP b a R u ≠ none ∧ rsC b a R u ≤ 1000) → vwp E d M_X12_readRow 202 [some (sl 6 0), some (wi (nI s)), some (wi (nI e)), some (wi (nI p)), some (wi (nI N)), some (wi (nI (a + 4 * tcR R 0 + 3 * v))), some (wi (nI v)), none, none, none] [] W (zi K) := by
    intro m
    induction m with
    | zero =>
      intro v W ev fw h15 hv
      have : v = tcR R 1 := by omega
      subst this
      refine w_X12_readRow_202 (by omega) (c_vars (sqw fw) ⟨fun _ => c_numberAt (m := 2) (by omega) (srw fw) hb (by omega) (c_vars (sqw fw) ?_), fun z => absurd (nI_le (Nat.le_refl _) (by omega)) z⟩)
      have xl : rsX b a R < 65536 := pkb_lt (f := fun j => b (a + 4 * tcR R 0 + 3 * tcR R 1 + j)) 2 (fun j _ => hb _)
      rw [l2i_nq]
      refine ⟨fun z => pins (tcR R 1) 0 W (Nat.zero_add _) fw ⟨fun k hk => (h15 k hk).2, fun v hv' => (hv v hv').2, (shr_0 (show rsX b a R < 2 ^ 31 by omega) (by omega)).mp z⟩ (fun k hk => (h15 k hk).1) (fun v hv' => (hv v hv').1) (fun u hu => absurd hu (Nat.not_lt_zero u)), fun z => hk0 (fun w => z ((shr_0 (show rsX b a R < 2 ^ 31 by omega) (by omega)).mpr w.2.2)) W fw⟩
    | succ m ih =>
      intro v W ev fw h15 hv
      have hv' : v < tcR R 1 := by omega
      have cl : rsC b a R v < 65536 := pkb_lt (f := fun j => b (a + 4 * tcR R 0 + 3 * v + 1 + j)) 2 (fun j _ => hb _)
      refine w_X12_readRow_202 (by omega) (c_vars (sqw fw) ⟨fun z => absurd z (nI_ge hv' (by omega)), fun _ => c_byteOf (srw fw) (by omega) (c_placeOfM (sqw fw) hv' ?_)⟩)
      rw [nI_1]
      refine c_numberAt (m := 2) (by omega) (srw fw) hb (by omega) ?_
      have rp : fsb (fun k => decide (vlR R v k = i2b (nI (b (a + 4 * tcR R 0 + 3 * v))))) (szR R v) = rsP b a R v := rfl
      have rc : Int64.toInt32 (nL (pkb (fun j => b (a + 4 * tcR R 0 + 3 * v + 1 + j)) 2)) = nI (rsC b a R v) := l2i_nq _
      rw [rc, rp]
      cases eP : rsP b a R v with
      | none => exact ⟨fun _ => hk0 (fun w => (w.2.1 v hv').1 eP) W fw, fun z => absurd (by decide) z⟩
      | some k =>
        have hK : rsK b a R v = k := by unfold rsK; rw [eP]; rfl
        have kl : k < szR R v := fsb_lt eP
        have s20 := ((sqw fw).2.2.2.2.2 v hv').2.2.1
        refine ⟨fun z => absurd z (nI_pos (show k < 2 ^ 31 by omega)), fun _ => ⟨fun z => ?_, fun z => hk0 (fun w => z (nI_le (b := 1000) (w.2.1 v hv').2 (by decide))) W fw⟩⟩
        have c1000 : rsC b a R v ≤ 1000 := Nat.le_of_not_lt (fun w => absurd z (nI_ge (b := rsC b a R v) (a := 1000) w (by omega)))
        rw [i12, nI_clamp (show 12 * p + v < 2 ^ 31 by omega)]
        refine ⟨vp_in_nI (by omega) (by decide), fun V14 e14 => ⟨vp_in_nI (by omega) (by decide), fun V16 e16 => ?_⟩⟩
        rw [three, nI_add, nI_1, show a + 4 * tcR R 0 + 3 * v + 3 = a + 4 * tcR R 0 + 3 * (v + 1) by omega]
        have f14 : Fc W V14 (rrD p) := by rw [e14]; exact Fc_wrI ⟨rfl, Or.inr ⟨by omega, by omega, by omega⟩⟩
        have f16 : Fc V14 V16 (rrD p) := by rw [e16]; exact Fc_wrI ⟨rfl, Or.inr ⟨by omega, by omega, by omega⟩⟩
        refine ih (v + 1) V16 (by omega) ((fw.trans f14).trans f16) (fun j hj => ?_) (fun u hu => ?_)
        · rw [e16, wrI_ne (fun z => by omega), e14, wrI_ne (fun z => by omega)]; exact h15 j hj
        · by_cases cu : u = v
          · subst cu
            rw [eP]
            exact ⟨⟨by rw [e16, wrI_ne (fun z => by omega), e14, wrI_at, hK]; rfl, by rw [e16, wrI_at]⟩, by simp, c1000⟩
          · rw [e16, wrI_ne (fun z => by omega), wrI_ne (fun z => by omega), e14, wrI_ne (fun z => by omega), wrI_ne (fun z => by omega)]
            exact hv u (by omega)
  -- the facts
  have facts : ∀ m k W, k + m = tcR R 0 → Fc V W (rrD p) → (∀ j, j < k → vI W 6 15 (16 * p + j) = rsF b a j ∧ Bd (rsF b a j)) → vwp E d M_X12_readRow 135 [some (sl 6 0), some (wi (nI s)), some (wi (nI e)), some (wi (nI p)), some (wi (nI N)), some (wi (nI (a + 4 * k))), some (wi (nI k)), none, none, none] [] W (zi K) := by
    intro m
    induction m with
    | zero =>
      intro k W ek fw h15
      have : k = tcR R 0 := by omega
      subst this
      have e14 : vI W 6 14 (4 * p) = nI (tcR R 0) := by rw [fw.i (fun y => by have := y.2; omega)]; exact h14
      refine w_X12_readRow_135 (by omega) ?_
      rw [four, nI_mul, nI_clamp (show 4 * p < 2 ^ 31 by omega), e14]
      exact ⟨vp_in_nI (by omega) (by decide), fun _ => vars (tcR R 1) 0 W (Nat.zero_add _) fw h15 (fun u hu => absurd hu (Nat.not_lt_zero u)), fun z => absurd (nI_le (Nat.le_refl _) (by omega)) z⟩
    | succ m ih =>
      intro k W ek fw h15
      have hk : k < tcR R 0 := by omega
      have e14 : vI W 6 14 (4 * p) = nI (tcR R 0) := by rw [fw.i (fun y => by have := y.2; omega)]; exact h14
      refine w_X12_readRow_135 (by omega) ?_
      rw [four, nI_mul, nI_clamp (show 4 * p < 2 ^ 31 by omega), e14]
      refine ⟨vp_in_nI (by omega) (by decide), fun z => absurd z (nI_ge hk (by omega)), fun _ => c_numberAt (m := 4) (by omega) (srw fw) hb (by omega) ?_⟩
      have rf : Int64.toInt32 (nL (pkb (fun j => b (a + 4 * k + j)) 4)) = rsF b a k := l2i_nq _
      rw [rf]
      refine ⟨fun z => hk0 (fun w => (bd_no (w.1 k hk)).1 z) W fw, fun z => ⟨fun y => ?_, fun y => hk0 (fun w => y (bd_no (w.1 k hk)).2) W fw⟩⟩
      rw [show (16 : Int32) = nI 16 from rfl, nI_mul, nI_add, nI_clamp (show 16 * p + k < 2 ^ 31 by omega), nI_add, nI_1, show a + 4 * k + 4 = a + 4 * (k + 1) by omega]
      refine ⟨vp_in_nI (by omega) (by decide), fun V5 e5 => ih (k + 1) V5 (by omega) (fw.trans (by rw [e5]; exact Fc_wrI ⟨rfl, Or.inl ⟨rfl, by omega, by omega⟩⟩)) (fun j hj => ?_)⟩
      by_cases c : j = k
      · rw [e5, c, wrI_at]; exact ⟨rfl, bd_iff z y⟩
      · rw [e5, wrI_ne (fun z => by omega)]; exact h15 j (by omega)
  have := facts (tcR R 0) 0 V (Nat.zero_add _) Fc.refl (fun j hj => absurd hj (Nat.not_lt_zero j))
  rw [Nat.mul_zero, Nat.add_zero] at this
  exact this
/-- the row at s, up to e, into problem p -/
theorem c_readRow {s e N : Nat} {K : Int32 → VH → Prop} (hE : eFr E) (h0 : 235 < d) (hp : p < 5) (hl6 : vL V 6 = true) (hN21 : vN V 6 21 = 60) (hs : Src V e b) (hb : ∀ j, b j < 256) (s20 : s ≤ 20000) (he : e ≤ 20000) (hN : pkb (fun j => b (s + 1 + j)) 2 = N)
    (ht : s + 3 + N ≤ e → ∀ i, i < N → bt t i = b (s + 3 + i))
    (hk0 : RrF b s e N t → ∀ V', Fc V V' (rrM p) → (vI V' 6 33 p = vI V 6 33 p ∨ vI V' 6 33 p = vI V 6 33 p + 1) → K (-1) V')
    (hk1 : ∀ R, RrY b s e N t R → ∀ V1 V', Fc V V1 (rrM p) → vI V1 6 33 p = vI V 6 33 p + 1 → MrR V1 p t N R → Fc V1 V' (rrD p) → (∀ k, k < tcR R 0 → vI V' 6 15 (16 * p + k) = rsF b (s + 3 + N) k) → (∀ v, v < tcR R 1 → vI V' 6 19 (12 * p + v) = nI (rsK b (s + 3 + N) R v) ∧ vI V' 6 20 (12 * p + v) = nI (rsC b (s + 3 + N) R v) ∧ vI V' 6 21 (12 * p + v) = bI (tst (nI (rsX b (s + 3 + N) R)) v)) → K (if nL (pkb (fun j => b (s + ndR N R - 8 + j)) 8) = smW b s (ndR N R - 8) then nI (s + ndR N R) else -1) V') : vMI E d M_X12_readRow [sl 6 0, wi (nI s), wi (nI e), wi (nI p)] V K := by
  have ff : FF = 160008 := rfl
  have N16 : N < 65536 := by rw [← hN]; exact pkb_lt (f := fun j => b (s + 1 + j)) 2 (fun j _ => hb _)
  have rf : Int64.toInt32 (nL (pkb (fun j => b (s + 1 + j)) 2)) = nI N := by rw [l2i_nq, hN]
  have same : ∀ {P : Prop}, (∀ V', Fc V V' (rrM p) → (vI V' 6 33 p = vI V 6 33 p ∨ vI V' 6 33 p = vI V 6 33 p + 1) → P) → P := fun h => h V Fc.refl (Or.inl rfl)
  refine w_X12_readRow_0 (by omega) ?_
  rw [show (3 : Int32) = nI 3 from rfl, nI_add]
  refine ⟨fun z => hk0 (Or.inl (Nat.lt_of_not_le (fun w => absurd (nI_le w (by omega)) (Int32.not_le.mpr z)))) V Fc.refl (Or.inl rfl), fun z => ?_⟩
  have s3 : s + 3 ≤ e := Nat.le_of_not_lt (fun w => z (Int32.not_le.mp (nI_ge w (by omega))))
  refine c_byteOf hs (by omega) ⟨fun z1 => ?_, fun z1 => hk0 (Or.inr (Or.inl (fun w => z1 (by rw [w]; rfl)))) V Fc.refl (Or.inl rfl)⟩
  have b211 : b s = 211 := (nI_eq (b := 211) (by have := hb s; omega) (by decide)).mp z1
  rw [nI_1]
  refine c_numberAt (m := 2) (by omega) hs hb (by omega) ?_
  rw [rf, nI_add]
  refine ⟨fun z2 => hk0 (Or.inr (Or.inr (Or.inl (Nat.lt_of_not_le (fun w => absurd (nI_le (b := 20000) (show N ≤ 20000 by omega) (by decide)) (Int32.not_le.mpr z2)))))) V Fc.refl (Or.inl rfl), fun z2 => ⟨fun z3 => ?_, fun z3 => hk0 (Or.inr (Or.inr (Or.inl (Nat.lt_of_not_le (fun w => z3 (nI_le w (by omega))))))) V Fc.refl (Or.inl rfl)⟩⟩
  have sN : s + 3 + N ≤ e := Nat.le_of_not_lt (fun w => absurd z3 (nI_ge w (by omega)))
  have srw : ∀ {W}, Fc V W (rrM p) → Src W e b := fun f => hs.fc f (fun f j y => by have := rrM_s y; omega)
  have go : ∀ (m i : Nat) (W : VH), i + m = N → Fc V W (fun a f j => a = 6 ∧ f = 3 ∧ 20000 * p ≤ j ∧ j < 20000 * p + 20000) → (∀ k, k < i → bt (vI W 6 3) (20000 * p + k) = bt t k) → vwp E d M_X12_readRow 58 [some (sl 6 0), some (wi (nI s)), some (wi (nI e)), some (wi (nI p)), some (wi (nI N)), some (wi (nI (s + 3))), some (wi (nI i)), none, none, none] [] W (zi K) := by
    intro m
    induction m with
    | zero =>
      intro i W ei fW hX
      have : i = N := by omega
      subst this
      refine w_X12_readRow_58 (by omega) ?_
      rw [nI_clamp (show p < 2 ^ 31 by omega), nI_add]
      refine ⟨fun _ => ⟨vp_in_nI hp (by decide), fun V3 e3 => ?_⟩, fun y => absurd (nI_le (Nat.le_refl _) (by omega)) y⟩
      have k3 : Fc W V3 (fun a f j => a = 6 ∧ f = 4 ∧ j = p) := by rw [e3]; exact Fc_wrI ⟨rfl, rfl, rfl⟩
      have x3 : TxM V3 p t i := fun k hk => by
        rw [show vI V3 6 3 = vI W 6 3 from funext fun j => k3.i (fun y => by have := y.2; omega)]
        exact hX k hk
      have l3 : vI V3 6 4 p = nI i := by rw [e3, wrI_at]
      have s33 : vI V3 6 33 p = vI V 6 33 p := by rw [k3.i (fun y => by have := y.2; omega), fW.i (fun y => by have := y.2; omega)]
      have kV3 : Fc V V3 (rrM p) := (fW.mono (fun a f j y => by
        obtain ⟨rfl, rfl, y1, y2⟩ := y
        exact of_rr (w := 20000) rfl (by decide) (by decide) y1 y2)).trans (k3.mono (fun a f j y => by
        obtain ⟨rfl, rfl, rfl⟩ := y
        exact of_rr (w := 1) rfl (by decide) (by decide) (by omega) (by omega)))
      refine m_readT hE (by omega) hp (by omega) x3 l3 (F := FF) (by omega) (fun z hz V4 k4 wr st => ?_) (fun y hy V4 k4 st z45 nm kp md sp i9 i29 i17 => ?_)
      · exact ⟨fun y => absurd rfl y, fun _ => hk0 (Or.inr (Or.inr (Or.inr (Or.inl ⟨z, hz⟩)))) V4 (kV3.trans (k4.mono (fun a f j y => rdM_rr y))) (Or.inr (by rw [st, s33]))⟩
      · refine ⟨fun _ => ?_, fun y => absurd y (by decide)⟩
        obtain ⟨ey, _, w⟩ := rdx_end (by omega) hy
        rw [ey] at kp i9
        have nx : vI V4 6 3 = vI V3 6 3 ∧ vI V4 6 4 p = vI V3 6 4 p := ⟨funext fun j => k4.i (fun y => by rcases y with ⟨_, y⟩ | ⟨_, y⟩ | ⟨_, y⟩ <;> omega), k4.i (fun y => by rcases y with ⟨_, y⟩ | ⟨_, y⟩ | ⟨_, y⟩ <;> omega)⟩
        have hy' : rdx (tkT t i) FF (i + 1) = .inr (tln t i, y.2) := by rw [hy]; exact congrArg Sum.inr (show y = (tln t i, y.2) by rw [← ey])
        have mr : MrR V4 p t i y.2 := ⟨fun k hk => by rw [nx.1]; exact x3 k hk, by rw [nx.2]; exact l3, nm, kp, md, sp, i9, i29, i17⟩
        have k04 : Fc V V4 (rrM p) := kV3.trans (k4.mono (fun a f j y => rdM_rr y))
        have st4 : vI V4 6 33 p = vI V 6 33 p + 1 := by rw [st, s33]
        have v12 : tcR y.2 1 ≤ 12 := w.1 1 (by decide)
        have n16 : tcR y.2 0 ≤ 16 := w.1 0 (by decide)
        refine mr.need (by omega) hp w ?_
        rw [nI_add]
        have ndl : ndR i y.2 ≤ i + 113 := by unfold ndR; omega
        refine ⟨fun z4 => ?_, fun z4 => hk0 (Or.inr (Or.inr (Or.inr (Or.inr ⟨y.2, hy', Or.inl (Nat.lt_of_not_le (fun w => z4 (nI_le w (by omega))))⟩)))) V4 k04 (Or.inr st4)⟩
        have hend : s + ndR i y.2 ≤ e := Nat.le_of_not_lt (fun w => absurd z4 (nI_ge w (by omega)))
        have g33 : ∀ {W'}, Fc V4 W' (rrD p) → vI W' 6 33 p = vI V4 6 33 p := fun k => k.i (fun y => by have := y.2; omega)
        refine rr_go (by omega) hp (by rw [k04.l]; exact hl6) (by rw [k04.n]; exact hN21) (srw k04) hb he (mr.sq hp w) (nm.1 0 (by decide)).1 n16 hend (fun no V' k' => hk0 (Or.inr (Or.inr (Or.inr (Or.inr ⟨y.2, hy', Or.inr no⟩)))) V' (k04.trans (k'.mono (fun a f j y => rrD_rr y))) (Or.inr (by rw [g33 k', st4]))) (fun ok V' k' h15 hv => hk1 y.2 ⟨s3, b211, sN, hy', hend, ok⟩ V4 V' k04 st4 mr k' h15 hv)
    | succ m ih =>
      intro i W ei fW hX
      refine w_X12_readRow_58 (by omega) ?_
      rw [show nI (s + 3) + nI i = nI (s + 3 + i) by rw [nI_add], i20k, nI_clamp (show 20000 * p + i < 2 ^ 31 by omega)]
      have sw : Src W e b := hs.fc fW (fun f j y => by have := y.2; omega)
      refine ⟨fun y => absurd y (nI_ge (by omega) (by omega)), fun _ => c_byteOf sw (by omega) ⟨vp_in_nI (by omega) (by decide), fun V11 e11 => ?_⟩⟩
      rw [nI_1]
      refine ih (i + 1) V11 (by omega) (fW.trans (by rw [e11]; exact Fc_wrI ⟨rfl, rfl, by omega, by omega⟩)) (fun k hk => ?_)
      by_cases c : k = i
      · subst c
        have : bt (vI V11 6 3) (20000 * p + k) = bt (fun _ => i2b (i2b (nI (b (s + 3 + k))))) 0 := by unfold bt; rw [e11, wrI_at]
        rw [this, bt_i2b (fun _ => i2b (nI (b (s + 3 + k)))), bt_i2b (fun _ => nI (b (s + 3 + k))), ht sN k (by omega)]
        exact bt_of (i := 0) (hb _)
      · have : bt (vI V11 6 3) (20000 * p + k) = bt (vI W 6 3) (20000 * p + k) := by unfold bt; rw [e11, wrI_ne (fun z => by omega)]
        rw [this]
        exact hX k (by omega)
  exact go N 0 V (by omega) Fc.refl (fun k hk => absurd hk (Nat.not_lt_zero k))
end
