/-! count, letter -/
theorem lushr_nL {a m : Nat} (ha : a < 2 ^ 64) (hm : m < 8) : lushr (nL a) (nI (8 * m)) = nL (a / 256 ^ m) := by
  unfold lushr
  have e : (nI (8 * m)).toInt64.toUInt64 &&& Int64.toUInt64 63 = UInt64.ofNat (8 * m) := by
    have : m = 0 ∨ m = 1 ∨ m = 2 ∨ m = 3 ∨ m = 4 ∨ m = 5 ∨ m = 6 ∨ m = 7 := by omega
    rcases this with z | z | z | z | z | z | z | z <;> (subst z; decide)
  rw [e]
  apply Int64.toBitVec_inj.mp
  apply BitVec.eq_of_toNat_eq
  show ((UInt64.ofBitVec (BitVec.ofNat 64 a)) >>> UInt64.ofNat (8 * m)).toNat = (BitVec.ofNat 64 (a / 256 ^ m)).toNat
  have l : a / 256 ^ m ≤ a := Nat.div_le_self _ _
  rw [UInt64.toNat_shiftRight, BitVec.toNat_ofNat, Nat.mod_eq_of_lt (show a / 256 ^ m < 2 ^ 64 by omega)]
  show (BitVec.ofNat 64 a).toNat >>> ((UInt64.ofNat (8 * m)).toNat % 64) = _
  rw [show (UInt64.ofNat (8 * m)).toNat = 8 * m from by show (BitVec.ofNat 64 (8 * m)).toNat = _; rw [BitVec.toNat_ofNat]; exact Nat.mod_eq_of_lt (by omega), BitVec.toNat_ofNat, Nat.mod_eq_of_lt ha, Nat.mod_eq_of_lt (show 8 * m < 64 by omega), Nat.shiftRight_eq_div_pow, Nat.pow_mul]
theorem pkb_div {f : Nat → Nat} : ∀ (m l : Nat), (∀ j, j < l + m → f j < 256) → pkb f (l + m) / 256 ^ m = pkb f l := by
  intro m
  induction m with
  | zero => intro l _; rw [Nat.pow_zero, Nat.div_one]; rfl
  | succ m ih =>
    intro l h
    have := h (l + m) (by omega)
    rw [show l + (m + 1) = l + m + 1 from rfl, pkb, Nat.pow_succ, Nat.mul_comm (256 ^ m), ← Nat.div_div_eq_div_mul, show (pkb f (l + m) * 256 + f (l + m)) / 256 = pkb f (l + m) by omega]
    exact ih l (fun j hj => h j (by omega))
theorem nL_0 {a : Nat} (ha : a < 2 ^ 64) : nL a = 0 ↔ a = 0 := ⟨fun z => nL_inj ha (by decide) z, fun z => by rw [z]; rfl⟩
theorem low8 {a b : Nat} (hb : b < 256) : Int64.toInt32 (nL (a * 256 + b)) &&& 255 = nI b := by
  apply Int32.toBitVec_inj.mp
  apply BitVec.eq_of_toNat_eq
  show (((BitVec.ofNat 64 (a * 256 + b)).signExtend 32) &&& 255#32).toNat = (BitVec.ofNat 32 b).toNat
  rw [BitVec.toNat_and, BitVec.signExtend_eq_setWidth_of_le _ (by decide), BitVec.toNat_setWidth, BitVec.toNat_ofNat, BitVec.toNat_ofNat, Nat.mod_mod_of_dvd _ (by decide : 2 ^ 32 ∣ 2 ^ 64), show 255 % 2 ^ 32 = 2 ^ 8 - 1 from rfl, Nat.and_two_pow_sub_one_eq_mod, BitVec.toNat_ofNat]
  omega
section
variable {E : EE} {d : Nat} {V V' : VH} {g q B : Nat} {t : Nat → Int32} {n : Nat} {R : List SR} {nt fa : Nat → Int32} {h h' : Nat} {x b : Int32} {cs : Nat → Int32}
theorem c_letters {f : Nat → Nat} {l : Nat} {K : Int32 → VH → Prop} (hl : l ≤ 8) (hf : ∀ j, j < l → 0 < f j ∧ f j < 256) (hk : K (nI l) V) : vMI E d M_X3_letters [wj (nL (pkb f l))] V K := by
  have lt : ∀ k, k ≤ l → pkb f k < 2 ^ 64 := fun k hk => by
    have a := pkb_lt (f := f) k (fun j hj => (hf j (by omega)).2)
    have : 256 ^ k ≤ 256 ^ 8 := Nat.pow_le_pow_right (by decide) (by omega)
    have e : (256 : Nat) ^ 8 = 2 ^ 64 := by decide
    omega
  have go : ∀ (m k : Nat), k + m = l → vwp E d M_X3_letters 4 [some (wj (nL (pkb f l))), none, some (wi (nI k)), some (wj (nL (pkb f m))), none] [] V (zi K) := by
    intro m
    induction m with
    | zero =>
      intro k e
      have : k = l := by omega
      subst this
      exact w_X3_letters_4 ⟨fun _ => hk, fun z => absurd rfl z⟩
    | succ m ih =>
      intro k e
      have hm := hf m (by omega)
      refine w_X3_letters_4 ⟨fun z => ?_, fun _ => ⟨fun z => absurd z (nI_ge (b := 8) (show k < 8 by omega) (by decide)), fun _ => ?_⟩⟩
      · rw [nL_0 (lt _ (by omega)), pkb] at z; omega
      · have e1 : lushr (nL (pkb f (m + 1))) 8 = nL (pkb f m) := by
          have := lushr_nL (m := 1) (lt (m + 1) (by omega)) (by decide)
          rw [pkb_div 1 m (fun j hj => (hf j (by omega)).2)] at this
          exact this
        rw [e1, nI_1]
        exact ih (k + 1) (by omega)
  exact w_X3_letters_0 (go l 0 (by omega))
theorem c_letterOf {f : Nat → Nat} {l : Nat} {x2 : Int32} {K : Int32 → VH → Prop} (h0 : 0 < d) (hl : l ≤ 8) (hf : ∀ j, j < l → 0 < f j ∧ f j < 256) (h1 : (∀ j, j < l → x2 ≠ nI j) → K (-1) V) (h2 : ∀ j, j < l → x2 = nI j → K (nI (f j)) V) : vMI E d M_X11_letterOf [wj (nL (pkb f l)), wi x2] V K := by
  refine w_X11_letterOf_0 h0 (c_letters hl hf ⟨fun z => w_X11_letterOf_14 (h1 (fun j hj e => by rw [e] at z; exact absurd z (nI_pos (by omega)))), fun z => ⟨fun y => ?_, fun y => w_X11_letterOf_14 (h1 (fun j hj e => y (by rw [e]; exact nI_lt hj (by omega))))⟩⟩)
  obtain ⟨j, hj, e⟩ := i_ex z (Int32.not_le.mpr y) (by omega)
  subst e
  have a := pkb_lt (f := f) l (fun j hj => (hf j hj).2)
  have b : 256 ^ l ≤ 256 ^ 8 := Nat.pow_le_pow_right (by decide) hl
  have e8 : (256 : Nat) ^ 8 = 2 ^ 64 := by decide
  have es : (8 : Int32) * (nI l - 1 - nI j) = nI (8 * (l - 1 - j)) := by
    rw [show (1 : Int32) = nI 1 from rfl, nI_sub (by omega), nI_sub (by omega), show (8 : Int32) = nI 8 from rfl, nI_mul]
  rw [es, lushr_nL (by omega) (by omega)]
  have ed : pkb f l / 256 ^ (l - 1 - j) = pkb f (j + 1) := by
    have := pkb_div (f := f) (l - 1 - j) (j + 1) (fun i hi => (hf i (by omega)).2)
    rw [show j + 1 + (l - 1 - j) = l by omega] at this
    exact this
  rw [ed, pkb, low8 (hf j hj).2]
  exact h2 j hj rfl
/-- the number of allowed plans -/
def frT (sz : Nat → Nat) (fx : Nat → Bool) : Nat → Nat
  | 0 => 1
  | v + 1 => frT sz fx v * (if fx v = true then 1 else sz v)
def fxT (sz : Nat → Nat) (fx : Nat → Bool) : Nat → Nat
  | 0 => 1
  | v + 1 => fxT sz fx v * (if fx v = true then sz v else 1)
def alT (sz : Nat → Nat) : Nat → Nat
  | 0 => 1
  | v + 1 => alT sz v * sz v
theorem alT_split (sz : Nat → Nat) (fx : Nat → Bool) : ∀ v, frT sz fx v * fxT sz fx v = alT sz v := by
  intro v
  induction v with
  | zero => rfl
  | succ v ih =>
    rw [frT, fxT, alT, ← ih]
    by_cases c : fx v = true
    · rw [if_pos c, if_pos c, Nat.mul_one, Nat.mul_assoc]
    · rw [if_neg c, if_neg c, Nat.mul_one, Nat.mul_assoc, Nat.mul_assoc, Nat.mul_comm (sz v)]
theorem alT_Tp {sz : Nat → Nat} {nv : Nat} : ∀ (m v : Nat), v + m = nv → alT sz v * Tp sz nv v = alT sz nv := by
  intro m
  induction m with
  | zero => intro v e; have : v = nv := by omega
            subst this; rw [Tp_nv (Nat.le_refl _), Nat.mul_one]
  | succ m ih =>
    intro v e
    rw [Tp_lt (by omega), ← Nat.mul_assoc]
    exact ih (v + 1) (by omega)
theorem c_agreeing {K : Int32 → VH → Prop} {nv : Nat} {sz : Nat → Nat} {vl : Nat → Nat → Int32} (hS : Sp V g nv sz vl) (hk : K (nI (frT sz (tst x) nv)) V) : vMI E d M_X7_agreeing [sl g 5, wi x] V K := by
  have hg := hS.1
  have n12 := hS.2.2.1
  have go : ∀ (m v : Nat), v + m = nv → vwp E d M_X7_agreeing 4 [some (sl g 5), some (wi x), some (wi (nI (frT sz (tst x) v))), some (wi (nI v))] [] V (zi K) := by
    intro m
    induction m with
    | zero =>
      intro v e
      have : v = nv := by omega
      subst this
      exact w_X7_agreeing_4 hg ⟨fun _ => hk, fun z => absurd (by rw [hS.2.1]; exact nI_le (Nat.le_refl _) (by omega)) z⟩
    | succ m ih =>
      intro v e
      have hv : v < nv := by omega
      have i := ih (v + 1) (by omega)
      rw [frT] at i
      refine w_X7_agreeing_4 hg ⟨fun z => absurd z (by rw [hS.2.1]; exact nI_ge hv (by omega)), fun _ => ⟨fun z => w_X7_agreeing_29 hg ?_, fun z => ?_⟩⟩
      · rw [(tst_1 x (by omega)).mp z, if_pos rfl, Nat.mul_one] at i
        rw [nI_1]; exact i
      · rw [(tst_0 x (by omega)).mp z, if_neg (by decide)] at i
        rw [nI_clamp (show v < 2 ^ 31 by omega), (hS.2.2.2.2.2 v hv).1, nI_mul]
        refine ⟨vp_in_nI (by omega) (by decide), w_X7_agreeing_29 hg ?_⟩
        rw [nI_1]; exact i
  exact w_X7_agreeing_0 hg (go nv 0 (by omega))
theorem fxT_pos {sz : Nat → Nat} {fx : Nat → Bool} {nv : Nat} (hs : ∀ v, v < nv → 0 < sz v) : ∀ v, v ≤ nv → 0 < fxT sz fx v := by
  intro v
  induction v with
  | zero => intro _; exact Nat.one_pos
  | succ v ih =>
    intro h
    rw [fxT]
    refine Nat.mul_pos (ih (by omega)) ?_
    have := hs v (by omega)
    split <;> omega
theorem count_go {nv : Nat} {sz : Nat → Nat} {vl : Nat → Nat → Int32} {fx : Nat → Bool} {y : Int32} {K : Int32 → VH → Prop} (h0 : 0 < d) (s : Sq V q nv sz vl) (hp : Pq V q nv fx) (hk : K (nI (frT sz fx nv)) V) : ∀ (m v : Nat), v + m = nv → vwp E d M_X12_count 88 [some (sl 6 0), some (wi (nI q)), some (wi y), some (wi (nI (alT sz nv / fxT sz fx v))), some (wi (nI v))] [] V (zi K) := by
  have q5 := s.1
  have n12 := s.2.2.1
  have al : alT sz nv ≤ 20000 := by
    have := alT_Tp (sz := sz) nv 0 (Nat.zero_add nv)
    rw [alT, Nat.one_mul] at this
    rw [← this]; exact s.2.2.2.2.1
  intro m
  induction m with
  | zero =>
    intro v e
    have : v = nv := by omega
    subst this
    have e2 : alT sz v / fxT sz fx v = frT sz fx v := by
      rw [← alT_split sz fx v]
      exact Nat.mul_div_cancel _ (fxT_pos s.pos v (Nat.le_refl _))
    refine w_X12_count_88 (by omega) (c_vars s ⟨fun _ => ?_, fun z => absurd (nI_le (Nat.le_refl _) (by omega)) z⟩)
    rw [e2]; exact hk
  | succ m ih =>
    intro v e
    have hv : v < nv := by omega
    have i := ih (v + 1) (by omega)
    rw [fxT] at i
    have e12 := i12 q v
    obtain ⟨s1, s2, s3, _⟩ := s.2.2.2.2.2 v hv
    refine w_X12_count_88 (by omega) (c_vars s ⟨fun z => absurd z (nI_ge hv (by omega)), fun _ => ?_⟩)
    rw [e12, nI_clamp (show 12 * q + v < 2 ^ 31 by omega), s1]
    have vp : vp_in (nI (12 * q + v)) 60 := vp_in_nI (by omega) (by decide)
    refine ⟨vp, fun z => w_X12_count_131 ?_, fun z => ⟨vp, fun y => ?_, w_X12_count_131 ?_⟩⟩
    · rw [(hp v hv).mp z, if_neg (by decide), Nat.mul_one] at i
      rw [nI_1]; exact i
    · have := (nI_eq (b := 0) (by omega) (by decide)).mp y
      omega
    · have c : fx v = true := by
        cases u : fx v
        · exact absurd ((hp v hv).mpr u) z
        · rfl
      rw [c, if_pos rfl, ← Nat.div_div_eq_div_mul] at i
      have l : alT sz nv / fxT sz fx v ≤ alT sz nv := Nat.div_le_self _ _
      rw [nI_1, nI_div (by omega) (by omega)]; exact i
end
section
variable {E : EE} {d x B B' : Nat}
theorem o_count (h0 : 190 < d) (hB : B ≤ B') : VO_count E d (JA x B) (JA x B') := fun V a0 a1 hJ => liftI hJ (fun hW hS => by
  rcases hS.inQ a0 with ⟨hP, hM⟩ | ⟨q, t, n, R, nt, fa, h, px, cs, hq, rfl, hI⟩
  · exact nul_count (J := fun V2 => WF V2 → JS B' V2) (by omega) hW hP hM (fun _ => hS.mono hB)
  · have jb : ∀ (_ : WF V), JS B' V := fun _ => hS.mono hB
    have nc := hI.2.1.2.2.1.1
    have nm := hI.2.2.1.2.2.1.1
    have q5 : q < 5 := by omega
    have e4 : ∀ s : Nat, (4 : Int32) * nI q + nI s = nI (4 * q + s) := fun s => by rw [show (4 : Int32) = nI 4 from rfl, nI_mul, nI_add]
    have ref : ∀ (c : Int32), (∀ s, s < 4 → a1 = nI s → c = nI (tcR R s)) → (a1 = 4 → c = nI (plR R)) → (a1 = 5 → c = nI (frT (szR R) (tst px) (tcR R 1))) → (a1 = 6 → c = nI (hdR R)) → (a1 = 7 → c = vI V 6 29 q) → (a1 = 8 → c = nI n) → (¬ a1 = 0 → ¬ a1 = 1 → ¬ a1 = 2 → ¬ a1 = 3 → ¬ a1 = 4 → ¬ a1 = 5 → ¬ a1 = 6 → ¬ a1 = 7 → ¬ a1 = 8 → c = -1) → vMI E d M_X12_count [sl 6 0, wi (nI q), wi a1] V (fun r' V2 => c = r' ∧ (WF V2 → JS B' V2)) := fun c c0 c4 c5 c6 c7 c8 c9 => by
      refine w_X12_count_0 (by omega) (c_isProblem_y hI.mi hq ⟨fun _ => ?_, fun w => absurd w (by decide)⟩)
      have k4 : ∀ s, s < 4 → a1 = nI s → vp_in ((4 : Int32) * nI q + a1) 20 ∧ (c = vI V 6 14 (Int32.toNatClampNeg ((4 : Int32) * nI q + a1)) ∧ (WF V → JS B' V)) := fun s hs e => by
        rw [e, e4, nI_clamp (show 4 * q + s < 2 ^ 31 by omega), (nm s hs).1]
        exact ⟨vp_in_nI (by omega) (by decide), c0 s hs e, jb⟩
      have vp : vp_in (nI q) 5 := vp_in_nI q5 (by decide)
      rw [nI_clamp (show q < 2 ^ 31 by omega)]
      refine ⟨fun e => k4 0 (by decide) e, fun e => k4 1 (by decide) e, fun e => k4 2 (by decide) e, fun e => k4 3 (by decide) e, fun e => ⟨vp, ?_, jb⟩, fun e => ⟨vp, ?_⟩, fun e => ⟨vp, ?_, jb⟩, fun e => ⟨vp, c7 e, jb⟩, fun e => ⟨vp, ?_, jb⟩, fun z0 z1 z2 z3 z4 z5 z6 z7 z8 => ⟨c9 z0 z1 z2 z3 z4 z5 z6 z7 z8, jb⟩⟩
      · rw [c4 e]; exact hI.sq.2.2.2.1.symm
      · rw [hI.sq.2.2.2.1]
        have go := count_go (E := E) (d := d) (y := a1) (K := fun r' V2 => c = r' ∧ (WF V2 → JS B' V2)) (by omega) hI.sq hI.pq ⟨c5 e, jb⟩ (tcR R 1) 0 (Nat.zero_add _)
        have : alT (szR R) (tcR R 1) / fxT (szR R) (tst px) 0 = Tp (szR R) (tcR R 1) 0 := by
          have := alT_Tp (sz := szR R) (tcR R 1) 0 (Nat.zero_add _)
          rw [alT, Nat.one_mul] at this
          rw [this, fxT, Nat.div_one]
        rw [this] at go
        exact go
      · rw [c6 e]; exact hI.2.2.1.2.2.2.2.2.1.symm
      · rw [c8 e]; exact hI.2.2.1.2.1.2.symm
    refine w_X11_count_0 (by omega) (c_known_y hI hq ⟨fun _ => ⟨hI.2.1.1.2, ?_⟩, fun z => absurd hI.2.1.1.1 z⟩)
    have k4 : ∀ s, s < 4 → a1 = nI s → vMI E d M_X12_count [sl 6 0, wi (nI q), wi a1] V (fun r' V2 => vI V (q + 1) 4 s = r' ∧ (WF V2 → JS B' V2)) := fun s hs e => by
      rw [(nc s hs).1]
      refine ref _ (fun s' hs' e' => ?_) (fun z => ?_) (fun z => ?_) (fun z => ?_) (fun z => ?_) (fun z => ?_) (fun z0 z1 z2 z3 _ _ _ _ _ => ?_)
      · have : s = s' := (nI_eq (by omega) (by omega)).mp (e.symm.trans e')
        rw [this]
      · have := (nI_eq (b := 4) (by omega) (by decide)).mp (e.symm.trans z); omega
      · have := (nI_eq (b := 5) (by omega) (by decide)).mp (e.symm.trans z); omega
      · have := (nI_eq (b := 6) (by omega) (by decide)).mp (e.symm.trans z); omega
      · have := (nI_eq (b := 7) (by omega) (by decide)).mp (e.symm.trans z); omega
      · have := (nI_eq (b := 8) (by omega) (by decide)).mp (e.symm.trans z); omega
      · exfalso
        have : s = 0 ∨ s = 1 ∨ s = 2 ∨ s = 3 := by omega
        rcases this with w | w | w | w <;> subst w
        · exact z0 e
        · exact z1 e
        · exact z2 e
        · exact z3 e
    have no : ∀ (s : Nat) (y : Int32), s < 4 → a1 = nI s → a1 = y → y = 4 ∨ y = 5 ∨ y = 6 ∨ y = 7 ∨ y = 8 → False := fun s y hs e1 e2 hy => by
      have : s = 0 ∨ s = 1 ∨ s = 2 ∨ s = 3 := by omega
      rw [e2] at e1
      rcases hy with w | w | w | w | w <;> rw [w] at e1 <;> rcases this with u | u | u | u <;> rw [u] at e1 <;> exact absurd e1 (by decide)
    have ne : ∀ (y y' : Int32), a1 = y → a1 = y' → y ≠ y' → False := fun y y' e1 e2 hn => hn (e1.symm.trans e2)
    refine ⟨fun e => k4 0 (by decide) e, fun e => k4 1 (by decide) e, fun e => k4 2 (by decide) e, fun e => k4 3 (by decide) e, fun e => ?_, fun e => ?_, fun e => c_bitCount ?_, fun e => ?_, fun e => ?_, fun z0 z1 z2 z3 z4 z5 z6 z7 z8 => ?_⟩
    · rw [hI.sp.2.2.2.1]
      exact ref _ (fun s hs e' => (no s 4 hs e' e (by simp)).elim) (fun _ => rfl) (fun z => (ne 4 5 e z (by decide)).elim) (fun z => (ne 4 6 e z (by decide)).elim) (fun z => (ne 4 7 e z (by decide)).elim) (fun z => (ne 4 8 e z (by decide)).elim) (fun _ _ _ _ z4 _ _ _ _ => absurd e z4)
    · rw [hI.2.1.2.2.2.2.2.2.2.2.2.1]
      exact c_agreeing hI.sp (ref _ (fun s hs e' => (no s 5 hs e' e (by simp)).elim) (fun z => (ne 5 4 e z (by decide)).elim) (fun _ => rfl) (fun z => (ne 5 6 e z (by decide)).elim) (fun z => (ne 5 7 e z (by decide)).elim) (fun z => (ne 5 8 e z (by decide)).elim) (fun _ _ _ _ _ z4 _ _ _ => absurd e z4))
    · rw [hI.2.1.2.2.2.2.1.1.2]
      exact ref _ (fun s hs e' => (no s 6 hs e' e (by simp)).elim) (fun z => (ne 6 4 e z (by decide)).elim) (fun z => (ne 6 5 e z (by decide)).elim) (fun _ => rfl) (fun z => (ne 6 7 e z (by decide)).elim) (fun z => (ne 6 8 e z (by decide)).elim) (fun _ _ _ _ _ _ z4 _ _ => absurd e z4)
    · obtain ⟨u, _, f1, f2, _⟩ := hI.2.2.2.2.1
      rw [f1]
      exact ref _ (fun s hs e' => (no s 7 hs e' e (by simp)).elim) (fun z => (ne 7 4 e z (by decide)).elim) (fun z => (ne 7 5 e z (by decide)).elim) (fun z => (ne 7 6 e z (by decide)).elim) (fun _ => f2.symm) (fun z => (ne 7 8 e z (by decide)).elim) (fun _ _ _ _ _ _ _ z4 _ => absurd e z4)
    · rw [hI.2.1.2.1.1.2.1]
      exact ref _ (fun s hs e' => (no s 8 hs e' e (by simp)).elim) (fun z => (ne 8 4 e z (by decide)).elim) (fun z => (ne 8 5 e z (by decide)).elim) (fun z => (ne 8 6 e z (by decide)).elim) (fun z => (ne 8 7 e z (by decide)).elim) (fun _ => rfl) (fun _ _ _ _ _ _ _ _ z4 => absurd e z4)
    · refine ref _ (fun s hs e => ?_) (fun z => absurd z z4) (fun z => absurd z z5) (fun z => absurd z z6) (fun z => absurd z z7) (fun z => absurd z z8) (fun _ _ _ _ _ _ _ _ _ => rfl)
      exfalso
      have : s = 0 ∨ s = 1 ∨ s = 2 ∨ s = 3 := by omega
      rcases this with w | w | w | w <;> subst w
      · exact z0 e
      · exact z1 e
      · exact z2 e
      · exact z3 e)
theorem o_letter (h0 : 190 < d) (hB : B ≤ B') : VO_letter E d (JA x B) (JA x B') := fun V a0 a1 a2 a3 hJ => liftI hJ (fun hW hS => by
  rcases hS.inQ a0 with ⟨hP, hM⟩ | ⟨q, t, n, R, nt, fa, h, px, cs, hq, rfl, hI⟩
  · exact nul_letter (J := fun V2 => WF V2 → JS B' V2) (by omega) hW hP hM (fun _ => hS.mono hB)
  · have fin : ∀ (r : Int32), r = r ∧ (WF V → JS B' V) := fun r => ⟨rfl, fun _ => hS.mono hB⟩
    have nc := hI.2.1.2.2.1
    have nm := hI.2.2.1.2.2.1
    have e4 : ∀ s : Nat, (4 : Int32) * nI q + nI s = nI (4 * q + s) := fun s => by rw [show (4 : Int32) = nI 4 from rfl, nI_mul, nI_add]
    refine w_X11_letter_0 (by omega) (c_known_y hI hq ⟨fun z => absurd hI.2.1.1.1 z, fun _ => ⟨hI.2.1.1.2, fun z => ?_, fun z => ⟨fun y => ⟨fun w => ?_, fun w => ?_⟩, fun y => ?_⟩⟩⟩)
    · exact w_X12_letter_0 (by omega) (c_isProblem_y hI.mi hq ⟨fun w => absurd w (by decide), fun _ => ⟨fun _ => fin _, fun w => absurd z w⟩⟩)
    · exact w_X12_letter_0 (by omega) (c_isProblem_y hI.mi hq ⟨fun u => absurd u (by decide), fun _ => ⟨fun u => absurd u z, fun _ => ⟨fun u => absurd y (Int32.not_le.mpr u), fun _ => ⟨fun _ => fin _, fun u => absurd w u⟩⟩⟩⟩)
    · obtain ⟨s, hs, e⟩ := i_ex (n := 4) z (fun c => by
        have c' : (nI 4) ≤ a1 := c
        have c2 := Int32.le_iff_toInt_le.mp c'
        have c3 := Int32.le_iff_toInt_le.mp y
        rw [show (nI 4).toInt = 4 from by decide] at c2
        rw [show (3 : Int32).toInt = 3 from by decide] at c3
        omega) (by decide)
      subst e
      have l24 := (nc.1 s hs).2
      rw [nI_clamp (show s < 2 ^ 31 by omega), (nc.1 s hs).1]
      have ref0 : ∀ (c : Int32), (∀ k, k < tcR R s → a2 ≠ nI k) → c = -1 → vMI E d M_X12_letter [sl 6 0, wi (nI q), wi (nI s), wi a2, wi a3] V (fun r' V2 => c = r' ∧ (WF V2 → JS B' V2)) := fun c hn ec => by
        refine w_X12_letter_0 (by omega) (c_isProblem_y hI.mi hq ⟨fun u => absurd u (by decide), fun _ => ⟨fun u => absurd u z, fun _ => ⟨fun u => absurd y (Int32.not_le.mpr u), fun _ => ⟨fun u => absurd u w, fun _ => ?_⟩⟩⟩⟩)
        rw [e4, nI_clamp (show 4 * q + s < 2 ^ 31 by omega), (nm.1 s hs).1]
        refine ⟨vp_in_nI (by omega) (by decide), fun u => ?_, fun _ => ⟨ec, fun _ => hS.mono hB⟩⟩
        obtain ⟨k, hk, e⟩ := i_ex w (Int32.not_le.mpr u) (by omega)
        exact absurd e (hn k hk)
      refine ⟨vp_in_nI hs (by decide), fun u => ?_, fun u => ref0 _ (fun k hk e => u (by rw [e]; exact nI_lt hk (by omega))) rfl⟩
      obtain ⟨k, hk, e⟩ := i_ex w (Int32.not_le.mpr u) (by omega)
      subst e
      have e24 : nI s * (24 : Int32) + nI k = nI (24 * s + k) := by rw [show (24 : Int32) = nI 24 from rfl, nI_mul, nI_add, Nat.mul_comm]
      have e96 : (96 : Int32) * nI q + (24 : Int32) * nI s + nI k = nI (96 * q + 24 * s + k) := by rw [show (96 : Int32) = nI 96 from rfl, show (24 : Int32) = nI 24 from rfl, nI_mul, nI_mul, nI_add, nI_add]
      rw [e24, nI_clamp (show 24 * s + k < 2 ^ 31 by omega), nc.2 s hs k hk]
      obtain ⟨a, l, m12, m13, l1, l8, al, ek, isa⟩ := nm.2 s hs k hk
      rw [ek]
      have ref1 : ∀ (c : Int32), ((∀ j, j < l → a3 ≠ nI j) → c = -1) → (∀ j, j < l → a3 = nI j → c = nI (bf (vI V 6 3) (20000 * q + a) j)) → vMI E d M_X12_letter [sl 6 0, wi (nI q), wi (nI s), wi (nI k), wi a3] V (fun r' V2 => c = r' ∧ (WF V2 → JS B' V2)) := fun c c1 c2 => by
        refine w_X12_letter_0 (by omega) (c_isProblem_y hI.mi hq ⟨fun u => absurd u (by decide), fun _ => ⟨fun u => absurd u z, fun _ => ⟨fun u => absurd y (Int32.not_le.mpr u), fun _ => ⟨fun u => absurd u w, fun _ => ?_⟩⟩⟩⟩)
        rw [e4, nI_clamp (show 4 * q + s < 2 ^ 31 by omega), (nm.1 s hs).1, e96, nI_clamp (show 96 * q + 24 * s + k < 2 ^ 31 by omega), m12, m13]
        have vp : vp_in (nI (96 * q + 24 * s + k)) 480 := vp_in_nI (by omega) (by decide)
        refine ⟨vp_in_nI (by omega) (by decide), fun _ => ⟨fun v => w_X12_letter_67 ⟨c1 (fun j hj e => by rw [e] at v; exact absurd v (nI_pos (by omega))), fun _ => hS.mono hB⟩, fun v => ⟨vp, fun v2 => ⟨vp, ?_⟩, fun v2 => w_X12_letter_67 ⟨c1 (fun j hj e => v2 (by rw [e]; exact nI_lt hj (by omega))), fun _ => hS.mono hB⟩⟩⟩, fun u => absurd (nI_lt hk (by omega)) u⟩
        obtain ⟨j, hj, e⟩ := i_ex v (Int32.not_le.mpr v2) (by omega)
        subst e
        rw [show (20000 : Int32) * nI q + nI a + nI j = nI (20000 * q + a + j) from by rw [i20k, nI_add], nI_clamp (show 20000 * q + a + j < 2 ^ 31 by omega)]
        exact ⟨vp_in_nI (by omega) (by decide), by rw [c2 j hj rfl, bt_nI]; rfl, fun _ => hS.mono hB⟩
      refine ⟨vp_in_nI (by omega) (by decide), c_letterOf (by omega) l8 (fun j hj => ?_) (fun hn => ref1 _ (fun _ => rfl) (fun j hj e => absurd e (hn j hj))) (fun j hj e => ref1 _ (fun hn => absurd e (hn j hj)) (fun j' hj' e' => by
        have : j = j' := (nI_eq (by omega) (by omega)).mp (e.symm.trans e')
        rw [this]))⟩
      refine ⟨?_, bt_lt _ _⟩
      have := (isA_v _ (isa j hj)).1
      exact this
    · exact w_X12_letter_0 (by omega) (c_isProblem_y hI.mi hq ⟨fun u => absurd u (by decide), fun _ => ⟨fun u => absurd u z, fun _ => ⟨fun _ => fin _, fun u => absurd (Int32.not_lt.mp u) y⟩⟩⟩))
end
