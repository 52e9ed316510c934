/-! cells that change; the tape -/
/-- only the cells of S are changed; nothing is made -/
def Fc (V V' : VH) (S : Nat → Nat → Nat → Prop) : Prop := V'.1 = V.1 ∧ V'.2.1 = V.2.1 ∧ V'.2.2.1 = V.2.2.1 ∧ vN V' = vN V ∧ ∀ a f k, ¬ S a f k → vI V' a f k = vI V a f k ∧ vJ V' a f k = vJ V a f k
theorem Fc.refl {V : VH} {S : Nat → Nat → Nat → Prop} : Fc V V S := ⟨rfl, rfl, rfl, rfl, fun _ _ _ _ => ⟨rfl, rfl⟩⟩
theorem Fc.trans {V V' V2 : VH} {S : Nat → Nat → Nat → Prop} (h : Fc V V' S) (k : Fc V' V2 S) : Fc V V2 S := ⟨k.1.trans h.1, k.2.1.trans h.2.1, k.2.2.1.trans h.2.2.1, k.2.2.2.1.trans h.2.2.2.1, fun a f i q => ⟨(k.2.2.2.2 a f i q).1.trans (h.2.2.2.2 a f i q).1, (k.2.2.2.2 a f i q).2.trans (h.2.2.2.2 a f i q).2⟩⟩
theorem Fc.mono {V V' : VH} {S S' : Nat → Nat → Nat → Prop} (h : Fc V V' S) (k : ∀ a f i, S a f i → S' a f i) : Fc V V' S' := ⟨h.1, h.2.1, h.2.2.1, h.2.2.2.1, fun a f i q => h.2.2.2.2 a f i (fun z => q (k a f i z))⟩
theorem Fc.i {V V' : VH} {S : Nat → Nat → Nat → Prop} (h : Fc V V' S) {a f k : Nat} (q : ¬ S a f k) : vI V' a f k = vI V a f k := (h.2.2.2.2 a f k q).1
theorem Fc.j {V V' : VH} {S : Nat → Nat → Nat → Prop} (h : Fc V V' S) {a f k : Nat} (q : ¬ S a f k) : vJ V' a f k = vJ V a f k := (h.2.2.2.2 a f k q).2
theorem Fc.n {V V' : VH} {S : Nat → Nat → Nat → Prop} (h : Fc V V' S) : vN V' = vN V := h.2.2.2.1
theorem Fc.l {V V' : VH} {S : Nat → Nat → Nat → Prop} (h : Fc V V' S) : vL V' = vL V := h.2.1
theorem Fc.fr {V V' : VH} {S : Nat → Nat → Nat → Prop} {T : Nat → Nat → Prop} (h : Fc V V' S) (hT : ∀ a f k, S a f k → T a f) : Fr V V' T :=
  ⟨h.2.1, congrArg Prod.fst h.2.2.1, congrArg Prod.snd h.2.2.1, fun a f q => ⟨by rw [h.n], funext fun k => h.i (fun z => q (hT a f k z)), funext fun k => h.j (fun z => q (hT a f k z))⟩⟩
theorem Fc.cap {V V' : VH} {S : Nat → Nat → Nat → Prop} (h : Fc V V' S) (k : CapOK V) : CapOK V' := fun g f h1 h2 h3 => by rw [h.n]; rw [h.l] at h1; exact k g f h1 h2 h3
theorem Fc.room {V V' : VH} {S : Nat → Nat → Nat → Prop} {x : Nat} (h : Fc V V' S) (k : Room x V) : Room x V' := by
  have e : ∀ w, rs w V' = rs w V := fun w => by unfold rs; rw [h.n, h.l]
  have e1 : vU V' = vU V := congrArg Prod.snd h.1
  have e2 : vT V' = vT V := congrArg Prod.fst h.1
  unfold Room
  rw [e, e, e1, e2]
  exact k
section
variable {V : VH} {g f k : Nat} {S : Nat → Nat → Nat → Prop}
theorem Fc_wrI {v : Int32} (h : S g f k) : Fc V (wrI V g f k v) S := ⟨rfl, rfl, rfl, rfl, fun a b i q => ⟨if_neg (fun z => q (by rw [z.1, z.2.1, z.2.2]; exact h)), rfl⟩⟩
theorem Fc_wrJ {v : Int64} (h : S g f k) : Fc V (wrJ V g f k v) S := ⟨rfl, rfl, rfl, rfl, fun a b i q => ⟨rfl, if_neg (fun z => q (by rw [z.1, z.2.1, z.2.2]; exact h))⟩⟩
end
theorem sumS_congr {t t' : Nat → Int32} : ∀ (n lo : Nat) (s : Int64), (∀ i, i < n → t (lo + i) = t' (lo + i)) → sumS t lo n s = sumS t' lo n s := by
  intro n
  induction n with
  | zero => intro lo s _; rw [sumS_zero, sumS_zero]
  | succ n ih =>
    intro lo s h
    rw [sumS_succ, sumS_succ, show t lo = t' lo from h 0 (by omega)]
    exact ih (lo + 1) _ (fun i hi => by have := h (i + 1) (by omega); rw [show lo + (i + 1) = lo + 1 + i from by omega] at this; exact this)
theorem bv_byte (x : BitVec 64) {k : Nat} (h : k + 8 ≤ 64) : ((x.sshiftRight k).signExtend 32).signExtend 8 = ((x >>> k).signExtend 32).signExtend 8 := by
  apply BitVec.eq_of_getLsbD_eq
  intro i hi
  have h1 : i < 32 := by omega
  have h2 : i < 64 := by omega
  have h3 : k + i < 64 := by omega
  have h4 : ¬ 64 ≤ i := by omega
  simp only [BitVec.getLsbD_signExtend, BitVec.getLsbD_sshiftRight, BitVec.getLsbD_ushiftRight, h1, h2, h3, h4, hi, if_true, decide_true, decide_false, Bool.true_and, Bool.not_false]
/-- the two ways to take a byte of a long -/
theorem byte_eq (w : Int64) {k : Nat} (h : k < 8) : i2b (Int64.toInt32 (w >>> (Int32.toInt64 (8 * nI k) &&& 63))) = i2b (Int64.toInt32 (lushr w (8 * nI k))) := by
  have e1 : ∀ k, k < 8 → ((Int32.toInt64 (8 * nI k) &&& 63).toBitVec.smod 64).toNat = 8 * k := by decide +kernel
  have e2 : ∀ k, k < 8 → (((8 * nI k).toInt64.toUInt64 &&& Int64.toUInt64 63).toBitVec % 64).toNat = 8 * k := by decide +kernel
  unfold lushr i2b
  refine congrArg Int8.toInt32 (Int8.toBitVec_inj.mp ?_)
  show ((w.toBitVec.sshiftRight ((Int32.toInt64 (8 * nI k) &&& 63).toBitVec.smod 64).toNat).signExtend 32).signExtend 8 = ((w.toBitVec >>> (((8 * nI k).toInt64.toUInt64 &&& Int64.toUInt64 63).toBitVec % 64).toNat).signExtend 32).signExtend 8
  rw [e1 k h, e2 k h]
  exact bv_byte _ (by omega)
section
variable {E : EE} {d : Nat} {V : VH} {n : Nat}
theorem lt01 {k : Int32} (q : ¬ k < 1) : ¬ k < 0 := fun z => q (by
  rw [Int32.lt_iff_toInt_lt] at z ⊢
  have e0 : (0 : Int32).toInt = 0 := by decide
  have e1 : (1 : Int32).toInt = 1 := by decide
  omega)
theorem c_X11_type {w : Int64} {k : Int32} {K : Int32 → VH → Prop} (h0 : 4 < d) (h : Byt V 0 0 n) (hn : n ≤ 20000)
    (h1 : (∀ j, 1 ≤ j → j ≤ 8 → k ≠ nI j) → K (-1) V) (h2 : ∀ j, 1 ≤ j → j ≤ 8 → k = nI j → 20000 < n + j → K (-100000) V)
    (h3 : ∀ j, 1 ≤ j → j ≤ 8 → k = nI j → n + j ≤ 20000 → ∀ V', Bex V V' 0 0 n (n + j) → (∀ i, i < j → vI V' 0 1 (n + i) = bof w (j - 1 - i)) → K (nI (n + j)) V') : vMI E d M_X11_type [sl 0 28, wj w, wi k] V K := by
  refine w_X11_type_0 (by omega) ⟨fun q => h1 (fun j a b e => ?_), fun q => ⟨fun q2 => ?_, fun q2 => h1 (fun j a b e => ?_)⟩⟩
  · subst e; exact absurd ((nI_ltI (b := 1) (by omega) (by decide)).mp q) (by omega)
  · have h1' : ¬ k < 0 := lt01 q
    obtain ⟨j, hj, rfl⟩ := nI_of h1'
    have j1 : ¬ j < 1 := mt (nI_ltI (b := 1) hj (by decide)).mpr q
    have j8 : j ≤ 8 := (nI_leI (b := 8) hj (by decide)).mp q2
    rw [h.2.1, nI_add]
    refine ⟨fun q3 => ?_, fun q3 => ?_⟩
    · have hj3 : n + j ≤ 20000 := (nI_leI (b := 20000) (by omega) (by decide)).mp q3
      exact c_addNumber (by omega) h j8 (by omega) (fun V' q r => by rw [q.2.1.2.1]; exact h3 j (by omega) j8 rfl hj3 V' q r)
    · have hj3 : ¬ n + j ≤ 20000 := mt (nI_leI (b := 20000) (by omega) (by decide)).mpr q3
      exact h2 j (by omega) j8 rfl (by omega)
  · subst e; exact q2 (nI_le (b := 8) b (by decide))
/-- the reference's tape -/
def TpM (V : VH) (n : Nat) : Prop := vI V 6 0 1 = nI n ∧ n ≤ 20000
theorem c_X12_type_go {w : Int64} {m : Int32} {K : Int32 → VH → Prop} : ∀ (k n : Nat) (V : VH), TpM V n → k ≤ 8 → n + k ≤ 20000 → (∀ V', Fc V V' (fun a f i => a = 6 ∧ (f = 0 ∧ i = 1 ∨ f = 1 ∧ n ≤ i)) → TpM V' (n + k) → (∀ j, j < k → vI V' 6 1 (n + j) = bof w (k - 1 - j)) → K (nI (n + k)) V') → vwp E d M_X12_type 33 [some (sl 6 0), some (wj w), none, some (wi m), some (wi (nI k - 1))] [] V (zi K) := by
  intro k
  induction k with
  | zero =>
    intro n V h _ _ hk
    refine w_X12_type_33 ⟨fun _ => ?_, fun q => absurd (by decide) q⟩
    rw [h.1]
    exact hk V Fc.refl h (fun j hj => absurd hj (Nat.not_lt_zero j))
  | succ k ih =>
    intro n V h h8 hn hk
    rw [show nI (k + 1) - 1 = nI k from nI_pred k]
    refine w_X12_type_33 ⟨fun q => absurd q (nI_pos (by omega)), fun _ => ?_⟩
    rw [h.1]
    refine ⟨vp_in_nI (by omega) (by decide), fun V2 e2 V3 e3 => ?_⟩
    rw [nI_clamp (by omega), byte_eq w (show k < 8 by omega)] at e2
    have e21 : vI V2 6 0 1 = nI n := by rw [e2, wrI_ne (fun z => by omega)]; exact h.1
    rw [e21, nI_1] at e3
    rw [show nI k + (-1) = nI k - 1 from (Int32.sub_eq_add_neg _ _).symm]
    have f2 : Fc V V3 (fun a f i => a = 6 ∧ (f = 0 ∧ i = 1 ∨ f = 1 ∧ n ≤ i)) := by
      subst e3; subst e2
      exact (Fc_wrI ⟨rfl, Or.inr ⟨rfl, Nat.le_refl n⟩⟩).trans (Fc_wrI ⟨rfl, Or.inl ⟨rfl, rfl⟩⟩)
    have b3 : vI V3 6 1 n = bof w k := by
      rw [e3, wrI_ne (fun z => by omega), e2, wrI_at]; rfl
    refine ih (n + 1) V3 ⟨by rw [e3]; exact wrI_at, by omega⟩ (by omega) (by omega) (fun V4 f4 t4 b4 => ?_)
    have f4' : Fc V3 V4 (fun a f i => a = 6 ∧ (f = 0 ∧ i = 1 ∨ f = 1 ∧ n ≤ i)) := f4.mono (fun a f i q => ⟨q.1, by rcases q.2 with q | q; exact Or.inl q; exact Or.inr ⟨q.1, by omega⟩⟩)
    rw [show n + 1 + k = n + (k + 1) from by omega] at t4 ⊢
    refine hk V4 (f2.trans f4') t4 (fun j hj => ?_)
    by_cases c0 : j = 0
    · subst c0
      show vI V4 6 1 n = bof w k
      rw [f4.i (fun z => by omega), b3]
    · have := b4 (j - 1) (by omega)
      rw [show n + 1 + (j - 1) = n + j from by omega] at this
      rw [this]
      congr 1; omega
theorem c_X12_type {w : Int64} {k : Int32} {K : Int32 → VH → Prop} (h : TpM V n)
    (h1 : (∀ j, 1 ≤ j → j ≤ 8 → k ≠ nI j) → K (-1) V) (h2 : ∀ j, 1 ≤ j → j ≤ 8 → k = nI j → 20000 < n + j → K (-100000) V)
    (h3 : ∀ j, 1 ≤ j → j ≤ 8 → k = nI j → n + j ≤ 20000 → ∀ V', Fc V V' (fun a f i => a = 6 ∧ (f = 0 ∧ i = 1 ∨ f = 1 ∧ n ≤ i)) → TpM V' (n + j) → (∀ i, i < j → vI V' 6 1 (n + i) = bof w (j - 1 - i)) → K (nI (n + j)) V') : vMI E d M_X12_type [sl 6 0, wj w, wi k] V K := by
  have hn := h.2
  refine w_X12_type_0 ⟨fun q => h1 (fun j a b e => ?_), fun q => ⟨fun q2 => ?_, fun q2 => h1 (fun j a b e => ?_)⟩⟩
  · subst e; exact absurd ((nI_ltI (b := 1) (by omega) (by decide)).mp q) (by omega)
  · have h1' : ¬ k < 0 := lt01 q
    obtain ⟨j, hj, rfl⟩ := nI_of h1'
    have j1 : ¬ j < 1 := mt (nI_ltI (b := 1) hj (by decide)).mpr q
    have j8 : j ≤ 8 := (nI_leI (b := 8) hj (by decide)).mp q2
    rw [h.1, nI_add]
    refine ⟨fun q3 => ?_, fun q3 => ?_⟩
    · have hj3 : n + j ≤ 20000 := (nI_leI (b := 20000) (by omega) (by decide)).mp q3
      exact c_X12_type_go j n V h j8 hj3 (fun V' f t b => h3 j (by omega) j8 rfl hj3 V' f t b)
    · have hj3 : ¬ n + j ≤ 20000 := mt (nI_leI (b := 20000) (by omega) (by decide)).mpr q3
      exact h2 j (by omega) j8 rfl (by omega)
  · subst e; exact q2 (nI_le (b := 8) b (by decide))
/-- the class's tape becomes what the store holds -/
theorem c_X8_export {s cnt : Nat} {K : VH → Prop} (h0 : 4 < d) (h : Byt V 0 0 n) (hs : Byt V 0 24 s) (hs2 : s ≤ 20000) (hc : vI V 0 23 1 = nI cnt)
    (hk : ∀ V', Bex V V' 0 0 0 (2 + s + 8) → (∀ j, j < 2 → vI V' 0 1 j = bof (Int32.toInt64 (nI cnt)) (1 - j)) → (∀ j, j < s → vI V' 0 1 (2 + j) = vI V 0 25 j) → (∀ j, j < 8 → vI V' 0 1 (2 + s + j) = bof (sumS (vI V' 0 1) 0 (2 + s) 0) (7 - j)) → K V') : vMV E d M_X8_export [sl 0 23, sl 0 0] V K := by
  refine w_X8_export_0 h.1 (by omega) ?_
  refine c_keep (m := 0) h (Nat.zero_le _) (fun V1 f1 t1 => ?_)
  have c1 : vI V1 0 23 1 = nI cnt := by rw [f1.i (fun z => by omega)]; exact hc
  rw [c1]
  refine c_addNumber (k := 2) (by omega) t1 (by omega) (by omega) (fun V2 q2 r2 => ?_)
  have f2 : Fr V V2 (bR 0 0) := (f1.mono (fun a f z => ⟨z.1, Or.inl z.2⟩)).trans q2.1
  have nb1 : ¬ bR 0 0 0 24 := fun z => by obtain ⟨_, z⟩ := z; omega
  have nb2 : ¬ bR 0 0 0 25 := fun z => by obtain ⟨_, z⟩ := z; omega
  have s2 : Byt V2 0 24 s := hs.fr f2 nb1 nb2
  rw [s2.2.1]
  refine c_addAll (s := 0) (m := s) (by omega) q2.2.1 s2 (by omega) (by omega) (by omega) (fun V3 q3 r3 => ?_)
  rw [q3.2.1.2.1]
  refine c_sum (lo := 0) (hi := 0 + 2 + s) (by omega) q3.2.1 (by omega) (by omega) ?_
  refine c_addNumber (k := 8) (by omega) q3.2.1 (by omega) (by omega) (fun V4 q4 r4 => ?_)
  have e : 0 + 2 + s = 2 + s := by omega
  rw [e] at q4 r4
  have es : sumS (vI V3 0 (0 + 1)) 0 (2 + s - 0) 0 = sumS (vI V4 0 1) 0 (2 + s) 0 := sumS_congr _ 0 0 (fun i hi => by rw [Nat.zero_add i]; exact (q4.2.2 i (by omega)).symm)
  rw [e, es] at r4
  refine hk V4 ⟨(f2.trans q3.1).trans q4.1, q4.2.1, fun j hj => absurd hj (Nat.not_lt_zero j)⟩ (fun j hj => ?_) (fun j hj => ?_) (fun j hj => ?_)
  · have z1 := q4.2.2 j (by omega)
    have z2 := q3.2.2 j (by omega)
    have z3 := r2 j hj
    rw [Nat.zero_add j] at z3
    exact z1.trans (z2.trans z3)
  · have z1 := q4.2.2 (2 + j) (by omega)
    have z2 := r3 j hj
    rw [show 0 + 2 + j = 2 + j from by omega, Nat.zero_add j] at z2
    exact z1.trans (z2.trans (congrFun (f2.i nb2) j))
  · exact r4 j hj
/-- the reference's store -/
def StM (V : VH) (s : Nat) : Prop := vI V 6 0 89 = nI s ∧ s ≤ 19990
def tkS : Nat → Nat → Nat → Prop := fun a f i => a = 6 ∧ (f = 0 ∧ i = 1 ∨ f = 1)
theorem c_take_copy {s : Nat} {K : Int32 → VH → Prop} : ∀ (k i : Nat) (V : VH), StM V s → i + k = s → (∀ V', Fc V V' tkS → TpM V' (2 + s) → (∀ j, j < 2 + i → vI V' 6 1 j = vI V 6 1 j) → (∀ j, i ≤ j → j < s → vI V' 6 1 (2 + j) = i2b (vI V 6 59 j)) → vwp E d M_X12_take 62 [some (sl 6 0), some (wj 0), none, some (wi 0)] [] V' (zi K)) → vwp E d M_X12_take 20 [some (sl 6 0), some (wi (nI i)), none, none] [] V (zi K) := by
  intro k
  induction k with
  | zero =>
    intro i V hS e hk
    have hs := hS.2
    have : i = s := by omega
    subst this
    refine w_X12_take_20 ⟨fun _ V1 e1 => ?_, fun q => absurd (by rw [hS.1]; exact nI_le (Nat.le_refl _) (by omega)) q⟩
    rw [hS.1, show (2 : Int32) + nI i = nI (2 + i) from nI_add 2 i] at e1
    subst e1
    exact hk _ (Fc_wrI ⟨rfl, Or.inl ⟨rfl, rfl⟩⟩) ⟨wrI_at, by omega⟩ (fun j hj => wrI_ne (fun z => by omega)) (fun j h1 h2 => by omega)
  | succ k ih =>
    intro i V hS e hk
    have hs := hS.2
    refine w_X12_take_20 ⟨fun q => absurd q (by rw [hS.1]; exact nI_ge (by omega) (by omega)), fun _ => ?_⟩
    rw [show (2 : Int32) + nI i = nI (2 + i) from nI_add 2 i, nI_clamp (show i < 2 ^ 31 by omega), nI_clamp (show 2 + i < 2 ^ 31 by omega), nI_1]
    refine ⟨vp_in_nI (by omega) (by decide), vp_in_nI (by omega) (by decide), fun V4 e4 => ?_⟩
    have f4 : Fc V V4 tkS := by subst e4; exact Fc_wrI ⟨rfl, Or.inr rfl⟩
    refine ih (i + 1) V4 ⟨by rw [f4.i (fun z => by obtain ⟨_, z⟩ := z; omega)]; exact hS.1, hs⟩ (by omega) (fun V' f t r1 r2 => ?_)
    refine hk V' (f4.trans f) t (fun j hj => ?_) (fun j h1 h2 => ?_)
    · rw [r1 j (by omega), e4, wrI_ne (fun z => by omega)]
    · by_cases c : j = i
      · subst c
        rw [r1 (2 + j) (by omega), e4, wrI_at]
      · rw [r2 j (by omega) h2, f4.i (fun z => by obtain ⟨_, z⟩ := z; omega)]
theorem c_take_sum {m : Nat} {K : Int32 → VH → Prop} (h0 : 0 < d) (h : TpM V m) : ∀ (k i : Nat) (s : Int64), i + k = m → vwp E d M_X12_take 90 [some (sl 6 0), some (wj (sumS (vI V 6 1) i k s)), none, some (wi 7)] [] V (zi K) → vwp E d M_X12_take 62 [some (sl 6 0), some (wj s), none, some (wi (nI i))] [] V (zi K) := by
  have hm := h.2
  intro k
  induction k with
  | zero =>
    intro i s e hk
    rw [sumS_zero] at hk
    exact w_X12_take_62 h0 ⟨fun _ => hk, fun q => absurd (by rw [h.1]; exact nI_le (by omega) (by omega)) q⟩
  | succ k ih =>
    intro i s e hk
    refine w_X12_take_62 h0 ⟨fun q => absurd q (by rw [h.1]; exact nI_ge (by omega) (by omega)), fun _ => ⟨vp_in_nI (by omega) (by decide), w_X12_mixed_0 ?_⟩⟩
    rw [nI_clamp (by omega), nI_1, mix_def]
    rw [sumS_succ] at hk
    exact ih (i + 1) (mixS s (vI V 6 1 i)) (by omega) hk
theorem c_take_write {w : Int64} {K : Int32 → VH → Prop} : ∀ (k n : Nat) (V : VH), TpM V n → k ≤ 8 → n + k ≤ 20000 → (∀ V', Fc V V' (fun a f i => a = 6 ∧ (f = 0 ∧ i = 1 ∨ f = 1 ∧ n ≤ i)) → TpM V' (n + k) → (∀ j, j < k → vI V' 6 1 (n + j) = bof w (k - 1 - j)) → K (nI (n + k)) V') → vwp E d M_X12_take 90 [some (sl 6 0), some (wj w), none, some (wi (nI k - 1))] [] V (zi K) := by
  intro k
  induction k with
  | zero =>
    intro n V h _ _ hk
    refine w_X12_take_90 ⟨fun _ => ?_, fun q => absurd (by decide) q⟩
    rw [h.1]
    exact hk V Fc.refl h (fun j hj => absurd hj (Nat.not_lt_zero j))
  | succ k ih =>
    intro n V h h8 hn hk
    rw [show nI (k + 1) - 1 = nI k from nI_pred k]
    refine w_X12_take_90 ⟨fun q => absurd q (nI_pos (by omega)), fun _ => ?_⟩
    rw [h.1]
    refine ⟨vp_in_nI (by omega) (by decide), fun V2 e2 V3 e3 => ?_⟩
    rw [nI_clamp (by omega), byte_eq w (show k < 8 by omega)] at e2
    have e21 : vI V2 6 0 1 = nI n := by rw [e2, wrI_ne (fun z => by omega)]; exact h.1
    rw [e21, nI_1] at e3
    rw [show nI k + (-1) = nI k - 1 from (Int32.sub_eq_add_neg _ _).symm]
    have f2 : Fc V V3 (fun a f i => a = 6 ∧ (f = 0 ∧ i = 1 ∨ f = 1 ∧ n ≤ i)) := by
      subst e3; subst e2
      exact (Fc_wrI ⟨rfl, Or.inr ⟨rfl, Nat.le_refl n⟩⟩).trans (Fc_wrI ⟨rfl, Or.inl ⟨rfl, rfl⟩⟩)
    have b3 : vI V3 6 1 n = bof w k := by
      rw [e3, wrI_ne (fun z => by omega), e2, wrI_at]; rfl
    refine ih (n + 1) V3 ⟨by rw [e3]; exact wrI_at, by omega⟩ (by omega) (by omega) (fun V4 f4 t4 b4 => ?_)
    have f4' : Fc V3 V4 (fun a f i => a = 6 ∧ (f = 0 ∧ i = 1 ∨ f = 1 ∧ n ≤ i)) := f4.mono (fun a f i q => ⟨q.1, by rcases q.2 with q | q; exact Or.inl q; exact Or.inr ⟨q.1, by omega⟩⟩)
    rw [show n + 1 + k = n + (k + 1) from by omega] at t4 ⊢
    refine hk V4 (f2.trans f4') t4 (fun j hj => ?_)
    by_cases c0 : j = 0
    · subst c0
      show vI V4 6 1 n = bof w k
      rw [f4.i (fun z => by omega), b3]
    · have := b4 (j - 1) (by omega)
      rw [show n + 1 + (j - 1) = n + j from by omega] at this
      rw [this]
      congr 1; omega
theorem c_X12_take {s : Nat} {K : Int32 → VH → Prop} (h0 : 0 < d) (hS : StM V s) (hk : ∀ V', Fc V V' tkS → TpM V' (2 + s + 8) → vI V' 6 1 0 = i2b 0 → vI V' 6 1 1 = i2b (i2b (vI V 6 0 91)) → (∀ j, j < s → vI V' 6 1 (2 + j) = i2b (vI V 6 59 j)) → (∀ j, j < 8 → vI V' 6 1 (2 + s + j) = bof (sumS (vI V' 6 1) 0 (2 + s) 0) (7 - j)) → K (nI (2 + s + 8)) V') : vMI E d M_X12_take [sl 6 0] V K := by
  have hs := hS.2
  refine w_X12_take_0 (fun V2 e2 V4 e4 => ?_)
  have f4 : Fc V V4 tkS := by subst e4; subst e2; exact (Fc_wrI ⟨rfl, Or.inr rfl⟩).trans (Fc_wrI ⟨rfl, Or.inr rfl⟩)
  have b0 : vI V4 6 1 0 = i2b 0 := by
    rw [e4, wrI_ne (fun z => by have := z.2.2; revert this; decide), e2]; exact wrI_at
  have b1 : vI V4 6 1 1 = i2b (i2b (vI V 6 0 91)) := by
    rw [e4, show vI (wrI V2 6 1 (Int32.toNatClampNeg 1) (i2b (i2b (vI V2 6 0 91)))) 6 1 1 = i2b (i2b (vI V2 6 0 91)) from wrI_at, e2, wrI_ne (fun z => by have := z.2.1; omega)]
  refine c_take_copy s 0 V4 ⟨by rw [f4.i (fun z => by obtain ⟨_, z⟩ := z; omega)]; exact hS.1, hs⟩ (by omega) (fun V5 f5 t5 r1 r2 => ?_)
  refine c_take_sum h0 t5 (2 + s) 0 0 (by omega) ?_
  refine c_take_write 8 (2 + s) V5 t5 (by omega) (by omega) (fun V6 f6 t6 b6 => ?_)
  have f6' : Fc V5 V6 tkS := f6.mono (fun a f i q => ⟨q.1, by rcases q.2 with q | q; exact Or.inl q; exact Or.inr q.1⟩)
  have es : sumS (vI V5 6 1) 0 (2 + s) 0 = sumS (vI V6 6 1) 0 (2 + s) 0 := sumS_congr _ 0 0 (fun i hi => (f6.i (fun z => by omega)).symm)
  rw [es] at b6
  refine hk V6 ((f4.trans f5).trans f6') t6 ?_ ?_ (fun j hj => ?_) (fun j hj => b6 j hj)
  · rw [f6.i (fun z => by omega), r1 0 (by omega)]; exact b0
  · rw [f6.i (fun z => by omega), r1 1 (by omega)]; exact b1
  · rw [f6.i (fun z => by omega), r2 j (by omega) hj, f4.i (fun z => by obtain ⟨_, z⟩ := z; omega)]
end
