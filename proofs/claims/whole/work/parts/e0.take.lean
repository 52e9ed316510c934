/-! take, crash -/
theorem i2b_fit {v : Int32} (h : okT 1 v) : i2b v = v := by
  have h : (decide (-128 ≤ v) && decide (v ≤ 127)) = true := h
  rw [Bool.and_eq_true, decide_eq_true_iff, decide_eq_true_iff, Int32.le_iff_toInt_le, Int32.le_iff_toInt_le, show (-128 : Int32).toInt = -128 by decide, show (127 : Int32).toInt = 127 by decide] at h
  refine Int32.toInt_inj.mp ?_
  unfold i2b
  rw [Int8.toInt_toInt32, Int32.toInt_toInt8]
  exact Int.bmod_eq_of_le (by omega) (by omega)
theorem bof_c : ∀ c, c < 101 → bof (Int32.toInt64 (nI c)) 1 = i2b 0 ∧ bof (Int32.toInt64 (nI c)) 0 = i2b (i2b (nI c)) := by decide +kernel
/-- rows that are kept -/
def lsK (en : Nat → Nat) (w m : Nat) : Nat → Nat
  | 0 => 0
  | k + 1 => if k + 1 ≤ w ∨ en (k + 1) - en w ≤ m then k + 1 else lsK en w m k
theorem lsK_s {en : Nat → Nat} {w m k : Nat} : lsK en w m (k + 1) = if k + 1 ≤ w ∨ en (k + 1) - en w ≤ m then k + 1 else lsK en w m k := by rw [lsK]
theorem lsK_le {en : Nat → Nat} {w m : Nat} : ∀ k, lsK en w m k ≤ k := by
  intro k
  induction k with
  | zero => rw [lsK]; exact Nat.le_refl _
  | succ k ih =>
    rw [lsK_s]
    by_cases c : k + 1 ≤ w ∨ en (k + 1) - en w ≤ m
    · rw [if_pos c]; exact Nat.le_refl _
    · rw [if_neg c]; omega
theorem en_mono {en : Nat → Nat} {c : Nat} (h : ∀ k, k < c → en k ≤ en (k + 1)) : ∀ i j, i ≤ j → j ≤ c → en i ≤ en j := by
  intro i j
  induction j with
  | zero => intro h1 _; rw [show i = 0 by omega]; exact Nat.le_refl _
  | succ j ih =>
    intro h1 h2
    by_cases e : i = j + 1
    · rw [e]; exact Nat.le_refl _
    · exact Nat.le_trans (ih (by omega) (by omega)) (h j (by omega))
section
variable {E : EE} {d : Nat} {V : VH} {en : Nat → Nat} {w c m : Nat}
def cr0 (a f : Nat) : Prop := a = 0 ∧ (f = 23 ∨ f = 24)
theorem c_lose_go {K : Int32 → VH → Prop} (h0 : 2 < d) (c100 : c ≤ 100) (e20 : en c ≤ 20000) (mono : ∀ k, k < c → en k ≤ en (k + 1)) (hw : w ≤ c) (hm : m < 2 ^ 31) (e26 : ∀ k, k < c → vI V 0 26 k = nI (en (k + 1))) (e4 : vI V 0 23 4 = nI w) (en0 : en 0 = 0) (hb : Byt V 0 24 (en c)) (hk : ∀ V', Fr V V' cr0 → Byt V' 0 24 (en (lsK en w m c)) → vI V' 0 23 1 = nI (lsK en w m c) → vI V' 0 23 4 = -1 → K (nI (lsK en w m c)) V') :
    ∀ k V1, k ≤ c → lsK en w m k = lsK en w m c → Fr V V1 cr0 → (∀ j, j ≠ 1 → vI V1 0 23 j = vI V 0 23 j) → vI V1 0 23 1 = nI k → Byt V1 0 24 (en c) → vwp E d M_X8_lose 35 [some (sl 0 23), some (wi (nI m)), some (wi (nI (en w)))] [] V1 (zi K) := by
  have em := en_mono mono
  have nk : ∀ k, nI (k + 1) - 1 = nI k := fun k => by rw [show (1 : Int32) = nI 1 from rfl, nI_sub (by omega)]; rfl
  have stop : ∀ k V1, k ≤ c → lsK en w m c = k → Fr V V1 cr0 → (∀ j, j ≠ 1 → vI V1 0 23 j = vI V 0 23 j) → vI V1 0 23 1 = nI k → Byt V1 0 24 (en c) → vwp E d M_X8_lose 76 [some (sl 0 23), some (wi (nI m)), some (wi (nI (en w)))] [] V1 (zi K) := fun k V1 hk' ek f1 r1 e1 b1 => by
    have fin : vwp E d M_X8_lose 102 [some (sl 0 23), some (wi (nI m)), some (wi (nI (en w)))] [wi (nI (en k)), sl 0 24] V1 (zi K) := by
      refine w_X8_lose_102 b1.1 (by omega) (c_keep b1 (em k c hk' (Nat.le_refl c)) (fun V2 f2 b2 V4 e4' => ?_))
      have f4 : Fr V2 V4 cr0 := by rw [e4']; exact Fr_wrI ⟨rfl, Or.inl rfl⟩
      have f24 : Fr V V2 cr0 := f1.trans (f2.mono (fun a f z => ⟨z.1, Or.inr z.2⟩))
      have e1' : vI V4 0 23 1 = nI k := by rw [e4', wrI_ne (fun z => by omega), f2.i (fun z => by have := z.2; omega)]; exact e1
      rw [e1']
      have := hk V4 (f24.trans f4)
      rw [ek] at this
      refine this ?_ e1' (by rw [e4', wrI_at])
      rw [e4']
      exact b2.fc2 (Fc_wrI (S := fun a f j => a = 0 ∧ f = 23) ⟨rfl, rfl⟩) (fun y => by have := y.2; omega)
    refine w_X8_lose_76 ?_
    rw [e1]
    cases k with
    | zero =>
      refine ⟨fun z => absurd rfl z, fun _ => ?_⟩
      rw [en0] at fin; exact fin
    | succ k =>
      rw [nk]
      refine ⟨fun _ => ⟨vp_in_nI (by omega) (by decide), ?_⟩, fun z => absurd ((nI_eq (b := 0) (by omega) (by decide)).mp z) (by omega)⟩
      rw [nI_clamp (show k < 2 ^ 31 by omega), f1.i (fun z => by have := z.2; omega), e26 k (by omega)]
      exact fin
  intro k
  induction k with
  | zero =>
    intro V1 hk' ek f1 r1 e1 b1
    refine w_X8_lose_35 ?_
    rw [e1, r1 4 (by decide), e4]
    exact ⟨fun _ => stop 0 V1 hk' (by rw [← ek, lsK]) f1 r1 e1 b1, fun z => absurd (nI_le (Nat.zero_le w) (by omega)) z⟩
  | succ k ih =>
    intro V1 hk' ek f1 r1 e1 b1
    rw [lsK_s] at ek
    have ee := em (k + 1) c hk' (Nat.le_refl c)
    refine w_X8_lose_35 ?_
    rw [e1, r1 4 (by decide), e4]
    refine ⟨fun z => ?_, fun z => ?_⟩
    · have kw : k + 1 ≤ w := Nat.le_of_not_lt (fun y => absurd z (nI_ge y (by omega)))
      rw [if_pos (Or.inl kw)] at ek
      exact stop (k + 1) V1 hk' ek.symm f1 r1 e1 b1
    · have kw : w < k + 1 := Nat.lt_of_not_le (fun y => z (nI_le y (by omega)))
      have ew := em w (k + 1) (by omega) hk'
      rw [nk, nI_clamp (show k < 2 ^ 31 by omega), f1.i (fun z => by have := z.2; omega), e26 k (by omega), nI_sub ew]
      refine ⟨vp_in_nI (by omega) (by decide), fun y => ?_, fun y V2 e2 => ?_⟩
      · have le : en (k + 1) - en w ≤ m := Nat.le_of_not_lt (fun u => absurd y (nI_ge u (by omega)))
        rw [if_pos (Or.inr le)] at ek
        exact stop (k + 1) V1 hk' ek.symm f1 r1 e1 b1
      · have gt : ¬ en (k + 1) - en w ≤ m := fun u => y (nI_le u hm)
        rw [if_neg (fun u => by omega)] at ek
        refine ih V2 (by omega) ek (f1.trans (by rw [e2]; exact Fr_wrI ⟨rfl, Or.inl rfl⟩)) (fun j hj => by rw [e2, wrI_ne (fun z => hj z.2.2)]; exact r1 j hj) (by rw [e2, wrI_at]) ?_
        rw [e2]
        exact b1.fc2 (Fc_wrI (S := fun a f j => a = 0 ∧ f = 23) ⟨rfl, rfl⟩) (fun y => by have := y.2; omega)
def cr6 (a f j : Nat) : Prop := a = 6 ∧ f = 0 ∧ (j = 89 ∨ j = 91 ∨ j = 92)
theorem i2l_le {a b : Nat} (ha : a < 2 ^ 31) (hb : b < 2 ^ 62) : Int32.toInt64 (nI a) ≤ nL b ↔ a ≤ b := by
  rw [i2l_nI ha, Int64.le_iff_toInt_le]
  have e : ∀ x, x < 2 ^ 62 → (nL x).toInt = (x : Int) := fun x hx => Int64.toInt_ofNat_of_lt (by omega)
  rw [e a (by omega), e b hb]
  omega
theorem crash_go {K : Int32 → VH → Prop} (c100 : c ≤ 100) (e20 : en c ≤ 20000) (mono : ∀ k, k < c → en k ≤ en (k + 1)) (hw : w ≤ c) (hm : m < 2 ^ 31) (e60 : ∀ k, k ≤ c → vI V 6 60 k = nI (en k)) (e92 : vI V 6 0 92 = nI w) (hk : ∀ V', Fc V V' cr6 → vI V' 6 0 89 = nI (en (lsK en w m c)) → vI V' 6 0 91 = nI (lsK en w m c) → vI V' 6 0 92 = -1 → K (nI (lsK en w m c)) V') :
    ∀ k V1, k ≤ c → lsK en w m k = lsK en w m c → Fc V V1 cr6 → (∀ j, j ≠ 91 → vI V1 6 0 j = vI V 6 0 j) → vI V1 6 0 91 = nI k → vwp E d M_X12_crash 27 [some (sl 6 0), some (wi (nI m)), some (wj (nL (en w + m))), none] [] V1 (zi K) := by
  have em := en_mono mono
  have nk : ∀ k, nI (k + 1) - 1 = nI k := fun k => by rw [show (1 : Int32) = nI 1 from rfl, nI_sub (by omega)]; rfl
  have stop : ∀ k V1, k ≤ c → lsK en w m c = k → Fc V V1 cr6 → vI V1 6 0 91 = nI k → vwp E d M_X12_crash 66 [some (sl 6 0), some (wi (nI m)), some (wj (nL (en w + m))), none] [] V1 (zi K) := fun k V1 hk' ek f1 e1 => by
    refine w_X12_crash_66 ?_
    rw [e1, nI_clamp (show k < 2 ^ 31 by omega), f1.i (fun y => by have := y.2; omega), e60 k hk']
    refine ⟨vp_in_nI (by omega) (by decide), fun V2 e2 V3 e3 => w_X12_crash_84 ?_⟩
    have k3 : Fc V1 V3 cr6 := by rw [e3, e2]; exact (Fc_wrI ⟨rfl, rfl, Or.inl rfl⟩).trans (Fc_wrI ⟨rfl, rfl, Or.inr (Or.inr rfl)⟩)
    have e91 : vI V3 6 0 91 = nI k := by rw [e3, wrI_ne (fun z => by omega), e2, wrI_ne (fun z => by omega)]; exact e1
    rw [e91]
    have := hk V3 (f1.trans k3)
    rw [ek] at this
    exact this (by rw [e3, wrI_ne (fun z => by omega), e2, wrI_at]) e91 (by rw [e3, wrI_at])
  intro k
  induction k with
  | zero =>
    intro V1 hk' ek f1 r1 e1
    refine w_X12_crash_27 ?_
    rw [e1, r1 92 (by decide), e92]
    exact ⟨fun _ => stop 0 V1 hk' (by rw [← ek, lsK]) f1 e1, fun z => absurd (nI_le (Nat.zero_le w) (by omega)) z⟩
  | succ k ih =>
    intro V1 hk' ek f1 r1 e1
    rw [lsK_s] at ek
    have ee := em (k + 1) c hk' (Nat.le_refl c)
    have ew0 := em w c hw (Nat.le_refl c)
    refine w_X12_crash_27 ?_
    rw [e1, r1 92 (by decide), e92]
    refine ⟨fun z => ?_, fun z => ?_⟩
    · have kw : k + 1 ≤ w := Nat.le_of_not_lt (fun y => absurd z (nI_ge y (by omega)))
      rw [if_pos (Or.inl kw)] at ek
      exact stop (k + 1) V1 hk' ek.symm f1 e1
    · have kw : w < k + 1 := Nat.lt_of_not_le (fun y => z (nI_le y (by omega)))
      have ew := em w (k + 1) (by omega) hk'
      rw [nI_clamp (show k + 1 < 2 ^ 31 by omega), f1.i (fun y => by have := y.2; omega), e60 (k + 1) hk', nk]
      refine ⟨vp_in_nI (by omega) (by decide), fun y => ?_, fun y V2 e2 => ?_⟩
      · have le := (i2l_le (by omega) (by omega)).mp y
        rw [if_pos (Or.inr (by omega))] at ek
        exact stop (k + 1) V1 hk' ek.symm f1 e1
      · have gt : ¬ en (k + 1) ≤ en w + m := fun u => y ((i2l_le (by omega) (by omega)).mpr u)
        rw [if_neg (fun u => by omega)] at ek
        exact ih V2 (by omega) ek (f1.trans (by rw [e2]; exact Fc_wrI ⟨rfl, rfl, Or.inr (Or.inl rfl)⟩)) (fun j hj => by rw [e2, wrI_ne (fun z => hj z.2.2)]; exact r1 j hj) (by rw [e2, wrI_at])
end
section
variable {E : EE} {d x B B' : Nat}
theorem o_take (h0 : 8 < d) (hB : B ≤ B') : VO_take E d (JA x B) (JA x B') := fun V hJ => liftI hJ (fun hW hS => by
  obtain ⟨n, by0, tp, teq⟩ := hS.1
  obtain ⟨c, m, en, ⟨a1, a2, a3⟩, ⟨b1, b2, b3⟩, _⟩ := hS.2.2.2.2.1
  have m20 := b2.2
  have by59 : ∀ j, i2b (vI V 6 59 j) = vI V 6 59 j := fun j => i2b_fit (hW.2.2 6 59 j hW.1.2.1 (by decide))
  refine w_X11_take_0 (by omega) (c_X8_export (s := m) (cnt := c) (by omega) by0 b1 (by omega) a1 (fun V1 b s1 s2 s3 => ?_))
  have i6 : ∀ f, vI V1 6 f = vI V 6 f := fr6 b.1 (by decide)
  rw [b.2.1.2.1]
  refine c_X12_take (s := m) (by omega) ⟨by rw [i6]; exact b2.1, b2.2⟩ (fun V2 f2 t2 r0 r1 r2 r3 => ⟨rfl, fun w2 => (hS.tap b.1 f2 (fun a f i y => Or.inr ⟨y.1, by have := y.2; omega⟩) ?_ w2).mono hB⟩)
  have e0 : ∀ i, vI V2 0 1 i = vI V1 0 1 i := fun i => f2.i (fun y => absurd y.1 (by decide))
  have low : ∀ i, i < 2 + m → vI V1 0 1 i = vI V2 6 1 i := fun i hi => by
    by_cases c0 : i = 0
    · rw [c0, s1 0 (by decide), r0]; exact (bof_c c (by omega)).1
    · by_cases c1 : i = 1
      · rw [c1, s1 1 (by decide), r1, i6, a2]; exact (bof_c c (by omega)).2
      · have ei : i = 2 + (i - 2) := by omega
        rw [ei, s2 (i - 2) (by omega), r2 (i - 2) (by omega), i6, by59]
        exact b3 (i - 2) (by omega)
  refine ⟨2 + m + 8, b.2.1.fc2 f2 (fun y => absurd y.1 (by decide)), t2, fun i hi => ?_⟩
  rw [e0]
  by_cases ci : i < 2 + m
  · exact low i ci
  · have ei : i = 2 + m + (i - (2 + m)) := by omega
    rw [ei, s3 _ (by omega), r3 _ (by omega), sumS_congr (t := vI V1 0 1) (t' := vI V2 6 1) (2 + m) 0 0 (fun j hj => by rw [Nat.zero_add]; exact low j hj)])
theorem o_crash (h0 : 8 < d) (hB : B ≤ B') : VO_crash E d (JA x B) (JA x B') := fun V a0 hJ => liftI hJ (fun hW hS => by
  obtain ⟨c, m, en, ⟨a1, a2, a3⟩, ⟨b1, b2, b3⟩, ⟨c1, c2, c3, c4⟩, e⟩ := hS.2.2.2.2.1
  have fin : ∀ (r : Int32), r = r ∧ (WF V → JS B' V) := fun r => ⟨rfl, fun _ => hS.mono hB⟩
  have m20 := b2.2
  refine w_X11_crash_0 (by omega) ⟨fun z => ?_, fun z => w_X12_crash_0 ⟨fun y => absurd y z, fun _ => fin _⟩⟩
  obtain ⟨k, hk, ek⟩ := nI_ofn (Int32.not_lt.mpr z)
  subst ek
  rcases e with ⟨e1, e2⟩ | ⟨w, wc, e1, e2⟩
  · refine w_X8_lose_0 ?_
    rw [e1, a1]
    refine ⟨fun y => absurd y (by decide), fun _ => w_X12_crash_0 ⟨fun _ => ?_, fun y => absurd z y⟩⟩
    rw [e2]
    refine ⟨fun _ => w_X12_crash_84 ?_, fun y => absurd (by decide) y⟩
    rw [a2]; exact fin _
  · have mono : ∀ k, k < c → en k ≤ en (k + 1) := fun k hk => (c3 k hk).2.1
    have e20 : en c ≤ 20000 := by omega
    have ew := en_mono mono w c wc (Nat.le_refl c)
    have main : vwp E (d - 1) M_X8_lose 34 [some (sl 0 23), some (wi (nI k)), none] [wi (nI (en w))] V (zi (fun r V1 => vMI E d M_X12_crash [sl 6 0, wi (nI k)] V1 (fun r' V2 => r = r' ∧ (WF V2 → JS B' V2)))) := by
      refine w_X8_lose_34 (c_lose_go (w := w) (c := c) (m := k) (en := en) (by omega) a3 e20 mono wc hk (fun j hj => (c3 j hj).1) e1 c1 (by rw [c2]; exact b1) (fun V1 f1 bt1 g1 g4 => ?_) c V (Nat.le_refl c) rfl Fr.refl (fun _ _ => rfl) a1 (by rw [c2]; exact b1))
      have i6 : ∀ f, vI V1 6 f = vI V 6 f := fun f => f1.i (fun y => absurd y.1 (by decide))
      have l1 := lsK_le (en := en) (w := w) (m := k) c
      refine w_X12_crash_0 ⟨fun _ => ?_, fun y => absurd z y⟩
      rw [i6, i6, e2, nI_clamp (show w < 2 ^ 31 by omega), c4 w wc, i2l_nI (by omega), i2l_nI hk, nL_add]
      refine ⟨fun y => absurd y (nI_pos (by omega)), fun _ => ⟨vp_in_nI (by omega) (by decide), crash_go (V := V1) (w := w) (c := c) (m := k) (en := en) a3 e20 mono wc hk (fun j hj => by rw [i6]; exact c4 j hj) (by rw [i6]; exact e2) (fun V2 f2 h89 h91 h92 => ⟨rfl, fun w2 => ?_⟩) c V1 (Nat.le_refl c) rfl Fc.refl (fun _ _ => rfl) (by rw [i6]; exact a2)⟩⟩
      generalize lsK en w k c = c' at *
      have ec' := en_mono mono c' c l1 (Nat.le_refl c)
      have i0 : ∀ f j, vI V2 0 f j = vI V1 0 f j := fun f j => f2.i (fun y => absurd y.1 (by decide))
      have k0 : ∀ f, f ≠ 23 → f ≠ 24 → vI V1 0 f = vI V 0 f := fun f h1 h2 => f1.i (fun y => by have := y.2; omega)
      have n0 : ∀ f, f ≠ 23 → f ≠ 24 → vN V1 0 f = vN V 0 f := fun f h1 h2 => f1.n (fun y => by have := y.2; omega)
      have i62 : ∀ f j, ¬ (f = 0 ∧ (j = 89 ∨ j = 91 ∨ j = 92)) → vI V2 6 f j = vI V 6 f j := fun f j y => by rw [f2.i (fun z => y z.2), i6]
      refine (hS.g0 f1 f2 (fun a f y => ⟨y.1, by have := y.2; omega⟩) (fun a f j y => Or.inr ⟨y.1, Or.inl ⟨y.2.1, by have := y.2.2; omega⟩⟩) ?_ ?_ ?_ w2).mono hB
      · obtain ⟨n, by0, tp, teq⟩ := hS.1
        refine ⟨n, (f1.byt by0 (fun y => by have := y.2; omega) (fun y => by have := y.2; omega)).fc2 f2 (fun y => absurd y.1 (by decide)), ⟨by rw [i62 0 1 (by omega)]; exact tp.1, tp.2⟩, fun i hi => ?_⟩
        rw [i0, k0 1 (by decide) (by decide), i62 1 i (by omega)]; exact teq i hi
      · have a := hS.2.1
        refine ⟨?_, ?_, ?_⟩
        · rw [i0, k0 28 (by decide) (by decide), i62 0 4 (by omega)]; exact a.1
        · rw [f2.j (fun y => absurd y.1 (by decide)), f1.j (fun y => by have := y.2; omega), f2.j (fun y => by have := y.2.2; omega), f1.j (fun y => absurd y.1 (by decide))]; exact a.2.1
        · rw [f2.j (fun y => absurd y.1 (by decide)), f1.j (fun y => by have := y.2; omega), f2.j (fun y => by have := y.2.2; omega), f1.j (fun y => absurd y.1 (by decide))]; exact a.2.2
      · refine ⟨c', en c', en, ⟨by rw [i0]; exact g1, h91, by omega⟩, ⟨bt1.fc2 f2 (fun y => absurd y.1 (by decide)), ⟨h89, by omega⟩, fun i hi => ?_⟩, ⟨c1, rfl, fun j hj => ⟨?_, mono j (by omega), ?_⟩, fun j hj => ?_⟩, Or.inl ⟨by rw [i0]; exact g4, h92⟩⟩
        · rw [i0, k0 25 (by decide) (by decide), i62 59 i (by omega)]; exact b3 i (by omega)
        · rw [i0, k0 26 (by decide) (by decide)]; exact (c3 j (by omega)).1
        · have e25 : vI V2 0 25 = vI V 0 25 := funext fun i => by rw [i0, k0 25 (by decide) (by decide)]
          rw [e25]; exact (c3 j (by omega)).2.2
        · rw [i62 60 j (by omega)]; exact c4 j (by omega)
    refine w_X8_lose_0 ?_
    rw [e1]
    refine ⟨fun _ => ⟨fun y => ?_, fun y => ?_⟩, fun y => absurd (nI_le (a := 0) (Nat.zero_le w) (by omega)) y⟩
    · have w0 : 1 ≤ w := by
        by_cases c : w = 0
        · rw [c] at y; exact absurd rfl y
        · omega
      rw [show (1 : Int32) = nI 1 from rfl, nI_sub w0, nI_clamp (show w - 1 < 2 ^ 31 by omega), (c3 (w - 1) (by omega)).1, show w - 1 + 1 = w by omega]
      exact ⟨vp_in_nI (by omega) (by decide), main⟩
    · have w0 : w = 0 := (nI_eq (b := 0) (by omega) (by decide)).mp y
      have ez : nI (en w) = 0 := by rw [w0, c1]; rfl
      rw [ez] at main; exact main)
end
