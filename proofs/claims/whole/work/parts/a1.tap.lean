/-! the tape; what is asked for -/
section
variable {V V1 V2 : VH} {B : Nat}
/-- tape, store and what was told change -/
theorem JS.g0 {S1 : Nat → Nat → Prop} {S2 : Nat → Nat → Nat → Prop} (hJ : JS B V) (k1 : Fr V V1 S1) (k2 : Fc V1 V2 S2) (s1 : ∀ a f, S1 a f → a = 0 ∧ (f < 2 ∨ 23 ≤ f)) (s2 : ∀ a f j, S2 a f j → a = 0 ∧ (f < 2 ∨ 23 ≤ f) ∨ a = 6 ∧ (f = 0 ∧ (j ≤ 4 ∨ 89 ≤ j) ∨ f = 1 ∨ f = 59 ∨ f = 60 ∨ f = 61)) (tp : TpJ V2) (bd : BdJ V2) (st : StJ V2) (hW : WF V2) : JS B V2 := by
  obtain ⟨a1, a2, ⟨cap, a3, a15⟩, a4, a5, a6, a7, a8, a9⟩ := hJ
  have n6 : ∀ f, ¬ S1 6 f := fun f y => by have := s1 _ _ y; omega
  have ng : ∀ g f, 1 ≤ g → ¬ S1 g f := fun g f h y => by have := s1 _ _ y; omega
  have i6 : ∀ f j, ¬ (f = 0 ∧ (j ≤ 4 ∨ 89 ≤ j) ∨ f = 1 ∨ f = 59 ∨ f = 60 ∨ f = 61) → vI V2 6 f j = vI V 6 f j := fun f j z => by rw [k2.i (fun y => by have := s2 _ _ _ y; omega), k1.i (n6 f)]
  have i0 : ∀ f j, 2 ≤ f → f < 23 → vI V2 0 f j = vI V 0 f j := fun f j z1 z2 => by rw [k2.i (fun y => by have := s2 _ _ _ y; omega), k1.i (fun y => by have := s1 _ _ y; omega)]
  have n0 : ∀ f, 2 ≤ f → f < 23 → vN V2 0 f = vN V 0 f := fun f z1 z2 => by rw [k2.n, k1.n (fun y => by have := s1 _ _ y; omega)]
  have nn : ∀ g f, 1 ≤ g → vN V2 g f = vN V g f := fun g f h => by rw [k2.n, k1.n (ng g f h)]
  have ll : vL V2 = vL V := by rw [k2.l, k1.1]
  have tk : TkN V2 cap := by unfold TkN; rw [n0 3 (by omega) (by omega), n0 4 (by omega) (by omega), n0 5 (by omega) (by omega), n0 6 (by omega) (by omega)]; exact a3
  have gr : GrJ V2 := ⟨fun g h1 h2 h3 => by
    rw [ll] at h3
    have e : V2.2.2.1 = V1.2.2.1 := k2.2.2.1
    have e1 : vP V2 = vP V := by rw [← k1.2.1]; unfold vP; rw [e]
    have e2 : vQ V2 = vQ V := by rw [← k1.2.2.1]; unfold vQ; rw [e]
    rw [e1, e2]
    exact a6.1 g h1 h2 h3, fun g h1 h2 h3 => by
    rw [ll] at h3
    obtain ⟨c1, c2, l, c3⟩ := a6.2 g h1 h2 h3
    refine ⟨?_, ?_, l, (k1.byt c3 (ng g _ h1) (ng g _ h1)).fc2 k2 (fun y => by have := s2 _ _ _ y; omega)⟩
    · unfold CpS; rw [nn g _ h1, nn g _ h1]; exact c1
    · unfold TbN; rw [nn g _ h1, nn g _ h1, nn g _ h1]; exact c2⟩
  refine ⟨tp, bd, ⟨cap, tk, by rw [n0 15 (by omega) (by omega)]; exact a15⟩, ?_, st, gr, ?_, CapOK.js hW tp tk st gr ?_, fun q hq => ?_⟩
  · unfold SeJ
    rw [i0 16 0 (by omega) (by omega), i0 16 1 (by omega) (by omega), i0 16 2 (by omega) (by omega), i0 16 3 (by omega) (by omega), i6 0 76 (by omega), i6 0 77 (by omega), i6 0 78 (by omega), i6 0 79 (by omega)]
    exact a4
  · obtain ⟨s, c, b1, b2, b3, b4⟩ := a7
    exact ⟨s, c, fun q hq => by rw [i6 33 q (by omega)]; exact b1 q hq, by rw [i6 0 63 (by omega)]; exact b2, b3, fun q hq e => b4 q hq (by rw [i6 0 62 (by omega)] at e; exact e)⟩
  · rw [n0 15 (by omega) (by omega)]
    exact a8 0 15 (by rw [← ll]; exact hW.1.1) (by decide) (by decide)
  · refine ((a9 q hq).fr k1 (fun f => ng _ f (by omega)) n6).fc hq k2 (fun a f j y z => ?_) (Or.inl (fun a f j y z => ?_))
    · have := s2 _ _ _ y
      rcases z with z | ⟨z, ⟨z1, z2⟩ | z⟩
      · omega
      · omega
      · have := z.1; have := z.2.1; omega
    · have := s2 _ _ _ y
      unfold Cch at z
      omega
theorem TpJ.ex {S : Nat → Nat → Nat → Prop} (h : TpJ V) (k : Fc V V2 S) (z1 : ∀ f j, f < 2 → ¬ S 0 f j) (z2 : ¬ S 6 0 1) (z3 : ∀ j, ¬ S 6 1 j) : TpJ V2 := by
  obtain ⟨n, h1, h2, h3⟩ := h
  exact ⟨n, h1.fc2 k (z1 _ _ (by decide)), ⟨by rw [k.i z2]; exact h2.1, h2.2⟩, fun i hi => by rw [k.i (z1 1 i (by decide)), k.i (z3 i)]; exact h3 i hi⟩
theorem StJ.ex {S : Nat → Nat → Nat → Prop} (h : StJ V) (k : Fc V V2 S) (z1 : ∀ f j, 23 ≤ f → f ≤ 26 → ¬ S 0 f j) (z2 : ∀ j, j = 89 ∨ j = 91 ∨ j = 92 → ¬ S 6 0 j) (z3 : ∀ f j, f = 59 ∨ f = 60 → ¬ S 6 f j) : StJ V2 := by
  obtain ⟨c, m, en, ⟨a1, a2, a3⟩, ⟨b1, b2, b3⟩, ⟨c1, c2, c3, c4⟩, e⟩ := h
  have r25 : vI V2 0 25 = vI V 0 25 := funext fun j => k.i (z1 25 j (by decide) (by decide))
  refine ⟨c, m, en, ⟨by rw [k.i (z1 _ _ (by decide) (by decide))]; exact a1, by rw [k.i (z2 _ (by omega))]; exact a2, a3⟩, ⟨b1.fc2 k (z1 _ _ (by decide) (by decide)), ⟨by rw [k.i (z2 _ (by omega))]; exact b2.1, b2.2⟩, fun i hi => by rw [r25, k.i (z3 59 i (by omega))]; exact b3 i hi⟩, ⟨c1, c2, fun i hi => by rw [k.i (z1 _ _ (by decide) (by decide)), r25]; exact c3 i hi, fun i hi => by rw [k.i (z3 60 i (by omega))]; exact c4 i hi⟩, ?_⟩
  rw [k.i (z1 _ _ (by decide) (by decide)), k.i (z2 _ (by omega))]
  exact e
/-- the tape alone -/
theorem JS.tap {S2 : Nat → Nat → Nat → Prop} (hJ : JS B V) (k1 : Fr V V1 (bR 0 0)) (k2 : Fc V1 V2 S2) (s2 : ∀ a f j, S2 a f j → a = 0 ∧ f < 2 ∨ a = 6 ∧ (f = 0 ∧ j = 1 ∨ f = 1)) (tp : TpJ V2) (hW : WF V2) : JS B V2 := by
  have n6 : ∀ f, ¬ bR 0 0 6 f := fun f y => by have := y.1; omega
  refine hJ.g0 k1 k2 (fun a f y => ⟨y.1, by have := y.2; omega⟩) (fun a f j y => by have := s2 _ _ _ y; omega) tp ?_ ?_ hW
  · have a2 := hJ.2.1
    have b1 : BdJ V1 := by
      unfold BdJ
      rw [k1.i (fun y => by have := y.2; omega), k1.j (fun y => by have := y.2; omega), k1.i (n6 0), k1.j (n6 0)]
      exact a2
    exact b1.ex k2 (fun y => by have := s2 _ _ _ y; omega) (fun y => by have := s2 _ _ _ y; omega) (fun y => by have := s2 _ _ _ y; omega) (fun y => by have := s2 _ _ _ y; omega) (fun y => by have := s2 _ _ _ y; omega) (fun y => by have := s2 _ _ _ y; omega)
  · exact (hJ.2.2.2.2.1.fr k1 (fun f h1 h2 y => by have := y.2; omega) n6).ex k2 (fun f j h1 h2 y => by have := s2 _ _ _ y; omega) (fun j h y => by have := s2 _ _ _ y; omega) (fun f j h y => by have := s2 _ _ _ y; omega)
end
theorem i2b_low (b x : Int32) : i2b ((b &&& 255) ^^^ x) = i2b (b ^^^ x) := by
  unfold i2b
  congr 1
  apply Int8.toBitVec_inj.mp
  show (((b &&& 255) ^^^ x).toBitVec).signExtend 8 = ((b ^^^ x).toBitVec).signExtend 8
  apply BitVec.eq_of_getLsbD_eq
  intro i hi
  rw [BitVec.signExtend_eq_setWidth_of_le _ (by decide), BitVec.signExtend_eq_setWidth_of_le _ (by decide), BitVec.getLsbD_setWidth, BitVec.getLsbD_setWidth]
  congr 1
  show (((b.toBitVec &&& 255#32) ^^^ x.toBitVec)).getLsbD i = (b.toBitVec ^^^ x.toBitVec).getLsbD i
  rw [BitVec.getLsbD_xor, BitVec.getLsbD_xor, BitVec.getLsbD_and]
  have : (255#32).getLsbD i = true := by
    have : i = 0 ∨ i = 1 ∨ i = 2 ∨ i = 3 ∨ i = 4 ∨ i = 5 ∨ i = 6 ∨ i = 7 := by omega
    rcases this with z | z | z | z | z | z | z | z <;> (subst z; decide)
  rw [this, Bool.and_true]
section
variable {E : EE} {d x B B' : Nat}
theorem nI_ofn {a : Int32} (z : ¬ a < 0) : ∃ i, i < 2 ^ 31 ∧ a = nI i := by
  refine ⟨a.toInt.toNat, ?_, ?_⟩
  · have := a.toInt_lt; omega
  · have p : 0 ≤ a.toInt := by have := mt Int32.lt_iff_toInt_lt.mpr z; rw [show (0 : Int32).toInt = 0 from by decide] at this; omega
    refine Int32.toInt_inj.mp ?_
    rw [show (nI a.toInt.toNat).toInt = (a.toInt.toNat : Int) from Int32.toInt_ofNat_of_lt (by have := a.toInt_lt; omega)]
    omega
theorem o_type (h0 : 5 < d) (hB : B ≤ B') : VO_type E d (JA x B) (JA x B') := fun V w k hJ => liftI hJ (fun hW hS => by
  obtain ⟨n, by0, tp, teq⟩ := hS.1
  have fin : ∀ (r : Int32), r = r ∧ (WF V → JS B' V) := fun r => ⟨rfl, fun _ => hS.mono hB⟩
  refine c_X11_type (by omega) by0 tp.2 (fun q => ?_) (fun j h1 h2 e q => ?_) (fun j h1 h2 e q V' b bb => ?_)
  · exact c_X12_type tp (fun _ => fin _) (fun j h1 h2 e _ => absurd e (q j h1 h2)) (fun j h1 h2 e _ => absurd e (q j h1 h2))
  · exact c_X12_type tp (fun c => absurd e (c j h1 h2)) (fun _ _ _ _ _ => fin _) (fun j' h1' h2' e' l => by
      have := (nI_eq (by omega) (by omega)).mp (e.symm.trans e'); omega)
  · have tp1 : TpM V' n := ⟨by rw [fr6 b.1 (by decide)]; exact tp.1, tp.2⟩
    refine c_X12_type tp1 (fun c => absurd e (c j h1 h2)) (fun j' h1' h2' e' l => by
      have := (nI_eq (by omega) (by omega)).mp (e.symm.trans e'); omega) (fun j' h1' h2' e' l V2 f t2 bb2 => ?_)
    have : j = j' := (nI_eq (by omega) (by omega)).mp (e.symm.trans e')
    subst this
    refine ⟨rfl, fun w2 => (hS.tap b.1 f (fun a f i y => Or.inr ⟨y.1, by have := y.2; omega⟩) ?_ w2).mono hB⟩
    refine ⟨n + j, b.2.1.fc2 f (fun y => absurd y.1 (by decide)), t2, fun i hi => ?_⟩
    rw [f.i (fun y => absurd y.1 (by decide))]
    by_cases c : i < n
    · rw [f.i (fun y => by have := y.2; omega), fr6 b.1 (by decide), ← teq i c]; exact b.2.2 i c
    · have e1 := bb (i - n) (by omega)
      have e2 := bb2 (i - n) (by omega)
      rw [show n + (i - n) = i by omega] at e1 e2
      rw [e1, e2])
theorem o_cut (h0 : 5 < d) (hB : B ≤ B') : VO_cut E d (JA x B) (JA x B') := fun V k hJ => liftI hJ (fun hW hS => by
  obtain ⟨n, by0, tp, teq⟩ := hS.1
  have fin : ∀ (r : Int32), r = r ∧ (WF V → JS B' V) := fun r => ⟨rfl, fun _ => hS.mono hB⟩
  have n20 := tp.2
  refine w_X11_cut_0 (by omega) ⟨fun q => w_X12_cut_0 ⟨fun _ => fin _, fun c => absurd q c⟩, fun q => ?_⟩
  rw [by0.2.1]
  refine ⟨fun y => ?_, fun y => w_X12_cut_0 ⟨fun _ => fin _, fun _ => ⟨fun c => absurd (by rw [tp.1] at c; exact c) y, fun _ => fin _⟩⟩⟩
  obtain ⟨m, hm, rfl⟩ := nI_ofn q
  have le : m ≤ n := by
    by_cases c : m ≤ n
    · exact c
    · exact absurd y (nI_ge (by omega) (by omega))
  refine c_keep by0 le (fun V1 f1 b1 => ?_)
  have f1' : Fr V V1 (bR 0 0) := f1.mono (fun a f z => ⟨z.1, Or.inl z.2⟩)
  have e6 : vI V1 6 0 1 = nI n := by rw [fr6 f1' (by decide)]; exact tp.1
  refine w_X12_cut_0 ⟨fun c => absurd c q, fun _ => ?_⟩
  rw [e6]
  refine ⟨fun _ V2 e2 => ⟨rfl, fun w2 => (hS.tap f1' (S2 := fun a f i => a = 6 ∧ f = 0 ∧ i = 1) (by rw [e2]; exact Fc_wrI ⟨rfl, rfl, rfl⟩) (fun a f i y => Or.inr ⟨y.1, by have := y.2; omega⟩) ?_ w2).mono hB⟩, fun c => absurd y c⟩
  have f2 : Fc V1 V2 (fun a f i => a = 6 ∧ f = 0 ∧ i = 1) := by rw [e2]; exact Fc_wrI ⟨rfl, rfl, rfl⟩
  refine ⟨m, b1.fc2 f2 (fun y => absurd y.1 (by decide)), ⟨by rw [e2, wrI_at], by omega⟩, fun i hi => ?_⟩
  rw [f2.i (fun y => absurd y.1 (by decide)), f2.i (fun y => absurd y.2.1 (by decide)), fr6 f1' (by decide), f1.i (fun y => absurd y.2 (by decide))]
  exact teq i (by omega))
theorem o_spoil (h0 : 5 < d) (hB : B ≤ B') : VO_spoil E d (JA x B) (JA x B') := fun V k y hJ => liftI hJ (fun hW hS => by
  obtain ⟨n, by0, tp, teq⟩ := hS.1
  have fin : ∀ (r : Int32), r = r ∧ (WF V → JS B' V) := fun r => ⟨rfl, fun _ => hS.mono hB⟩
  have n20 := tp.2
  refine w_X11_spoil_0 (by omega) ⟨fun q => w_X12_spoil_0 ⟨fun _ => fin _, fun c => absurd q c⟩, fun q => ?_⟩
  rw [by0.2.1]
  refine ⟨fun z => ?_, fun z => w_X12_spoil_0 ⟨fun _ => fin _, fun _ => ⟨fun c => absurd (by rw [tp.1] at c; exact c) z, fun _ => fin _⟩⟩⟩
  obtain ⟨i, hi, rfl⟩ := nI_ofn q
  have lt : i < n := by
    by_cases c : i < n
    · exact c
    · exact absurd z (Int32.not_lt.mpr (nI_le (by omega) (by omega)))
  obtain ⟨b1, b2, b3, b4, b5⟩ := id by0
  refine c_at_in by0 lt (w_X0_exchange_0 b1 ⟨fun c => absurd c q, fun _ => ?_⟩)
  rw [b2]
  refine ⟨fun c => absurd c (nI_ge lt (by omega)), fun _ => ⟨fun c => absurd c (nI_ge (by omega) (by omega)), fun _ => ⟨vp_in_nI (by omega) (by omega), fun V2 e2 => ?_⟩⟩⟩
  rw [nI_clamp (show i < 2 ^ 31 by omega)] at e2
  have f2 : Fc V V2 (fun a f j => a = 0 ∧ f = 1 ∧ j = i) := by rw [e2]; exact Fc_wrI ⟨rfl, rfl, rfl⟩
  have by2 : Byt V2 0 0 n := by0.fc2 f2 (fun y => absurd y.2.1 (by decide))
  refine c_at_in by2 lt ?_
  have e6 : vI V2 6 0 1 = nI n := by rw [f2.i (fun y => absurd y.1 (by decide))]; exact tp.1
  refine w_X12_spoil_0 ⟨fun c => absurd c q, fun _ => ?_⟩
  rw [e6, nI_clamp (show i < 2 ^ 31 by omega)]
  have vp : vp_in (nI i) 20000 := vp_in_nI (by omega) (by decide)
  refine ⟨fun _ => ⟨vp, vp, fun V3 e3 => ⟨vp, ?_, fun w3 => ?_⟩⟩, fun c => absurd z c⟩
  · have : vI V2 0 (0 + 1) i = i2b (i2b ((vI V 0 (0 + 1) i &&& 255) ^^^ y)) := by rw [e2]; exact wrI_at
    rw [this, e3, wrI_at, i2b_low, teq i lt, f2.i (fun y => absurd y.1 (by decide))]
  · have f3 : Fc V2 V3 (fun a f j => a = 6 ∧ f = 1 ∧ j = i) := by rw [e3]; exact Fc_wrI ⟨rfl, rfl, rfl⟩
    refine (hS.tap (f2.fr (fun a f j y => ⟨y.1, Or.inr y.2.1⟩)) f3 (fun a f j y => Or.inr ⟨y.1, by have := y.2; omega⟩) ?_ w3).mono hB
    refine ⟨n, by2.fc2 f3 (fun y => absurd y.1 (by decide)), ⟨by rw [f3.i (fun y => absurd y.2.1 (by decide))]; exact e6, n20⟩, fun j hj => ?_⟩
    rw [f3.i (fun y => absurd y.1 (by decide))]
    by_cases c : j = i
    · subst c
      rw [e2, e3, wrI_at, i2b_low, f2.i (fun y => absurd y.1 (by decide)), ← teq j hj]
      exact wrI_at.symm
    · rw [f3.i (fun y => c y.2.2), f2.i (fun y => c y.2.2), f2.i (fun y => absurd y.1 (by decide))]
      exact teq j hj)
theorem o_tapeAt (h0 : 5 < d) (hB : B ≤ B') : VO_tapeAt E d (JA x B) (JA x B') := fun V k hJ => liftI hJ (fun hW hS => by
  obtain ⟨n, by0, tp, teq⟩ := hS.1
  have fin : ∀ (r : Int32), r = r ∧ (WF V → JS B' V) := fun r => ⟨rfl, fun _ => hS.mono hB⟩
  have n20 := tp.2
  by_cases c : ∃ j, j < n ∧ k = nI j
  · obtain ⟨j, hj, rfl⟩ := c
    refine w_X11_tapeAt_0 (by omega) (c_at_in by0 hj (w_X12_tapeAt_0 ⟨fun c => absurd c (nI_pos (by omega)), fun _ => ?_⟩))
    rw [tp.1, nI_clamp (show j < 2 ^ 31 by omega), ← teq j hj]
    exact ⟨fun _ => ⟨vp_in_nI (by omega) (by decide), fin _⟩, fun c => absurd (nI_lt hj (by omega)) c⟩
  · refine w_X11_tapeAt_0 (by omega) (c_at_out by0 (fun j hj e => c ⟨j, hj, e⟩) (w_X12_tapeAt_0 ⟨fun _ => w_X12_tapeAt_12 (fin _), fun q => ?_⟩))
    rw [tp.1]
    refine ⟨fun z => ?_, fun _ => w_X12_tapeAt_12 (fin _)⟩
    obtain ⟨j, hj, e⟩ := i_ex q (Int32.not_le.mpr z) (by omega)
    exact absurd ⟨j, hj, e⟩ c)
theorem o_byteAt (h0 : 5 < d) (hB : B ≤ B') : VO_byteAt E d (JA x B) (JA x B') := fun V k hJ => liftI hJ (fun hW hS => by
  obtain ⟨_, n, _, _, ⟨by0, tp, teq⟩, _⟩ := hS.2.2.2.2.1
  have fin : ∀ (r : Int32), r = r ∧ (WF V → JS B' V) := fun r => ⟨rfl, fun _ => hS.mono hB⟩
  have n20 := tp.2
  by_cases c : ∃ j, j < n ∧ k = nI j
  · obtain ⟨j, hj, rfl⟩ := c
    refine w_X11_byteAt_0 (by omega) (c_at_in by0 hj (w_X12_byteAt_0 ⟨fun c => absurd c (nI_pos (by omega)), fun _ => ?_⟩))
    rw [tp.1, nI_clamp (show j < 2 ^ 31 by omega), ← teq j hj]
    exact ⟨fun _ => ⟨vp_in_nI (by omega) (by decide), fin _⟩, fun c => absurd (nI_lt hj (by omega)) c⟩
  · refine w_X11_byteAt_0 (by omega) (c_at_out by0 (fun j hj e => c ⟨j, hj, e⟩) (w_X12_byteAt_0 ⟨fun _ => w_X12_byteAt_12 (fin _), fun q => ?_⟩))
    rw [tp.1]
    refine ⟨fun z => ?_, fun _ => w_X12_byteAt_12 (fin _)⟩
    obtain ⟨j, hj, e⟩ := i_ex q (Int32.not_le.mpr z) (by omega)
    exact absurd ⟨j, hj, e⟩ c)
theorem o_fault (hB : B ≤ B') : VO_fault E d (JA x B) (JA x B') := fun V hJ => liftI hJ (fun hW hS => w_X11_fault_0 (w_X12_fault_0 ⟨hS.2.1.1, fun _ => hS.mono hB⟩))
theorem o_above (hB : B ≤ B') : VO_above E d (JA x B) (JA x B') := fun V hJ => liftJ hJ (fun hW hS => w_X11_above_0 (w_X12_above_0 ⟨hS.2.1.2.1, fun _ => hS.mono hB⟩))
theorem o_below (hB : B ≤ B') : VO_below E d (JA x B) (JA x B') := fun V hJ => liftJ hJ (fun hW hS => w_X11_below_0 (w_X12_below_0 ⟨hS.2.1.2.2, fun _ => hS.mono hB⟩))
theorem o_rows (hB : B ≤ B') : VO_rows E d (JA x B) (JA x B') := fun V hJ => liftI hJ (fun hW hS => by
  obtain ⟨c, _, _, ⟨a1, a2, _⟩, _⟩ := hS.2.2.2.2.1
  exact w_X11_rows_0 (w_X12_rows_0 ⟨by rw [a1, a2], fun _ => hS.mono hB⟩))
theorem o_size (hB : B ≤ B') : VO_size E d (JA x B) (JA x B') := fun V hJ => liftI hJ (fun hW hS => by
  obtain ⟨c, _, _, _, ⟨a1, a2, _⟩, _⟩ := hS.2.2.2.2.1
  exact w_X11_size_0 (w_X12_size_0 ⟨by rw [a1.2.1, a2.1], fun _ => hS.mono hB⟩))
theorem o_searched (hB : B ≤ B') : VO_searched E d (JA x B) (JA x B') := fun V k hJ => liftI hJ (fun hW hS => by
  obtain ⟨s1, s2⟩ := hS.2.2.2.1
  have fin : ∀ (r : Int32), r = r ∧ (WF V → JS B' V) := fun r => ⟨rfl, fun _ => hS.mono hB⟩
  refine w_X11_searched_0 ⟨fun q => ?_, fun q => w_X12_searched_0 ⟨fun c => absurd (s1.mp q) c, fun _ => fin _⟩⟩
  obtain ⟨e1, e2, e3⟩ := s2 q
  have n79 : ¬ vI V 6 0 79 = 0 := fun c => q (s1.mpr c)
  refine ⟨fun z => ?_, fun z => ?_, fun z => ?_, fun z1 z2 z3 => ?_⟩
  · exact w_X12_searched_0 ⟨fun _ => ⟨fun c => absurd z c, fun _ => ⟨e1, fun _ => hS.mono hB⟩⟩, fun c => absurd c n79⟩
  · exact w_X12_searched_0 ⟨fun _ => ⟨fun _ => ⟨fun c => absurd z c, fun _ => ⟨e2, fun _ => hS.mono hB⟩⟩, fun c => absurd (z.symm.trans c) (by decide)⟩, fun c => absurd c n79⟩
  · exact w_X12_searched_0 ⟨fun _ => ⟨fun _ => ⟨fun _ => ⟨fun c => absurd z c, fun _ => ⟨e3, fun _ => hS.mono hB⟩⟩, fun c => absurd (z.symm.trans c) (by decide)⟩, fun c => absurd (z.symm.trans c) (by decide)⟩, fun c => absurd c n79⟩
  · exact w_X12_searched_0 ⟨fun _ => ⟨fun _ => ⟨fun _ => ⟨fun _ => fin _, fun c => absurd c z3⟩, fun c => absurd c z2⟩, fun c => absurd c z1⟩, fun c => absurd c n79⟩)
end
