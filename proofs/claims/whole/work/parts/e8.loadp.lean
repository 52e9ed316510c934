/-! load: a text that is read; a problem that is taken over -/
section
variable {E : EE} {d : Nat} {V V' V1 V2 W1 : VH} {q g m B : Nat} {t : Nat → Int32} {n : Nat} {R : List SR} {nt fa : Nat → Int32} {b : Nat → Nat}
/-- what reading a text of m bytes into g leaves -/
def PcG (V V' : VH) (g m : Nat) : Prop := vL V' = vL V ∧ (∀ a f, a ≠ g → ¬ (a = 0 ∧ 2 ≤ f ∧ f ≤ 8) → vN V' a f = vN V a f ∧ vI V' a f = vI V a f ∧ vJ V' a f = vJ V a f) ∧ (∃ cap, TkN V' cap) ∧ (CpS V' g ∧ TbN V' g) ∧ (vP V' = g ∧ vQ V' = g) ∧ Byt V' g 1 m
theorem c_btr {c1 n1 s cap : Nat} {K : Int32 → VH → Prop} (hE : eFr E) (h0 : 180 < d) (hg : PG (vL V) g) (cp : CpS V g) (tb : TbN V g) (n3 : 64 ≤ vN V g 2) (n4 : vN V g 2 ≤ 60000) (tk : TkN V cap) (h1 : Byt V 0 c1 n1) (hs : s + m ≤ n1) (hm : m ≤ 20000)
    (hf : ∀ t, (∀ i, i < m → t i = vI V 0 (c1 + 1) (s + i)) → ∀ e, rdx (tkT t m) FF (m + 1) = .inl e → ∀ V', PcG V V' g m → K 0 V')
    (hy : ∀ t, (∀ i, i < m → t i = vI V 0 (c1 + 1) (s + i)) → ∀ R, rdx (tkT t m) FF (m + 1) = .inr (tln t m, R) → ∀ V', PcG V V' g m → PrS t m R (vI V' g 16) → ClR V' g t m R → K 1 V') : vMV E d M_X0_become [sl g 1, sl 0 c1, wi (nI s), wi (nI m)] V (fun V12 => vMI E d M_X5_read [sl 0 7, sl g 0] V12 K) := by
  have ff : FF = 160008 := rfl
  have g0 : g ≠ 0 := hg.2.1
  refine vupV (K' := fun V6 => Bex V V6 g 1 0 m ∧ ∀ j, j < m → vI V6 g (1 + 1) j = vI V 0 (c1 + 1) (s + j)) (c_become2 (s := s) (m := m) (by omega) (bs_text hg) n3 n4 h1 (fun y => g0 y.1.symm) hs (by omega) (fun V6 b6 tx6 => ⟨b6, tx6⟩)) (fun V6 hh W6 _ => ?_)
  obtain ⟨b6, tx6⟩ := hh
  have pg6 : PG (vL V6) g := by rw [b6.1.1]; exact hg
  have nb : ∀ a f, a ≠ g ∨ f ≠ 1 ∧ f ≠ 2 → ¬ bR g 1 a f := fun a f h z => by have := z.1; have := z.2; omega
  have tk6 : TkN V6 cap := by unfold TkN; rw [b6.1.n (nb 0 3 (by omega)), b6.1.n (nb 0 4 (by omega)), b6.1.n (nb 0 5 (by omega)), b6.1.n (nb 0 6 (by omega))]; exact tk
  have cp6 : CpS V6 g := by unfold CpS; rw [b6.1.n (nb g 15 (by omega)), b6.1.n (nb g 16 (by omega))]; exact cp
  generalize et : vI V6 g 2 = t
  have ht : ∀ i, i < m → t i = vI V 0 (c1 + 1) (s + i) := fun i hi => by rw [← et]; exact tx6 i hi
  have nr : ∀ a f, a ≠ g → ¬ (a = 0 ∧ (2 ≤ f ∧ f ≤ 8)) → ¬ rdS g a f := fun a f h1 h2 y => by rcases y with y | y; exact h2 y; exact h1 y.1
  have k1 : ¬ rdS g g 1 := fun y => by rcases y with y | y; exact g0 y.1; exact y.2.1 rfl
  have k2 : ¬ rdS g g 2 := fun y => by rcases y with y | y; exact g0 y.1; exact y.2.2 rfl
  have com : ∀ V14, Fq V6 V14 (rdS g) → (∃ cap', TkN V14 cap') → CpS V14 g → ((vP V14 = g ∧ vQ V14 = g) ∧ ∀ f, 19 < f → f < 23 → vN V14 g f = vN V6 g f) → PcG V V14 g m := fun V14 fq tk14 cp14 pq => by
    refine ⟨by rw [fq.1, b6.1.1], fun a f h1 h2 => ?_, tk14, ⟨cp14, ?_⟩, pq.1, ?_⟩
    · have k := nr a f h1 h2
      have z := nb a f (Or.inl h1)
      exact ⟨by rw [fq.n k, b6.1.n z], by rw [fq.i k, b6.1.i z], by rw [fq.j k, b6.1.j z]⟩
    · unfold TbN
      rw [pq.2 20 (by decide) (by decide), pq.2 21 (by decide) (by decide), pq.2 22 (by decide) (by decide), b6.1.n (nb g 20 (by omega)), b6.1.n (nb g 21 (by omega)), b6.1.n (nb g 22 (by omega))]
      exact tb
    · obtain ⟨b1, b2, b3, b4, b5⟩ := b6.2.1
      have e : vN V14 g (1 + 1) = vN V6 g (1 + 1) := fq.n k2
      exact ⟨⟨by rw [fq.1]; exact b1.1, b1.2⟩, by rw [fq.i k1]; exact b2, by rw [e]; exact b3, by rw [e]; exact b4, by rw [e]; exact b5⟩
  refine c_readT hE (by omega) W6 pg6 b6.2.1 hm tk6 cp6 (F := FF) (by omega) (fun e he V14 fq tk14 cp14 fl pq => ?_) (fun y hy' V14 fq tk14 cp14 dy nm cd nt w ey c0 z10 pq => ?_)
  · rw [et] at he
    exact hf t ht e he V14 (com V14 fq tk14 cp14 pq)
  · rw [et] at hy' w ey c0
    have ly : y = (tln t m, y.2) := by rw [← ey]
    have pc := com V14 fq tk14 cp14 pq
    have cl : ClR V14 g t m y.2 := ⟨by rw [fq.1]; exact pg6, ⟨pc.2.2.2.2.2, fun i => by rw [fq.i k2, et]⟩, cp14, ⟨dy.2.1, dy.2.2.1, dy.2.2.2.1, dy.2.2.2.2.1, dy.2.2.2.2.2⟩, nm, cd, nt⟩
    have hy2 : rdx (tkT t m) FF (m + 1) = .inr (tln t m, y.2) := by rw [hy']; exact congrArg Sum.inr ly
    rw [ey] at w c0
    exact hy t ht y.2 hy2 V14 pc (PrS.of hm hy2 c0 w cl.2.2.2.2.2.1.1) cl
theorem MrR.ex (hm : MrR V q t n R) (h : ∀ f j, 3 ≤ f → f ≤ 33 → vI V' 6 f j = vI V 6 f j) : MrR V' q t n R := by
  have r : ∀ f, 3 ≤ f → f ≤ 33 → vI V' 6 f = vI V 6 f := fun f h1 h2 => funext fun j => h f j h1 h2
  obtain ⟨x3, l3, nm, kp, md, sp, i9, i29, i17⟩ := hm
  refine ⟨fun k hk => by rw [r 3 (by decide) (by decide)]; exact x3 k hk, by rw [r 4 (by decide) (by decide)]; exact l3, ?_, fun j h1 h2 => ?_, ⟨⟨fun k hk => ?_, fun v hv => ?_, fun k hk => ?_, fun k hk => ?_⟩, by rw [r 22 (by decide) (by decide)]; exact md.2.1, by rw [r 23 (by decide) (by decide)]; exact md.2.2⟩, ⟨by rw [r 11 (by decide) (by decide)]; exact sp.1, fun k hk => by rw [r 10 (by decide) (by decide)]; exact sp.2 k hk⟩, by rw [r 9 (by decide) (by decide)]; exact i9, by rw [r 29 (by decide) (by decide)]; exact i29, fun v hv => by rw [r 17 (by decide) (by decide)]; exact i17 v hv⟩
  · unfold NmM
    rw [r 14 (by decide) (by decide), r 12 (by decide) (by decide), r 13 (by decide) (by decide), r 3 (by decide) (by decide)]
    exact nm
  · have := kp j h1 h2
    unfold KR
    rw [r 5 (by decide) (by decide), r 6 (by decide) (by decide), r 7 (by decide) (by decide), r 8 (by decide) (by decide)]
    exact this
  · rw [r 15 (by decide) (by decide)]; exact md.1.1 k hk
  · rw [r 16 (by decide) (by decide), r 19 (by decide) (by decide), r 20 (by decide) (by decide), r 21 (by decide) (by decide), r 18 (by decide) (by decide)]; exact md.1.2.1 v hv
  · rw [r 24 (by decide) (by decide), r 25 (by decide) (by decide), r 26 (by decide) (by decide)]; exact md.1.2.2.1 k hk
  · rw [r 27 (by decide) (by decide), r 28 (by decide) (by decide)]; exact md.1.2.2.2 k hk
/-- a problem that was read, then changed to what a row says -/
theorem PbI.load {V14 V20 : VH} {h : Nat} {x : Int32} {cs : Nat → Int32} (hq : q < 4) (hs : PrS t n R (vI V14 (q + 1) 16)) (hc : ClR V14 (q + 1) t n R) (k1 : Fc V14 V20 (fun a f j => rsS (q + 1) a f j ∨ a = q + 1 ∧ f = 0 ∧ j = 0)) (k2 : Fc V20 W1 (fun a _ _ => a = 6)) (hm : MrR W1 q t n R) (k3 : Fc W1 V2 (fun a f j => rrD q a f j ∨ a = 6 ∧ f = 2 ∧ j = q))
    (l1 : ¬ vI V20 (q + 1) 0 0 = 0) (l2 : ¬ vI V2 6 2 q = 0) (d1 : (∀ k, k < tcR R 0 → vI V20 (q + 1) 23 k = fa k) ∧ Bds (tcR R 0) fa) (d2 : vI V20 (q + 1) 0 8 = nI h ∧ h < plR R) (d3 : vI V20 (q + 1) 0 9 = x) (d4 : ∀ v, v < 12 → vI V20 (q + 1) 24 v = cs v ∧ ∃ c, cs v = nI c ∧ c ≤ 1000)
    (m1 : ∀ k, k < tcR R 0 → vI V2 6 15 (16 * q + k) = fa k) (m2 : Hq V2 q (tcR R 1) (szR R) h) (m3 : Pq V2 q (tcR R 1) (tst x)) (m4 : ∀ v, v < tcR R 1 → vI V2 6 20 (12 * q + v) = cs v) (nc : vI V2 6 0 62 = nI q → ¬ vI V2 6 0 63 = vI V2 6 33 q) (px : ∀ v, tcR R 1 ≤ v → tst x v = false) : PbI V2 q t n R (vI V14 (q + 1) 16) fa h x cs := by
  classical
  let M : VH := (V2.1, V2.2.1, V2.2.2.1, V2.2.2.2.1, fun a f j => if rsS (q + 1) a f j then vI V14 a f j else if rrD q a f j then vI W1 a f j else vI V2 a f j, V2.2.2.2.2.2)
  have q6 : q + 1 ≠ 6 := by omega
  have eM : ∀ a f j, vI M a f j = if rsS (q + 1) a f j then vI V14 a f j else if rrD q a f j then vI W1 a f j else vI V2 a f j := fun _ _ _ => rfl
  have i2 : ∀ f j, vI V2 (q + 1) f j = vI V20 (q + 1) f j := fun f j => by rw [k3.i (fun y => by rcases y with y | y; exact q6 y.1; exact q6 y.1), k2.i (fun y => q6 y)]
  have iM : ∀ f j, ¬ (f = 0 ∧ j = 0) → vI M (q + 1) f j = vI V14 (q + 1) f j := fun f j h => by
    rw [eM]
    by_cases c : rsS (q + 1) (q + 1) f j
    · rw [if_pos c]
    · rw [if_neg c, if_neg (fun y => q6 y.1), i2, k1.i (fun y => by rcases y with y | y; exact c y; exact h y.2)]
  have mM : ∀ f j, 3 ≤ f → vI M 6 f j = vI W1 6 f j := fun f j h => by
    rw [eM, if_neg (fun y => q6 y.1.symm)]
    by_cases c : rrD q 6 f j
    · rw [if_pos c]
    · rw [if_neg c, k3.i (fun y => by rcases y with y | y; exact c y; have := y.2; omega)]
  have oM : ∀ a f j, ¬ rsS (q + 1) a f j → ¬ rrD q a f j → vI M a f j = vI V2 a f j := fun a f j h1 h2 => by rw [eM, if_neg h1, if_neg h2]
  have fM : Fc M V2 (dyS q) := ⟨rfl, rfl, rfl, rfl, fun a f j y => ⟨(oM a f j (fun z => y (Or.inl ⟨z.1, by have := z.2; omega⟩)) (fun z => y (Or.inr (by
    obtain ⟨rfl, z⟩ := z
    refine ⟨rfl, ?_, by omega⟩
    rcases z with ⟨rfl, z1, z2⟩ | ⟨z0, z1, z2⟩
    · exact ⟨by decide, by decide, z1, z2⟩
    · rcases z0 with rfl | rfl | rfl <;> exact ⟨by decide, by decide, z1, z2⟩)))).symm, rfl⟩⟩
  have l20 : vL V2 = vL V14 := by rw [k3.l, k2.l, k1.l]
  have n20 : vN V2 = vN V14 := by rw [k3.n, k2.n, k1.n]
  have j20 : ∀ j, vJ M (q + 1) 3 j = vJ V14 (q + 1) 3 j := fun j => by
    show vJ V2 (q + 1) 3 j = _
    rw [k3.j (fun y => by rcases y with y | y; exact q6 y.1; exact q6 y.1), k2.j (fun y => q6 y), k1.j (fun y => by rcases y with y | y; have := y.2; omega; have := y.2; omega)]
  have cM : ClR M (q + 1) t n R := hc.ex (V' := M) (by show vL V2 (q + 1) = _; rw [l20]) (fun f _ => by show vN V2 (q + 1) f = _; rw [n20]) (fun f j h => iM f j (by omega)) j20
  have mrM : MrR M q t n R := hm.ex (fun f j h _ => mM f j h)
  have e16 : vI M (q + 1) 16 = vI V14 (q + 1) 16 := funext fun j => iM 16 j (by omega)
  have g62 : ∀ j, vI M 6 0 j = vI V2 6 0 j := fun j => oM 6 0 j (fun y => q6 y.1.symm) (fun y => by have := y.2; omega)
  have g33 : vI M 6 33 q = vI V2 6 33 q := oM 6 33 q (fun y => q6 y.1.symm) (fun y => by have := y.2; omega)
  have lM : ¬ vI M (q + 1) 0 0 = 0 := by rw [oM _ _ _ (fun y => by have := y.2; omega) (fun y => q6 y.1), i2]; exact l1
  have lM2 : ¬ vI M 6 2 q = 0 := by rw [oM _ _ _ (fun y => q6 y.1.symm) (fun y => by have := y.2; omega)]; exact l2
  have base := PbI.read hq (V := M) (by rw [e16]; exact hs) cM mrM lM lM2 (fun z1 z2 => absurd (by rw [g62, g33] at z2; exact z2) (nc (by rw [g62] at z1; exact z1)))
  rw [e16] at base
  have y11 : vI V2 (q + 1) 0 11 = 0 := by rw [← oM _ _ _ (fun y => by have := y.2; omega) (fun y => q6 y.1)]; exact cM.2.2.2.1.2.2.1
  have y19 : vI V2 (q + 1) 19 0 = 0 := by rw [← oM _ _ _ (fun y => by have := y.2; omega) (fun y => q6 y.1)]; exact cM.2.2.2.1.2.2.2.1
  have y29 : vI V2 6 29 q = 0 := by rw [← oM _ _ _ (fun y => q6 y.1.symm) (fun y => by have := y.2; omega)]; exact mrM.2.2.2.2.2.2.2.1
  exact base.gen fM ⟨fun k hk => by rw [i2]; exact d1.1 k hk, d1.2⟩ ⟨by rw [i2]; exact d2.1, d2.2⟩ (by rw [i2]; exact d3) (fun v hv => by rw [i2]; exact d4 v hv) m1 m2 m3 m4 ⟨0, by decide, y11, y29, fun j hj => absurd hj (Nat.not_lt_zero j)⟩ (Or.inl y19) (fun z1 z2 => absurd z2 (nc z1)) px
/-- what a row that can be loaded says -/
theorem RowOK.rs {s e : Nat} (h : RowOK b s e) : ∃ t n R nt, PrS t n R nt ∧ b s = 211 ∧ pkb (fun j => b (s + 1 + j)) 2 = n ∧ (∀ i, i < n → b (s + 3 + i) = bt t i) ∧ RsOK b (s + 3 + n) R ∧ e = s + ndR n R := by
  obtain ⟨t, n, R, nt, fa, pl, cs, x, p0, p1, p2, p3, p4, p5, p6, p7, p8⟩ := h
  refine ⟨t, n, R, nt, p0, p1, p2, p3, ⟨fun k hk => ?_, fun v hv => ⟨?_, ?_⟩, ?_⟩, by unfold ndR; omega⟩
  · unfold rsF
    rw [(p4 k hk).2]
    have : nI (fa k).toBitVec.toNat = fa k := Int32.toBitVec_inj.mp (by show BitVec.ofNat 32 (fa k).toBitVec.toNat = _; simp)
    rw [this]; exact (p4 k hk).1
  · obtain ⟨h1, h2, _, _⟩ := p5 v hv
    obtain ⟨m, kd⟩ := gtR_mem (s := 1) hv
    obtain ⟨_, _, _, w, _, _⟩ := p0.2.2.2.1.2.2.1 _ m
    have bn := (w kd).2.2 _ (mem_getD.mpr ⟨pl v, h1, rfl⟩)
    have fit : i2b (vlR R v (pl v)) = vlR R v (pl v) := i2b_fit (by
      show (decide (-128 ≤ vlR R v (pl v)) && decide (vlR R v (pl v) ≤ 127)) = true
      rw [Bool.and_eq_true, decide_eq_true_iff, decide_eq_true_iff, Int32.le_iff_toInt_le, Int32.le_iff_toInt_le, show (-128 : Int32).toInt = -128 by decide, show (127 : Int32).toInt = 127 by decide]
      have b1 : -(99 : Int) ≤ (vlR R v (pl v)).toInt := bn.1
      have b2 : (vlR R v (pl v)).toInt ≤ (99 : Int) := bn.2
      omega)
    unfold rsP
    rw [h2]
    have e : i2b (nI (bt (vlR R v) (pl v))) = vlR R v (pl v) := by
      rw [← fit]
      refine i2b_eq ?_
      have := bt_of (y := bt (vlR R v) (pl v)) (i := 0) (bt_lt _ _)
      exact this
    rw [e]
    rcases fsb_pl (sz := szR R v) (vl := vlR R v) (y := vlR R v (pl v)) with ⟨_, w2⟩ | ⟨k, hk, ek, _, w2⟩
    · exact absurd rfl (w2 (pl v) h1)
    · rw [w2]; simp
  · obtain ⟨_, _, h3, h4⟩ := p5 v hv
    unfold rsC
    rw [h3]; exact h4
  · unfold rsX
    rw [p6]; exact p7
end
