/-! load -/
section
variable {E : EE} {d : Nat} {V V' V1 V2 W1 : VH} {q g m B : Nat} {t : Nat → Int32} {n : Nat} {R : List SR} {nt fa : Nat → Int32} {b b' : Nat → Nat}
theorem c_start {c k : Nat} {en : Nat → Nat} {K : Int32 → VH → Prop} (a1 : vI V 0 23 1 = nI c) (a3 : c ≤ 100) (e0 : en 0 = 0) (e26 : ∀ k, k < c → vI V 0 26 k = nI (en (k + 1))) (hk : k < c) (h : K (nI (en k)) V) : vMI E d M_X8_start [sl 0 23, wi (nI k)] V K := by
  refine w_X8_start_0 ?_
  rw [a1]
  refine ⟨fun y => absurd y (nI_pos (by omega)), fun _ => ⟨fun y => absurd y (nI_ge hk (by omega)), fun _ => ⟨fun _ => ⟨fun y => ?_, fun y => ?_⟩, fun y => absurd (Int32.not_le.mp (nI_ge (b := 100) (show k < 100 by omega) (by decide))) y⟩⟩⟩
  · have k0 : k ≠ 0 := fun z => y (by rw [z]; rfl)
    obtain ⟨j, rfl⟩ : ∃ j, k = j + 1 := ⟨k - 1, by omega⟩
    rw [show nI (j + 1) - 1 = nI j from nI_pred j, nI_clamp (show j < 2 ^ 31 by omega), e26 j (by omega)]
    exact ⟨vp_in_nI (by omega) (by decide), h⟩
  · have k0 : k = 0 := (nI_eq (b := 0) (by omega) (by decide)).mp y
    rw [k0, e0] at h
    exact h
theorem c_textL {b1 c1 N s : Nat} {K : Int32 → VH → Prop} (h0 : 2 < d) (h : Byt V b1 c1 N) (hs : s ≤ 60000)
    (hk0 : ¬ (s + 3 ≤ N ∧ bt (vI V b1 (c1 + 1)) s = 211 ∧ s + 3 + pkb (fun j => bt (vI V b1 (c1 + 1)) (s + 1 + j)) 2 ≤ N) → K (-1) V)
    (hk1 : s + 3 ≤ N → bt (vI V b1 (c1 + 1)) s = 211 → s + 3 + pkb (fun j => bt (vI V b1 (c1 + 1)) (s + 1 + j)) 2 ≤ N → K (nI (pkb (fun j => bt (vI V b1 (c1 + 1)) (s + 1 + j)) 2)) V) : vMI E d M_X8_textLength [sl 0 23, sl b1 c1, wi (nI s)] V K := by
  have N6 : N ≤ 60000 := by obtain ⟨_, _, h1, _, h3⟩ := h; omega
  have e1 : vI V b1 c1 1 = nI N := h.2.1
  refine w_X8_textLength_0 h.1 (by omega) ?_
  by_cases sN : s < N
  · refine c_at_in h sN ?_
    rw [bt_nI]
    refine ⟨fun z => hk0 (fun w => z (by rw [w.2.1]; rfl)), fun z => ?_⟩
    have b211 : bt (vI V b1 (c1 + 1)) s = 211 := (nI_eq (b := 211) (by have := bt_lt (vI V b1 (c1 + 1)) s; omega) (by decide)).mp z
    rw [show (3 : Int32) = nI 3 from rfl, nI_add, e1, nI_1]
    refine ⟨fun y => ?_, fun y => hk0 (fun w => y (nI_le w.1 (by omega)))⟩
    have s3 : s + 3 ≤ N := Nat.le_of_not_lt (fun w => absurd y (nI_ge w (by omega)))
    refine c_number (m := 2) (by omega) h (by omega) ?_
    rw [numS_pkb 2 (by decide), l2i_nq, nI_add, e1]
    have nl : pkb (fun j => bt (vI V b1 (c1 + 1)) (s + 1 + j)) 2 < 65536 := pkb_lt (f := fun j => bt (vI V b1 (c1 + 1)) (s + 1 + j)) 2 (fun j _ => bt_lt _ _)
    exact ⟨fun w => hk1 s3 b211 (Nat.le_of_not_lt (fun u => absurd w (nI_ge u (by omega)))), fun w => hk0 (fun u => w (nI_le u.2.2 (by omega)))⟩
  · exact c_at_out h (fun j hj z => by have := (nI_eq (by omega) (by omega)).mp z; omega) ⟨fun _ => hk0 (fun w => by omega), fun z => absurd z (by decide)⟩
theorem rs_ext {a : Nat} (h : ∀ i, a ≤ i → i < a + (4 * tcR R 0 + 3 * tcR R 1 + 2) → b i = b' i) : (∀ k, k < tcR R 0 → rsF b a k = rsF b' a k) ∧ (∀ v, v < tcR R 1 → rsP b a R v = rsP b' a R v ∧ rsC b a R v = rsC b' a R v) ∧ rsX b a R = rsX b' a R := by
  refine ⟨fun k hk => ?_, fun v hv => ⟨?_, ?_⟩, ?_⟩
  · unfold rsF
    rw [pkb_ext 4 (fun j hj => h _ (by omega) (by omega))]
  · unfold rsP
    rw [h _ (by omega) (by omega)]
  · unfold rsC
    exact pkb_ext 2 (fun j hj => h _ (by omega) (by omega))
  · unfold rsX
    exact pkb_ext 2 (fun j hj => h _ (by omega) (by omega))
theorem RsOK.ext {a : Nat} (h : ∀ i, a ≤ i → i < a + (4 * tcR R 0 + 3 * tcR R 1 + 2) → b i = b' i) (ok : RsOK b a R) : RsOK b' a R := by
  obtain ⟨e1, e2, e3⟩ := rs_ext h
  exact ⟨fun k hk => by rw [← e1 k hk]; exact ok.1 k hk, fun v hv => by rw [← (e2 v hv).1, ← (e2 v hv).2]; exact ok.2.1 v hv, by rw [← e3]; exact ok.2.2⟩
theorem JS.w93 {y : Int32} (hJ : JS B V) : JS B (wrI V 6 0 93 y) := by
  have k : Fc V (wrI V 6 0 93 y) (fun a f j => a = 6 ∧ f = 0 ∧ j = 93) := Fc_wrI ⟨rfl, rfl, rfl⟩
  refine hJ.fc 4 k (fun a f j y z => ?_) (fun q a f j hq _ y z => ?_) (fun g j h1 h2 y => ?_) (Or.inl (fun a f j y z => ?_)) (hJ.2.2.2.2.2.2.1.fc k (fun f j y z => ?_)) (fun h => absurd h (by decide))
  · unfold Glo at z; omega
  · unfold OfP at z
    rcases z with z | ⟨_, z | z⟩
    · omega
    · omega
    · have := z.1; omega
  · omega
  · unfold Cch at z; omega
  · omega
theorem PcF.w93 {y : Int32} (h : PcF V V1 q) (hq : q < 4) : PcF (wrI V 6 0 93 y) (wrI V1 6 0 93 y) q := by
  obtain ⟨p1, p2, p3, p4, p5, p6⟩ := h
  refine ⟨p1, fun a f h1 h2 => ?_, p3, p4, p5, p6⟩
  obtain ⟨z1, z2, z3⟩ := p2 a f h1 h2
  refine ⟨z1, funext fun j => ?_, z3⟩
  by_cases c : a = 6 ∧ f = 0 ∧ j = 93
  · obtain ⟨rfl, rfl, rfl⟩ := c
    rw [wrI_at, wrI_at]
  · rw [wrI_ne c, wrI_ne c, z2]
theorem pins_hi {X H : Nat} (h : X < 2 ^ H) {v : Nat} (hv : H ≤ v) : tst (nI X) v = false := by
  by_cases c : v < 32
  · rw [tst_nI c]
    exact Nat.testBit_lt_two_pow (Nat.lt_of_lt_of_le h (Nat.pow_le_pow_right (by decide) hv))
  · exact tst_big _ (by omega)
end
section
variable {E : EE} {d x B B' : Nat}
theorem o_load (hE : eFr E) (h0 : 250 < d) (hB : B + 1 ≤ B') (hB2 : B + 1 < 2 ^ 31) : VO_load E d (JA x B) (JA x B') := fun V a0 hJ => liftI hJ (fun hW hS => by
  obtain ⟨c, m, en, ⟨a1, a2, a3⟩, ⟨b1, b2, b3⟩, ⟨c1, c2, c3, c4⟩, _⟩ := hS.2.2.2.2.1
  have m20 := b2.2
  have mono := en_mono (en := en) (c := c) (fun k hk => (c3 k hk).2.1)
  have fin : ∀ r : Int32, r = r ∧ (WF V → JS B' V) := fun r => ⟨rfl, fun _ => hS.mono (by omega)⟩
  by_cases z0 : a0 < 0
  · refine w_X11_load_0 (by omega) (w_X8_start_0 ⟨fun _ => ⟨fun y => absurd y (by decide), fun _ => w_X12_load_0 (by omega) ⟨fun _ => fin _, fun y => absurd z0 y⟩⟩, fun y => absurd z0 y⟩)
  obtain ⟨k, hk, rfl⟩ := nI_ofn z0
  by_cases kc : ¬ k < c
  · refine w_X11_load_0 (by omega) (w_X8_start_0 ?_)
    rw [a1]
    refine ⟨fun y => absurd y z0, fun _ => ⟨fun _ => ⟨fun y => absurd y (by decide), fun _ => w_X12_load_0 (by omega) ⟨fun y => absurd y z0, fun _ => ?_⟩⟩, fun y => absurd (nI_le (by omega) (by omega)) y⟩⟩
    rw [a2]
    exact ⟨fun y => absurd (nI_le (show c ≤ k by omega) (by omega)) (Int32.not_le.mpr y), fun _ => fin _⟩
  have kc : k < c := Nat.lt_of_not_le (fun w => kc (by omega))
  have le : en (k + 1) ≤ m := by rw [← c2]; exact mono (k + 1) c (by omega) (Nat.le_refl c)
  have e60 : vI V 6 60 k = nI (en k) ∧ vI V 6 60 (k + 1) = nI (en (k + 1)) := ⟨c4 k (by omega), c4 (k + 1) (by omega)⟩
  have row : RowOK (bt (vI V 6 59)) (en k) (en (k + 1)) := (c3 k kc).2.2.ex (fun i h1 h2 => by unfold bt; rw [b3 i (by omega)])
  obtain ⟨t0, n, R, nt0, ps0, p211, pn, ptx, pok, pe⟩ := row.rs
  generalize es : en k = s at *
  generalize ee : en (k + 1) = e at *
  have nb : ndR n R = 3 + n + (4 * tcR R 0 + 3 * tcR R 1 + 2) + 8 := rfl
  have b25 : ∀ i, i < m → bt (vI V 0 25) i = bt (vI V 6 59) i := fun i hi => by unfold bt; rw [b3 i hi]
  have gj := hS.2.2.2.2.2.1
  obtain ⟨cap, tk, _⟩ := hS.2.2.1
  refine w_X11_load_0 (by omega) (c_start a1 a3 c1 (fun k hk => (c3 k hk).1) kc ?_)
  rw [es]
  refine ⟨fun _ => c_freeNumber hS.2.2.2.2.2.2.2.2 (fun z => ⟨fun y => absurd y (by decide), fun _ => ?_⟩) (fun q hq z1 z2 => ⟨fun _ => ?_, fun y => absurd (nI_le (a := 0) (Nat.zero_le _) (by omega)) y⟩), fun y => absurd (nI_le (a := 0) (Nat.zero_le _) (by omega)) y⟩
  · refine w_X12_load_0 (by omega) ⟨fun y => absurd y z0, fun _ => ?_⟩
    rw [a2]
    exact ⟨fun _ => c_freeSlot (fun _ => ⟨fun y => absurd rfl y, fun _ => fin _⟩) (fun q hq a _ => absurd a (z q hq)), fun y => absurd (Int32.not_le.mp (nI_ge kc (by omega))) y⟩
  refine c_room (by omega) hq gj (fun V3 l3 o3 cp3 tb3 n3 n3' => ?_)
  have g0 : q + 1 ≠ 0 := by omega
  have g6 : q + 1 ≠ 6 := by omega
  have pg3 : PG (vL V3) (q + 1) := ⟨by rw [l3, if_pos rfl], g0, g6⟩
  have L0 : vL V3 0 = vL V 0 := by rw [l3, if_neg (by omega)]
  refine ⟨pg3, ?_⟩
  have T3 : Byt V3 0 24 m := by
    obtain ⟨b1, b2, b3, b4, b5⟩ := b1
    have e := (o3 0 (24 + 1) (by omega)).1
    exact ⟨⟨by rw [L0]; exact b1.1, b1.2⟩, by rw [(o3 0 24 (by omega)).2.1]; exact b2, by rw [e]; exact b3, by rw [e]; exact b4, by rw [e]; exact b5⟩
  have e25 : vI V3 0 (24 + 1) = vI V 0 25 := (o3 0 25 (by omega)).2.1
  have tk3 : TkN V3 cap := by unfold TkN; rw [(o3 0 3 (by omega)).1, (o3 0 4 (by omega)).1, (o3 0 5 (by omega)).1, (o3 0 6 (by omega)).1]; exact tk
  have pn' : pkb (fun j => bt (vI V3 0 (24 + 1)) (s + 1 + j)) 2 = n := by
    rw [← pn, e25]
    exact pkb_ext 2 (fun j hj => b25 _ (by omega))
  have n20 : n ≤ 20000 := ps0.1
  refine c_textL (by omega) T3 (by omega) (fun w => absurd ⟨by omega, by rw [e25, b25 s (by omega)]; exact p211, by rw [pn']; omega⟩ w) (fun _ _ _ => ?_)
  rw [pn', show (3 : Int32) = nI 3 from rfl, nI_add]
  have same : ∀ {t : Nat → Int32}, (∀ i, i < n → t i = vI V3 0 (24 + 1) (s + 3 + i)) → ∀ j, j < n → bt t0 j = bt t j := fun {t} ht j hj => by
    rw [← ptx j hj, ← b25 _ (by omega)]
    unfold bt
    rw [ht j hj, e25]
  refine c_btr hE (by omega) pg3 cp3 tb3 n3 n3' tk3 T3 (by omega) n20 (fun t ht e he => ?_) (fun t ht R' hR V14 pc ps cl => ⟨fun z => absurd z (by decide), fun _ => ?_⟩)
  · have := ps0.2.1
    rw [tkT_ext (same ht), he] at this
    exact nomatch this
  have eR : R' = R := by
    have := ps0.2.1
    rw [tkT_ext (same ht), hR] at this
    exact congrArg Prod.snd (Sum.inr.inj this)
  subst eR
  have sp14 := cl.2.2.2.2.2.1.2.1
  have n16 : tcR R' 0 ≤ 16 := ps.2.2.2.1.1 0 (by decide)
  have n12 : tcR R' 1 ≤ 12 := sp14.2.2.1
  have T14 : Byt V14 0 24 m := by
    obtain ⟨b1, b2, b3, b4, b5⟩ := T3
    have e := (pc.2.1 0 (24 + 1) (by omega) (by omega)).1
    exact ⟨⟨by rw [pc.1]; exact b1.1, b1.2⟩, by rw [(pc.2.1 0 24 (by omega) (by omega)).2.1]; exact b2, by rw [e]; exact b3, by rw [e]; exact b4, by rw [e]; exact b5⟩
  have e14 : vI V14 0 (24 + 1) = vI V 0 25 := ((pc.2.1 0 (24 + 1) (by omega) (by omega)).2.1).trans e25
  have bb : ∀ i, s + 3 + n ≤ i → i < s + 3 + n + (4 * tcR R' 0 + 3 * tcR R' 1 + 2) → bt (vI V14 0 (24 + 1)) i = bt (vI V 6 59) i := fun i h1 h2 => by rw [e14]; exact b25 i (by omega)
  obtain ⟨x1, x2, x3⟩ := rs_ext bb
  rw [nI_add]
  refine c_restore (R := R') (by omega) T14 (fun z => g0 z.symm) sp14 (cl.2.2.2.2.1.1 0 (by decide)).1 n16 cl.2.2.2.1.1 (by omega) (fun w => absurd (RsOK.ext (fun i h1 h2 => (bb i h1 h2).symm) pok) w) (fun _ V18 h f18 h23 h8 hl hd h24 h9 => ⟨fun z => absurd z (by decide), fun _ => ?_⟩)
  have pg18 : PG (vL V18) (q + 1) := by rw [f18.l, pc.1]; exact pg3
  refine w_X11_load_115 pg18 ⟨Or.inr rfl, fun V20 e20 => ?_⟩
  have live : vI V20 (q + 1) 0 0 = 1 := by rw [e20, wrI_at]
  refine ⟨fun z => absurd (live.symm.trans z) (by decide), fun _ => ?_⟩
  have k1 : Fc V14 V20 (fun a f j => rsS (q + 1) a f j ∨ a = q + 1 ∧ f = 0 ∧ j = 0) := (f18.mono (fun a f j y => Or.inl y)).trans (by rw [e20]; exact Fc_wrI (Or.inr ⟨rfl, rfl, rfl⟩))
  have only : ∀ {a f j : Nat}, a ≠ q + 1 → ¬ (rsS (q + 1) a f j ∨ a = q + 1 ∧ f = 0 ∧ j = 0) := fun h y => by rcases y with y | y; exact h y.1; exact h y.1
  have i20 : ∀ a f, a ≠ q + 1 → vI V20 a f = vI V14 a f := fun a f h => funext fun j => k1.i (only h)
  have pcf : PcF V V20 q := by
    refine ⟨fun a => by rw [k1.l, pc.1]; exact l3 a, fun a f h1 h2 => ?_, fun j => ?_, ?_, ⟨?_, ?_⟩, ?_, ?_⟩
    · have z := pc.2.1 a f h1 (fun y => h2 (by omega))
      exact ⟨by rw [k1.n, z.1, (o3 a f h1).1], by rw [i20 a f h1, z.2.1, (o3 a f h1).2.1], by rw [show vJ V20 a f = vJ V14 a f from funext fun j => k1.j (only h1), z.2.2, (o3 a f h1).2.2]⟩
    · rw [k1.j (only (by omega)), (pc.2.1 0 28 (by omega) (by omega)).2.2, (o3 0 28 (by omega)).2.2]
    · obtain ⟨cap', z⟩ := pc.2.2.1
      exact ⟨cap', by unfold TkN; rw [k1.n]; exact z⟩
    · unfold CpS; rw [k1.n]; exact pc.2.2.2.1.1
    · unfold TbN; rw [k1.n]; exact pc.2.2.2.1.2
    · unfold vP; rw [k1.2.2.1]; exact pc.2.2.2.2.1.1
    · unfold vQ; rw [k1.2.2.1]; exact pc.2.2.2.2.1.2
  have r6 : ∀ f, vI V20 6 f = vI V 6 f := fun f => (pcf.2.1 6 f (by omega) (by omega)).2.1
  -- the reference
  refine w_X12_load_0 (by omega) ⟨fun y => absurd y z0, fun _ => ?_⟩
  rw [r6, a2]
  refine ⟨fun _ => c_freeSlot (fun z => absurd (show vI V20 6 2 q = 0 by rw [r6]; exact z1) (z q hq)) (fun q' hq' y1 y2 => ?_), fun y => absurd (Int32.not_le.mp (nI_ge kc (by omega))) y⟩
  have qq : q' = q := by
    rw [r6] at y1
    rcases Nat.lt_trichotomy q q' with z | z | z
    · exact absurd (show vI V20 6 2 q = 0 by rw [r6]; exact z1) (y2 q z)
    · exact z.symm
    · exact absurd y1 (z2 q' z)
  subst qq
  refine ⟨fun _ V3' e3' => ?_, fun y => by have := (nI_eq (b := 4) (by omega) (by decide)).mp y; omega⟩
  have f3' : Fc V20 V3' (fun a f j => a = 6 ∧ f = 0 ∧ j = 93) := by rw [e3']; exact Fc_wrI ⟨rfl, rfl, rfl⟩
  have r3 : ∀ f, f ≠ 0 → vI V3' 6 f = vI V 6 f := fun f hf => by rw [← r6 f]; exact funext fun j => f3'.i (fun y => hf y.2.1)
  rw [nI_1, nI_clamp (show k < 2 ^ 31 by omega), nI_clamp (show k + 1 < 2 ^ 31 by omega), nI_clamp (show q' < 2 ^ 31 by omega), r3 60 (by decide), e60.1, e60.2]
  refine ⟨vp_in_nI (by omega) (by decide), vp_in_nI (by omega) (by decide), ?_⟩
  have l6 : vL V3' 6 = true := by rw [f3'.l, pcf.1, if_neg (fun z => g6 z.symm)]; exact hW.1.2.1
  have n21 : vN V3' 6 21 = 60 := by rw [f3'.n, (pcf.2.1 6 21 (by omega) (by omega)).1]; exact hW.2.1 6 hW.1.2.1 (21, 60) (by decide)
  have src : Src V3' e (bt (vI V 6 59)) := ⟨by omega, fun i hi => ⟨fun z => absurd (by rw [e3', wrI_at] at z; exact z) (by decide), fun _ => by rw [r3 59 (by decide)]⟩⟩
  refine c_readRow (N := n) (t := t) hE (by omega) (by omega) l6 n21 src (fun j => bt_lt _ _) (by omega) (by omega) pn (fun _ i hi => ?_) (fun no => ?_) (fun R2 ry W1 W2 kw st mr kd h15 hvv => ?_)
  · rw [← same ht i hi]; exact (ptx i hi).symm
  · exfalso
    rcases no with no | no | no | ⟨z, no⟩ | ⟨R2, hR2, no⟩
    · omega
    · exact no p211
    · omega
    · rw [hR] at no; exact nomatch no
    · have : R2 = R' := by rw [hR] at hR2; exact congrArg Prod.snd (Sum.inr.inj hR2.symm)
      subst this
      rcases no with no | no
      · omega
      · exact no pok
  have : R2 = R' := by have := ry.2.2.2.1; rw [hR] at this; exact congrArg Prod.snd (Sum.inr.inj this.symm)
  subst this
  refine ⟨vp_in_nI (by omega) (by decide), fun W9 e9 => ⟨rfl, fun w9 => ?_⟩⟩
  have k9 : Fc W2 W9 (fun a f j => a = 6 ∧ f = 2 ∧ j = q') := by rw [e9]; exact Fc_wrI ⟨rfl, rfl, rfl⟩
  have kk : Fc W1 W9 (fun a f j => rrD q' a f j ∨ a = 6 ∧ f = 2 ∧ j = q') := (kd.mono (fun a f j y => Or.inl y)).trans (k9.mono (fun a f j y => Or.inr y))
  have km : Fc V3' W9 (mpS q') := (kw.mono (fun a f j y => y.1)).trans (kk.mono (fun a f j y => by
    rcases y with y | ⟨y1, y2, y3⟩
    · exact (rrD_rr y).1
    · exact ⟨y1, Or.inr (Or.inl ⟨y2, y3⟩)⟩))
  have i9 : ∀ f j, f ≠ 2 → vI W9 6 f j = vI W2 6 f j := fun f j h => k9.i (fun y => h y.2.1)
  have i1 : ∀ f j, f ≠ 2 → ¬ rrD q' 6 f j → vI W9 6 f j = vI W1 6 f j := fun f j h1 h2 => kk.i (fun y => by rcases y with y | y; exact h2 y; exact h1 y.2.1)
  have st9 : vI W9 6 33 q' = vI V3' 6 33 q' + 1 := by rw [i1 33 q' (by decide) (fun y => by have := y.2; omega), st]
  have c0 : ∀ f j, vI W9 0 f j = vI V20 0 f j := fun f j => by rw [km.i (fun y => absurd y.1 (by decide)), f3'.i (fun y => absurd y.1 (by decide))]
  have jv : JS B (wrI V 6 0 93 1) := hS.w93
  have pcv : PcF (wrI V 6 0 93 1) V3' q' := by rw [e3']; exact pcf.w93 hq
  have cs12 : ∀ v, v < 12 → vI V20 (q' + 1) 24 v = (if v < tcR R2 1 then nI (rsC (bt (vI V 6 59)) (s + 3 + n) R2 v) else 1) := fun v hv => by
    rw [e20, wrI_ne (fun z => by omega), h24 v]
    by_cases cv : v < tcR R2 1
    · rw [if_pos cv, if_pos cv, (x2 v cv).2]
    · rw [if_neg cv, if_neg cv]; exact cl.2.2.2.1.2.2.2.2 v hv
  refine (jv.pr hq pcv km ?_ ?_ ⟨n, ?_⟩ st9 (Or.inr ⟨t, n, R2, _, rsF (bt (vI V 6 59)) (s + 3 + n), h, nI (rsX (bt (vI V 6 59)) (s + 3 + n) R2), fun v => if v < tcR R2 1 then nI (rsC (bt (vI V 6 59)) (s + 3 + n) R2 v) else 1, PbI.load hq ps cl k1 ((f3'.mono (fun a f j y => y.1)).trans (kw.mono (fun a f j y => y.1.1))) mr kk (by rw [live]; decide) ?_ ⟨fun j hj => ?_, fun j hj => pok.1 j hj⟩ ⟨?_, hl⟩ ?_ (fun v hv => ⟨cs12 v hv, ?_⟩) (fun j hj => ?_) ⟨hl, fun v hv => ?_⟩ (fun v hv => ?_) (fun v hv => ?_) ?_ (fun v hv => pins_hi pok.2.2 hv)⟩) w9).mono hB
  · obtain ⟨l, by0, tp, teq⟩ := hS.1
    have z0 := pcf.2.1
    have q0 : ∀ f, f = 0 ∨ f = 1 → vI V20 0 f = vI V 0 f ∧ vN V20 0 f = vN V 0 f := fun f hf => by
      rw [i20 0 f (by omega), (pc.2.1 0 f (by omega) (by omega)).2.1, (o3 0 f (by omega)).2.1, k1.n, (pc.2.1 0 f (by omega) (by omega)).1, (o3 0 f (by omega)).1]
      exact ⟨rfl, rfl⟩
    have by20 : Byt V20 0 0 l := by
      obtain ⟨b1, b2, b3, b4, b5⟩ := by0
      have e := (q0 (0 + 1) (by omega)).2
      exact ⟨⟨by rw [pcf.1, if_neg (by omega)]; exact b1.1, b1.2⟩, by rw [(q0 0 (by omega)).1]; exact b2, by rw [e]; exact b3, by rw [e]; exact b4, by rw [e]; exact b5⟩
    have e01 : vI W9 6 0 1 = vI V 6 0 1 := by
      rw [i1 0 1 (by decide) (fun y => by have := y.2; omega), kw.i (fun y => y.2.1 ⟨rfl, Or.inl rfl⟩), f3'.i (fun y => by omega), r6]
    have e1 : ∀ j, vI W9 6 1 j = vI V 6 1 j := fun j => by
      rw [i1 1 j (by decide) (fun y => by have := y.2; omega), kw.i (fun y => (rrM_s y).1 rfl), r3 1 (by decide)]
    refine ⟨l, (by20.fc2 f3' (fun y => absurd y.1 (by decide))).fc2 km (fun y => absurd y.1 (by decide)), ⟨by rw [e01]; exact tp.1, tp.2⟩, fun i hi => ?_⟩
    rw [c0, (q0 1 (by omega)).1, e1]; exact teq i hi
  · have e04 : vI W9 6 0 4 = vI V 6 0 4 := by
      rw [i1 0 4 (by decide) (fun y => by have := y.2; omega), kw.i (fun y => y.2.1 ⟨rfl, Or.inr rfl⟩), f3'.i (fun y => by omega), r6]
    rw [c0, e04, i20 0 28 (by omega), (pc.2.1 0 28 (by omega) (by omega)).2.1, (o3 0 28 (by omega)).2.1]
    exact hS.2.1.1
  · exact (pc.2.2.2.2.2.fc2 k1 (fun y => by rcases y with y | y; have := y.2; omega; have := y.2; omega)).fc2 f3' (fun y => by have := y.1; omega)
  · rw [e9, wrI_at]; decide
  · rw [e20, wrI_ne (fun z => by omega), h23 j hj, x1 j hj]
  · rw [e20, wrI_ne (fun z => by omega)]; exact h8
  · rw [e20, wrI_ne (fun z => by omega), h9, x3]
  · by_cases cv : v < tcR R2 1
    · rw [if_pos cv]; exact ⟨_, rfl, (pok.2.1 v cv).2⟩
    · rw [if_neg cv]; exact ⟨1, rfl, by decide⟩
  · rw [i9 15 _ (by decide)]; exact h15 j hj
  · rw [i9 19 _ (by decide), (hvv v hv).1, hd v hv]
    unfold rsK
    rw [(x2 v hv).1]
  · rw [i9 21 _ (by decide), (hvv v hv).2.2]
    exact bI_0
  · rw [i9 20 _ (by decide), (hvv v hv).2.1, if_pos hv]
  · intro z1' z2'
    obtain ⟨sp, cc, w1, w2, w3, w4⟩ := hS.2.2.2.2.2.2.1
    have o : ∀ j, j = 62 ∨ j = 63 → vI W9 6 0 j = vI V 6 0 j := fun j hj => by
      rw [i1 0 j (by decide) (fun y => by have := y.2; omega), kw.i (fun y => by have := rrM_s y; omega), f3'.i (fun y => by omega), r6]
    have l := w4 q' (by omega) (by rw [o 62 (by omega)] at z1'; exact z1')
    rw [o 63 (by omega), w2, st9, r3 33 (by decide), (w1 q' (by omega)).1, nI_1] at z2'
    have b := (w1 q' (by omega)).2
    have := (nI_eq (by omega) (by omega)).mp z2'
    omega)
end
