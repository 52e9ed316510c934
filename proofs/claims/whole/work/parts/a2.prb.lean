/-! problem -/
theorem vupV {E : EE} {d : Nat} {N : MD} {as : List WV} {V : VH} {K K' : VH → Prop} (h : vMV E d N as V K') (k : ∀ V', K' V' → WF V' → Xl V V' → K V') : vMV E d N as V K := vMV.mono (vMV.up h) (fun V' q => k V' q.1 q.2.1 q.2.2)
section
variable {E : EE} {d : Nat} {V V' : VH} {q B : Nat} {t : Nat → Int32} {n : Nat} {R : List SR} {nt fa : Nat → Int32} {h : Nat} {x : Int32} {cs : Nat → Int32}
theorem PbJ.free (h : PbJ V q) : (vI V 6 2 q = 0 → vL V (q + 1) = true → vI V (q + 1) 0 0 = 0) ∧ (¬ vI V 6 2 q = 0 → vL V (q + 1) = true ∧ ¬ vI V (q + 1) 0 0 = 0) := by
  rcases h with ⟨a, b⟩ | ⟨t, n, R, nt, fa, h, x, cs, z⟩
  · exact ⟨fun _ => b, fun c => absurd a c⟩
  · exact ⟨fun c => absurd c z.2.2.2.1.2, fun _ => ⟨z.2.1.1.1, z.2.2.2.1.1⟩⟩
theorem c_freeNumber {K : Int32 → VH → Prop} (hp : ∀ q, q < 4 → PbJ V q) (h1 : (∀ q, q < 4 → ¬ vI V 6 2 q = 0) → K (-1) V) (h2 : ∀ q, q < 4 → vI V 6 2 q = 0 → (∀ q', q' < q → ¬ vI V 6 2 q' = 0) → K (nI q) V) : vMI E d M_X11_freeNumber [sl 0 28] V K := by
  have go : ∀ (m q : Nat), q + m = 4 → (∀ q', q' < q → ¬ vI V 6 2 q' = 0) → vwp E d M_X11_freeNumber 2 [some (sl 0 28), some (wi (nI q)), none] [] V (zi K) := by
    intro m
    induction m with
    | zero =>
      intro q e ok
      have : q = 4 := by omega
      subst this
      exact w_X11_freeNumber_2 ⟨fun _ => h1 ok, fun z => absurd (by decide) z⟩
    | succ m ih =>
      intro q e ok
      have hq : q < 4 := by omega
      obtain ⟨f1, f2⟩ := (hp q hq).free
      refine w_X11_freeNumber_2 ⟨fun z => absurd z (nI_ge (b := 4) hq (by decide)), fun _ => ?_⟩
      rw [nI_clamp (show q < 2 ^ 31 by omega)]
      refine ⟨vp_in_nI hq (by decide), fun z => h2 q hq ?_ ok, fun z => ⟨⟨by omega, by omega⟩, fun y => ?_, fun y => h2 q hq ?_ ok⟩⟩
      · by_cases c : vI V 6 2 q = 0
        · exact c
        · exact absurd (f2 c).1 z
      · rw [nI_1]
        refine ih (q + 1) (by omega) (fun q' hq' => ?_)
        by_cases u : q' = q
        · rw [u]; exact fun c => y (f1 c z)
        · exact ok q' (by omega)
      · by_cases c : vI V 6 2 q = 0
        · exact c
        · exact absurd y (f2 c).2
  exact w_X11_freeNumber_0 (go 4 0 (by omega) (fun q' h => absurd h (Nat.not_lt_zero q')))
theorem c_freeSlot {K : Int32 → VH → Prop} (h1 : (∀ q, q < 4 → ¬ vI V 6 2 q = 0) → K 4 V) (h2 : ∀ q, q < 4 → vI V 6 2 q = 0 → (∀ q', q' < q → ¬ vI V 6 2 q' = 0) → K (nI q) V) : vMI E d M_X12_freeSlot [sl 6 0] V K := by
  have go : ∀ (m q : Nat), q + m = 4 → (∀ q', q' < q → ¬ vI V 6 2 q' = 0) → vwp E d M_X12_freeSlot 2 [some (sl 6 0), some (wi (nI q))] [] V (zi K) := by
    intro m
    induction m with
    | zero =>
      intro q e ok
      have : q = 4 := by omega
      subst this
      exact w_X12_freeSlot_2 ⟨fun _ => h1 ok, fun z => absurd (by decide) z⟩
    | succ m ih =>
      intro q e ok
      have hq : q < 4 := by omega
      refine w_X12_freeSlot_2 ⟨fun z => absurd z (nI_ge (b := 4) hq (by decide)), fun _ => ?_⟩
      rw [nI_clamp (show q < 2 ^ 31 by omega)]
      refine ⟨vp_in_nI (by omega) (by decide), fun z => h2 q hq z ok, fun z => ?_⟩
      rw [nI_1]
      refine ih (q + 1) (by omega) (fun q' hq' => ?_)
      by_cases u : q' = q
      · rw [u]; exact z
      · exact ok q' (by omega)
  exact w_X12_freeSlot_0 (go 4 0 (by omega) (fun q' h => absurd h (Nat.not_lt_zero q')))
/-- what the class has when a text was read -/
def ClR (V : VH) (g : Nat) (t : Nat → Int32) (n : Nat) (R : List SR) : Prop := PG (vL V) g ∧ (Byt V g 1 n ∧ ∀ i, vI V g 2 i = t i) ∧ CpS V g ∧ (vI V g 0 8 = 0 ∧ vI V g 0 9 = 0 ∧ vI V g 0 11 = 0 ∧ vI V g 19 0 = 0 ∧ ∀ j, j < 12 → vI V g 24 j = 1) ∧ NmC V g (tcR R) (nmR R) ∧ CDt V g R ∧ (vI V g 9 3 = nI (nbR R) ∧ vI V g 9 10 = nI (ubR R) ∧ nbR R ≤ vN V g 16 ∧ ubR R ≤ vN V g 15)
/-- what the reference has then -/
def MrR (V : VH) (q : Nat) (t : Nat → Int32) (n : Nat) (R : List SR) : Prop := TxM V q t n ∧ vI V 6 4 q = nI n ∧ NmM V q (tcR R) (nmR R) ∧ Kpt V q (tkT t n) (MR R) 0 (tln t n) ∧ MDt V q R ∧ StP V q R ∧ vI V 6 9 q = nI (tln t n) ∧ vI V 6 29 q = 0 ∧ ∀ v, v < tcR R 1 → vI V 6 17 (12 * q + v) = nI (Tp (szR R) (tcR R 1) (v + 1))
theorem Dg_0 (sz : Nat → Nat) (nv v : Nat) : Dg sz nv v 0 = 0 := by unfold Dg; rw [Nat.zero_div, Nat.zero_mod]
/-- a text that was read: what it says -/
theorem PrS.of (hn : n ≤ 20000) (hx : rdx (tkT t n) FF (n + 1) = .inr (tln t n, R)) (c0 : (tkT t n (tln t n)).1 = 0) (w : WR (tkT t n) FF (tln t n) R (tln t n)) (b : CDb V q R) : PrS t n R (vI V q 16) := by
  refine ⟨hn, hx, c0, w, fun s k hs hk => ?_, ?_⟩
  · rcases hs with rfl | rfl
    · obtain ⟨⟨_, _, _, _, p5, _, p7⟩, _⟩ := b.2.1 k hk
      exact ⟨p5, p7⟩
    · obtain ⟨_, _, _, _, p5, _, p7⟩ := b.2.2 k hk
      exact ⟨p5, p7⟩
  · unfold rdx at hx
    cases e : rdl (tkT t n) FF (n + 1) [] 0 with
    | inl y => rw [e] at hx; exact nomatch hx
    | inr y =>
      rw [e] at hx
      dsimp only at hx
      by_cases c : tcR y.2 1 = 0 ∨ 20000000 < plR y.2 * y.1
      · rw [if_pos c] at hx; exact nomatch hx
      · rw [if_neg c] at hx
        have := Sum.inr.inj hx
        rw [this] at c
        have c1 : ¬ tcR R 1 = 0 := fun z => c (Or.inl z)
        omega
theorem fc_bd (w : WR (tkT t n) FF (tln t n) R (tln t n)) : Bds (tcR R 0) (fcR R) := fun k hk => by
  obtain ⟨m, kd⟩ := gtR_mem (s := 0) hk
  obtain ⟨_, _, a, _⟩ := w.2.2.1 _ m
  obtain ⟨y, e, b⟩ := a kd
  unfold fcR
  rw [e]; exact b
theorem PbI.read (hq : q < 4) (hs : PrS t n R (vI V (q + 1) 16)) (hc : ClR V (q + 1) t n R) (hm : MrR V q t n R) (l1 : ¬ vI V (q + 1) 0 0 = 0) (l2 : ¬ vI V 6 2 q = 0) (ch : CchM V q R (vI V (q + 1) 16) (fcR R)) : PbI V q t n R (vI V (q + 1) 16) (fcR R) 0 0 (fun _ => 1) := by
  obtain ⟨c1, c2, c3, ⟨y8, y9, y11, y19, y24⟩, c5, ⟨⟨b1, b2, b3⟩, c7, c8⟩, d1, d2, d3, d4⟩ := hc
  obtain ⟨m1, m2, m3, m4, ⟨⟨e1, e2, e3, e4⟩, m5, m6⟩, m7, m8, m9, m10⟩ := hm
  have w := hs.2.2.2.1
  have v12 : tcR R 1 ≤ 12 := w.1 1 (by decide)
  have pos : ∀ v, v < tcR R 1 → 0 < szR R v := fun v hv => (w.sz hv).1
  have p0 : 0 < plR R := Tpos pos 0
  refine ⟨hs, ⟨c1, c2, c5, c7, c8, ⟨b2, b3⟩, ⟨⟨c1, d1, d3, by have := c3.2.2.2; omega, fun _ _ => rfl⟩, c3, d4⟩, ⟨b1, fc_bd w⟩, ⟨y8, p0⟩, y9, fun v hv => ⟨y24 v hv, 1, rfl, by decide⟩⟩, ⟨by omega, ⟨m1, m2⟩, m3, ⟨m4, m8, m7⟩, ⟨by omega, (m3.1 1 (by decide)).1, v12, m5, w.2.2.2.1, fun v hv => ?_⟩, m6, ⟨e3, e4⟩, e1, ⟨p0, fun v hv => ?_⟩, fun v hv => ?_, fun v hv => (e2 v hv).2.2.1⟩, ⟨l1, l2⟩, ⟨0, by decide, y11, m9, fun j hj => absurd hj (Nat.not_lt_zero j)⟩, Or.inl y19, ch, fun v _ => tst_z v⟩
  · obtain ⟨z1, _, _, _, z5⟩ := e2 v hv
    exact ⟨z1, (w.sz hv).1, (w.sz hv).2, m10 v hv, z5⟩
  · rw [(e2 v hv).2.1, Dg_0]; rfl
  · rw [(e2 v hv).2.2.2.1, tst_z]; exact ⟨fun _ => rfl, fun _ => rfl⟩
/-- what the class's part of a call that reads a text into problem q leaves -/
def PcF (V V' : VH) (q : Nat) : Prop := (∀ a, vL V' a = if a = q + 1 then true else vL V a) ∧ (∀ a f, a ≠ q + 1 → ¬ (a = 0 ∧ (f ≤ 8 ∨ f = 28)) → vN V' a f = vN V a f ∧ vI V' a f = vI V a f ∧ vJ V' a f = vJ V a f) ∧ (∀ j, vJ V' 0 28 j = vJ V 0 28 j) ∧ (∃ cap, TkN V' cap) ∧ (CpS V' (q + 1) ∧ TbN V' (q + 1)) ∧ vP V' = q + 1 ∧ vQ V' = q + 1
/-- room for problem q -/
theorem c_room {K : Nat → VH → Prop} (h0 : 2 < d) (hq : q < 4) (hg : GrJ V) (hk : ∀ V3, (∀ a, vL V3 a = if a = q + 1 then true else vL V a) → (∀ a f, a ≠ q + 1 → vN V3 a f = vN V a f ∧ vI V3 a f = vI V a f ∧ vJ V3 a f = vJ V a f) → CpS V3 (q + 1) → TbN V3 (q + 1) → 64 ≤ vN V3 (q + 1) 2 → vN V3 (q + 1) 2 ≤ 60000 → K (q + 1) V3) : vMP E d M_X11_roomFor [sl 0 28, wi (nI q)] V K := by
  refine w_X11_roomFor h0 hq (fun z => hg.1 (q + 1) (by omega) (by omega) z) (fun z => ?_) (fun z V3 hN => ?_)
  · obtain ⟨a, b, l, _, _, _, e1, e2⟩ := hg.2 (q + 1) (by omega) (by omega) z
    refine hk V (fun a => ?_) (fun a f _ => ⟨rfl, rfl, rfl⟩) a b e1 e2
    by_cases c : a = q + 1
    · rw [if_pos c, c]; exact z
    · rw [if_neg c]
  · obtain ⟨l3, _, _, o3, _, _, m3, _⟩ := hN
    refine hk V3 (fun a => by rw [l3]) (fun a f h => o3 a f h) ?_ ?_ ?_ ?_
    · unfold CpS; rw [m3 15 (by decide), m3 16 (by decide)]; decide
    · unfold TbN; rw [m3 20 (by decide), m3 21 (by decide), m3 22 (by decide)]; decide
    · rw [m3 2 (by decide)]; decide
    · rw [m3 2 (by decide)]; decide
theorem ClR.ex {g : Nat} (hc : ClR V g t n R) (hl : vL V' g = vL V g) (hn : ∀ f, f = 2 ∨ f = 15 ∨ f = 16 → vN V' g f = vN V g f) (hi : ∀ f j, f ≠ 0 ∨ j = 8 ∨ j = 9 ∨ j = 11 → vI V' g f j = vI V g f j) (hj : ∀ j, vJ V' g 3 j = vJ V g 3 j) : ClR V' g t n R := by
  have ri : ∀ f, f ≠ 0 → vI V' g f = vI V g f := fun f hf => funext fun j => hi f j (Or.inl hf)
  obtain ⟨c1, ⟨⟨b1, b2, b3, b4, b5⟩, c2⟩, c3, ⟨y8, y9, y11, y19, y24⟩, c5, ⟨⟨e1, e2, e3⟩, c7, ⟨f1, f2, f3⟩⟩, d1, d2, d3, d4⟩ := hc
  have pt : ∀ {j : Nat} {r : SR} {u w : Nat}, PtC V g j r u w → PtC V' g j r u w := fun p => p.ex (by rw [ri 10 (by omega)]) (by rw [ri 13 (by omega)]) (by rw [ri 14 (by omega)]) (fun k _ => by rw [ri 15 (by omega)]) (fun k _ => by rw [ri 16 (by omega)]) (Nat.le_refl _) (Nat.le_refl _)
  refine ⟨⟨by rw [hl]; exact c1.1, c1.2⟩, ⟨⟨⟨by rw [hl]; exact b1.1, b1.2⟩, by rw [ri 1 (by omega)]; exact b2, by rw [hn 2 (by omega)]; exact b3, by rw [hn 2 (by omega)]; exact b4, by rw [hn 2 (by omega)]; exact b5⟩, fun i => by rw [ri 2 (by omega)]; exact c2 i⟩, ?_, ⟨by rw [hi 0 8 (by omega)]; exact y8, by rw [hi 0 9 (by omega)]; exact y9, by rw [hi 0 11 (by omega)]; exact y11, by rw [ri 19 (by omega)]; exact y19, fun j hj => by rw [ri 24 (by omega)]; exact y24 j hj⟩, ⟨fun s hs => by rw [ri 4 (by omega)]; exact c5.1 s hs, fun s hs k hk => by rw [hj]; exact c5.2 s hs k hk⟩, ⟨⟨fun k hk => by rw [ri 23 (by omega)]; exact e1 k hk, fun k hk => ?_, fun k hk => pt (e3 k hk)⟩, c7.fro hl (fun f hf => ri f (by omega)), by rw [ri 9 (by omega)]; exact f1, by rw [ri 9 (by omega)]; exact f2, by rw [ri 9 (by omega)]; exact f3⟩, by rw [ri 9 (by omega)]; exact d1, by rw [ri 9 (by omega)]; exact d2, by rw [hn 16 (by omega)]; exact d3, by rw [hn 15 (by omega)]; exact d4⟩
  · unfold CpS; rw [hn 15 (by omega), hn 16 (by omega)]; exact c3
  · obtain ⟨p1, p2, p3⟩ := e2 k hk
    exact ⟨pt p1, by rw [ri 11 (by omega)]; exact p2, by rw [ri 12 (by omega)]; exact p3⟩
/-- the class's part: a text of n bytes from the tape -/
theorem c_problemC {K : Int32 → VH → Prop} (hE : eFr E) (h0 : 180 < d) (hJ : JS B V) (by0 : Byt V 0 0 n) (n20 : n ≤ 20000)
    (hk0 : (∀ q, q < 4 → ¬ vI V 6 2 q = 0) → K (-100000) V)
    (hkf : ∀ q, q < 4 → vI V 6 2 q = 0 → (∀ q', q' < q → ¬ vI V 6 2 q' = 0) → ∀ t, (∀ i, i < n → t i = vI V 0 1 i) → ∀ e, rdx (tkT t n) FF (n + 1) = .inl e → ∀ V', PcF V V' q → Byt V' 0 0 0 → Byt V' (q + 1) 1 n → vI V' 0 28 9 = nI e.1 → vI V' (q + 1) 0 0 = 0 → K (-1 - nI e.2) V')
    (hky : ∀ q, q < 4 → vI V 6 2 q = 0 → (∀ q', q' < q → ¬ vI V 6 2 q' = 0) → ∀ t, (∀ i, i < n → t i = vI V 0 1 i) → ∀ R, rdx (tkT t n) FF (n + 1) = .inr (tln t n, R) → ∀ V', PcF V V' q → Byt V' 0 0 0 → PrS t n R (vI V' (q + 1) 16) → ClR V' (q + 1) t n R → vI V' 0 28 9 = 0 → vI V' (q + 1) 0 0 = 1 → K (nI q) V') : vMI E d M_X11_problem [sl 0 28] V K := by
  obtain ⟨cap, tk, _⟩ := hJ.2.2.1
  have gj := hJ.2.2.2.2.2.1
  have ff : FF = 160008 := rfl
  refine w_X11_problem_0 (by omega) (c_freeNumber hJ.2.2.2.2.2.2.2.2 (fun z => ⟨fun y => absurd y (by decide), fun _ => hk0 z⟩) (fun q hq z1 z2 => ⟨fun _ => ?_, fun y => absurd (nI_le (a := 0) (Nat.zero_le _) (by omega)) y⟩))
  refine c_room (by omega) hq gj (fun V3 l3 o3 cp3 tb3 n3 n3' => ?_)
  have g0 : q + 1 ≠ 0 := by omega
  have g6 : q + 1 ≠ 6 := by omega
  have pg3 : PG (vL V3) (q + 1) := ⟨by rw [l3, if_pos rfl], g0, g6⟩
  have L0 : vL V3 0 = vL V 0 := by rw [l3, if_neg (by omega)]
  refine ⟨pg3, ?_⟩
  have T3 : Byt V3 0 0 n := by
    obtain ⟨b1, b2, b3, b4, b5⟩ := by0
    have e := (o3 0 (0 + 1) (by omega)).1
    exact ⟨⟨by rw [L0]; exact b1.1, b1.2⟩, by rw [(o3 0 0 (by omega)).2.1]; exact b2, by rw [e]; exact b3, by rw [e]; exact b4, by rw [e]; exact b5⟩
  rw [show vI V3 0 0 1 = nI n from T3.2.1]
  refine c_become2 (s := 0) (m := n) (by omega) (bs_text pg3) n3 n3' T3 (fun y => by omega) (by omega) (by omega) (fun V6 b6 tx6 => ?_)
  have T6 : Byt V6 0 0 n := T3.fr b6.1 (fun z => by have := z.1; omega) (fun z => by have := z.1; omega)
  refine vupV (K' := fun V10 => Fr V6 V10 (fun a f => a = 0 ∧ f = 0) ∧ Byt V10 0 0 0) (c_keep (m := 0) T6 (Nat.zero_le _) (fun V10 f10 b10 => ⟨f10, b10⟩)) (fun V10 hh W10 _ => ?_)
  obtain ⟨f10, b10⟩ := hh
  have l10 : vL V10 = vL V3 := by rw [f10.1, b6.1.1]
  have pg10 : PG (vL V10) (q + 1) := by rw [l10]; exact pg3
  have t10 : Byt V10 (q + 1) 1 n := b6.2.1.fr f10 (fun z => g0 z.1) (fun z => g0 z.1)
  have n10 : ∀ a f, ¬ (a = 0 ∧ f = 0) → ¬ bR (q + 1) 1 a f → vN V10 a f = vN V3 a f := fun a f c y => by rw [f10.n c, b6.1.n y]
  have tk10 : TkN V10 cap := by
    have e : ∀ f, f = 3 ∨ f = 4 ∨ f = 5 ∨ f = 6 → vN V10 0 f = vN V 0 f := fun f hf => by rw [n10 0 f (by omega) (fun z => g0 z.1.symm), (o3 0 f (by omega)).1]
    unfold TkN; rw [e 3 (by omega), e 4 (by omega), e 5 (by omega), e 6 (by omega)]; exact tk
  have nb : ∀ f, f ≠ 1 → f ≠ 2 → ¬ bR (q + 1) 1 (q + 1) f := fun f h1 h2 z => by have := z.2; omega
  have cp10 : CpS V10 (q + 1) := by unfold CpS; rw [n10 _ 15 (by omega) (nb 15 (by decide) (by decide)), n10 _ 16 (by omega) (nb 16 (by decide) (by decide))]; exact cp3
  generalize et : vI V10 (q + 1) 2 = t
  have ht : ∀ i, i < n → t i = vI V 0 1 i := fun i hi => by
    have a := tx6 i hi
    rw [Nat.zero_add i] at a
    rw [← et, f10.i (fun z => g0 z.1)]
    exact a.trans (by rw [(o3 0 (0 + 1) (by omega)).2.1])
  -- what is common
  have com : ∀ (V14 V20 : VH) (r : Int32), Fq V10 V14 (rdS (q + 1)) → (∃ cap', TkN V14 cap') → CpS V14 (q + 1) → ((vP V14 = q + 1 ∧ vQ V14 = q + 1) ∧ ∀ f, 19 < f → f < 23 → vN V14 (q + 1) f = vN V10 (q + 1) f) → V20 = wrI (wrI V14 (q + 1) 0 0 r) 0 28 9 (vI (wrI V14 (q + 1) 0 0 r) 0 2 10) → PcF V V20 q ∧ Byt V20 0 0 0 ∧ Byt V20 (q + 1) 1 n := fun V14 V20 r fq tk14 cp14 pq e20 => by
    have n20' : vN V20 = vN V14 := by rw [e20]; rfl
    have l20 : vL V20 = vL V14 := by rw [e20]; rfl
    have r20 : ∀ a f, ¬ (a = q + 1 ∧ f = 0) → ¬ (a = 0 ∧ f = 28) → vI V20 a f = vI V14 a f := fun a f h1 h2 => funext fun j => by rw [e20, wrI_ne (fun z => h2 ⟨z.1, z.2.1⟩), wrI_ne (fun z => h1 ⟨z.1, z.2.1⟩)]
    have j20 : ∀ a f, vJ V20 a f = vJ V14 a f := fun a f => by rw [e20]; rfl
    have nr : ∀ a f, a ≠ q + 1 → ¬ (a = 0 ∧ (2 ≤ f ∧ f ≤ 8)) → ¬ rdS (q + 1) a f := fun a f h1 h2 y => by rcases y with y | y; exact h2 y; exact h1 y.1
    refine ⟨⟨fun a => by rw [l20, fq.1, l10]; exact l3 a, fun a f h1 h2 => ?_, fun j => ?_, ?_, ⟨?_, ?_⟩, by rw [show vP V20 = vP V14 from by rw [e20]; rfl]; exact pq.1.1, by rw [show vQ V20 = vQ V14 from by rw [e20]; rfl]; exact pq.1.2⟩, ?_, ?_⟩
    · have k := nr a f h1 (fun y => h2 (by omega))
      have nbr : ¬ bR (q + 1) 1 a f := fun y => h1 y.1
      have nk : ¬ (a = 0 ∧ f = 0) := fun y => h2 (by omega)
      exact ⟨by rw [n20', fq.n k, n10 a f nk nbr, (o3 a f h1).1], by rw [r20 a f (fun y => h1 y.1) (fun y => h2 (by omega)), fq.i k, f10.i nk, b6.1.i nbr, (o3 a f h1).2.1], by rw [j20, fq.j k, f10.j nk, b6.1.j nbr, (o3 a f h1).2.2]⟩
    · rw [j20, fq.j (nr 0 28 (by omega) (by omega)), f10.j (by omega), b6.1.j (fun y => g0 y.1.symm), (o3 0 28 (by omega)).2.2]
    · obtain ⟨cap', z⟩ := tk14
      exact ⟨cap', by unfold TkN; rw [n20']; exact z⟩
    · unfold CpS; rw [n20']; exact cp14
    · unfold TbN
      rw [n20', pq.2 20 (by decide) (by decide), pq.2 21 (by decide) (by decide), pq.2 22 (by decide) (by decide), n10 _ 20 (by omega) (nb 20 (by decide) (by decide)), n10 _ 21 (by omega) (nb 21 (by decide) (by decide)), n10 _ 22 (by omega) (nb 22 (by decide) (by decide))]
      exact tb3
    · obtain ⟨b1, b2, b3, b4, b5⟩ := b10
      have e := fq.n (nr 0 (0 + 1) (by omega) (by omega))
      exact ⟨⟨by rw [l20, fq.1]; exact b1.1, b1.2⟩, by rw [r20 0 0 (by omega) (by omega), fq.i (nr 0 0 (by omega) (by omega))]; exact b2, by rw [n20', e]; exact b3, by rw [n20', e]; exact b4, by rw [n20', e]; exact b5⟩
    · obtain ⟨b1, b2, b3, b4, b5⟩ := t10
      have k1 : ¬ rdS (q + 1) (q + 1) 1 := fun y => by rcases y with y | y; omega; exact y.2.1 rfl
      have k2 : ¬ rdS (q + 1) (q + 1) (1 + 1) := fun y => by rcases y with y | y; omega; exact y.2.2 rfl
      have e := fq.n k2
      exact ⟨⟨by rw [l20, fq.1]; exact b1.1, b1.2⟩, by rw [r20 (q + 1) 1 (by omega) (by omega), fq.i k1]; exact b2, by rw [n20', e]; exact b3, by rw [n20', e]; exact b4, by rw [n20', e]; exact b5⟩
  refine c_readT hE (by omega) W10 pg10 t10 n20 tk10 cp10 (F := FF) (by omega) (fun e he V14 fq tk14 cp14 fl pq => ⟨Or.inl rfl, fun V19 e19 V20 e20 => ?_⟩) (fun y hy V14 fq tk14 cp14 dy nm cd nt w ey c0 z10 pq => ⟨Or.inr rfl, fun V19 e19 V20 e20 => ?_⟩)
  · rw [et] at he
    rw [e19] at e20
    obtain ⟨pc, bt0, bt1⟩ := com V14 V20 0 fq tk14 cp14 pq e20
    have i10 : vI (wrI V14 (q + 1) 0 0 0) 0 2 10 = nI e.1 := by rw [wrI_ne (fun z => by omega)]; exact fl.1
    have live : vI V20 (q + 1) 0 0 = 0 := by rw [e20, wrI_ne (fun z => by omega), wrI_at]
    have i11 : vI V20 0 2 11 = nI e.2 := by rw [e20, wrI_ne (fun z => by omega), wrI_ne (fun z => by omega)]; exact fl.2
    refine ⟨fun _ => ?_, fun z => absurd live z⟩
    rw [i11]
    exact hkf q hq z1 z2 t ht e he V20 pc bt0 bt1 (by rw [e20, wrI_at]; exact i10) live
  · rw [et] at hy w ey c0
    rw [e19] at e20
    obtain ⟨pc, bt0, bt1⟩ := com V14 V20 1 fq tk14 cp14 pq e20
    have ly : y = (tln t n, y.2) := by rw [← ey]
    have i10 : vI (wrI V14 (q + 1) 0 0 1) 0 2 10 = 0 := by rw [wrI_ne (fun z => by omega)]; exact z10
    have live : vI V20 (q + 1) 0 0 = 1 := by rw [e20, wrI_ne (fun z => by omega), wrI_at]
    have l20 : vL V20 = vL V14 := by rw [e20]; rfl
    have pg20 : PG (vL V20) (q + 1) := by rw [l20, fq.1]; exact pg10
    have i20 : ∀ f j, f ≠ 0 ∨ j = 8 ∨ j = 9 ∨ j = 11 → vI V20 (q + 1) f j = vI V14 (q + 1) f j := fun f j h => by rw [e20, wrI_ne (fun z => by omega), wrI_ne (fun z => by omega)]
    have tx : ∀ i, vI V20 (q + 1) 2 i = t i := fun i => by
      have k2 : ¬ rdS (q + 1) (q + 1) 2 := fun y => by rcases y with y | y; omega; exact y.2.2 rfl
      rw [i20 2 i (by omega), fq.i k2, et]
    have bt14 : Byt V14 (q + 1) 1 n ∧ ∀ i, vI V14 (q + 1) 2 i = t i := by
      obtain ⟨b1, b2, b3, b4, b5⟩ := bt1
      have n20' : vN V20 = vN V14 := by rw [e20]; rfl
      exact ⟨⟨⟨by rw [← l20]; exact b1.1, b1.2⟩, by rw [← i20 1 1 (by omega)]; exact b2, by rw [← n20']; exact b3, by rw [← n20']; exact b4, by rw [← n20']; exact b5⟩, fun i => by rw [← i20 2 i (by omega)]; exact tx i⟩
    have cl14 : ClR V14 (q + 1) t n y.2 := ⟨by rw [fq.1]; exact pg10, bt14, cp14, ⟨dy.2.1, dy.2.2.1, dy.2.2.2.1, dy.2.2.2.2.1, dy.2.2.2.2.2⟩, nm, cd, nt⟩
    have cl := cl14.ex (V' := V20) (by rw [l20]) (fun f _ => by rw [e20]; rfl) i20 (fun j => by rw [e20]; rfl)
    have hy' : rdx (tkT t n) FF (n + 1) = .inr (tln t n, y.2) := by rw [hy]; exact congrArg Sum.inr ly
    rw [ey] at w c0
    refine ⟨fun z => absurd (live.symm.trans z) (by decide), fun _ => hky q hq z1 z2 t ht y.2 hy' V20 pc bt0 (PrS.of n20 hy' c0 w cl.2.2.2.2.2.1.1) cl (by rw [e20, wrI_at]; exact i10) live⟩
end
