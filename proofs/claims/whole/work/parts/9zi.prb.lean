/-! a problem, in the class and in the reference -/
def FF : Nat := 160008
/-- notes stand as they were read -/
def NtC (nt : Nat → Int32) (R : List SR) : Prop := ∀ s k, s = 2 ∨ s = 3 → k < tcR R s → Ntd nt (gtR R s k).nb (gtR R s k).N ∧ (gtR R s k).nb + (gtR R s k).N.length ≤ nbR R
/-- a text that says statements R -/
def PrS (t : Nat → Int32) (n : Nat) (R : List SR) (nt : Nat → Int32) : Prop := n ≤ 20000 ∧ rdx (tkT t n) FF (n + 1) = .inr (tln t n, R) ∧ (tkT t n (tln t n)).1 = 0 ∧ WR (tkT t n) FF (tln t n) R (tln t n) ∧ NtC nt R ∧ 1 ≤ tcR R 1
def DR (R : List SR) (nt : Nat → Int32) (r : Nat) : Den := dnt (tcR R 0) (tcR R 1) nt (gtR R 2 r).C
def DRa (R : List SR) (nt : Nat → Int32) (a : Nat) : Den := dnt (tcR R 0) (tcR R 1) nt (gtR R 3 a).C
def lvn (R : List SR) (r : Nat) : Nat := (lvR R r).toNatClampNeg
def aln (R : List SR) (a : Nat) : Nat := (alR R a).toNatClampNeg
section
variable {t : Nat → Int32} {n : Nat} {R : List SR} {nt fa : Nat → Int32}
theorem Bd_0 : Bd 0 := ⟨by decide, by decide⟩
theorem EG_R (h : PrS t n R nt) : EG (tkT t n) (MR R) (tcR R 0) (tcR R 1) (fun _ => 0) (fun _ => 0) := by
  have w := h.2.2.2.1
  refine ⟨fun j => ?_, fun k q hq => ?_, w.1 0 (by decide), w.1 1 (by decide), fun i _ => Bd_0, fun i _ => Bd_0⟩
  · obtain ⟨x1, _, _, _, _, _, _, x8⟩ := tkT_ok t n j
    refine ⟨?_, x8⟩
    have := of_decide_eq_true x1
    omega
  · obtain ⟨a, b, _⟩ := lku_lt hq
    exact ⟨fun z => by rw [z] at b; exact b, fun z => by rw [z] at b; exact b⟩
theorem PrS.rule (h : PrS t n R nt) {r : Nat} (hr : r < tcR R 2) : lvn R r < 3 ∧ lvR R r = nI (lvn R r) ∧ (∃ w, wtR R r = nI w ∧ 1 ≤ w ∧ w ≤ 1000) ∧ bdy (tkT t n) FF (tln t n) (MR R) 0 (gtR R 2 r) := by
  obtain ⟨m, k⟩ := gtR_mem (s := 2) hr
  obtain ⟨_, _, _, _, a, _⟩ := h.2.2.2.1.2.2.1 _ m
  obtain ⟨l, w, e, l3, w1, w2, b⟩ := a k
  have el : lvR R r = nI l := by unfold lvR; rw [e]; rfl
  have ew : wtR R r = nI w := by unfold wtR; rw [e]; rfl
  have en : lvn R r = l := by unfold lvn; rw [el]; exact nI_clamp (by omega)
  exact ⟨by omega, by rw [en]; exact el, ⟨w, ew, w1, w2⟩, b⟩
theorem PrS.aim (h : PrS t n R nt) {a : Nat} (ha : a < tcR R 3) : aln R a < 3 ∧ 1 ≤ aln R a ∧ alR R a = nI (aln R a) ∧ bdy (tkT t n) FF (tln t n) (MR R) 4 (gtR R 3 a) := by
  obtain ⟨m, k⟩ := gtR_mem (s := 3) ha
  obtain ⟨_, _, _, _, _, b⟩ := h.2.2.2.1.2.2.1 _ m
  obtain ⟨l, e, l1, l3, b⟩ := b k
  have el : alR R a = nI l := by unfold alR; rw [e]; rfl
  have en : aln R a = l := by unfold aln; rw [el]; exact nI_clamp (by omega)
  exact ⟨by omega, by omega, by rw [en]; exact el, b⟩
theorem PrS.vls (h : PrS t n R nt) {v k : Nat} (hv : v < tcR R 1) (hk : k < szR R v) : Bd (vlR R v k) := by
  obtain ⟨m, kd⟩ := gtR_mem (s := 1) hv
  obtain ⟨_, _, _, w, _, _⟩ := h.2.2.2.1.2.2.1 _ m
  exact ((w kd).2.2 _ (mem_getD.mpr ⟨k, hk, rfl⟩)).bd (by decide)
theorem PrS.L (h : PrS t n R nt) : TL (tkT t n) (tln t n) ∧ tln t n ≤ 20000 := ⟨⟨(tln_ok t n).2.1, (tln_ok t n).2.2⟩, by have := (tln_ok t n).1; have := h.1; omega⟩
theorem PrS.dx (r : Nat) : Dx (tcR R 1) (tcR R 0) (DR R nt r) := dnt_x
theorem PrS.dxa (a : Nat) : Dx (tcR R 1) (tcR R 0) (DRa R nt a) := dnt_x
end
/-- rules and aims of the class's judge -/
def CJu (V : VH) (g : Nat) (R : List SR) : Prop := (∀ k, k < tcR R 2 → PtC V g k (gtR R 2 k) (ubR R) (nbR R) ∧ vI V g 11 k = wtR R k ∧ vI V g 12 k = (gtR R 2 k).sv) ∧ ∀ k, k < tcR R 3 → PtC V g (24 + k) (gtR R 3 k) (ubR R) (nbR R)
/-- a problem of the class: text t, statements R; facts fa, hand h, pins x, costs cs -/
def PrC (V : VH) (g : Nat) (t : Nat → Int32) (n : Nat) (R : List SR) (nt fa : Nat → Int32) (h : Nat) (x : Int32) (cs : Nat → Int32) : Prop :=
  PG (vL V) g ∧ (Byt V g 1 n ∧ ∀ i, vI V g 2 i = t i) ∧ NmC V g (tcR R) (nmR R) ∧ Sp V g (tcR R 1) (szR R) (vlR R) ∧ CDc V g R ∧ CJu V g R ∧ (EV V g (nbR R) nt ∧ CpS V g ∧ ubR R ≤ vN V g 15) ∧ ((∀ k, k < tcR R 0 → vI V g 23 k = fa k) ∧ Bds (tcR R 0) fa) ∧ (vI V g 0 8 = nI h ∧ h < plR R) ∧ vI V g 0 9 = x ∧ ∀ v, v < 12 → vI V g 24 v = cs v ∧ ∃ c, cs v = nI c ∧ c ≤ 1000
/-- a problem of the reference -/
def PrM (V : VH) (q : Nat) (t : Nat → Int32) (n : Nat) (R : List SR) (fa : Nat → Int32) (h : Nat) (x : Int32) (cs : Nat → Int32) : Prop :=
  q < 5 ∧ (TxM V q t n ∧ vI V 6 4 q = nI n) ∧ NmM V q (tcR R) (nmR R) ∧ (Kpt V q (tkT t n) (MR R) 0 (tln t n) ∧ vI V 6 9 q = nI (tln t n) ∧ StP V q R) ∧ Sq V q (tcR R 1) (szR R) (vlR R) ∧ vI V 6 23 q = nI (hdR R)
  ∧ ((∀ k, k < tcR R 2 → vI V 6 24 (24 * q + k) = lvR R k ∧ vI V 6 25 (24 * q + k) = wtR R k ∧ vI V 6 26 (24 * q + k) = nI (20000 * q + (gtR R 2 k).b)) ∧ ∀ k, k < tcR R 3 → vI V 6 27 (6 * q + k) = alR R k ∧ vI V 6 28 (6 * q + k) = nI (20000 * q + (gtR R 3 k).b))
  ∧ (∀ k, k < tcR R 0 → vI V 6 15 (16 * q + k) = fa k) ∧ Hq V q (tcR R 1) (szR R) h ∧ Pq V q (tcR R 1) (tst x) ∧ ∀ v, v < tcR R 1 → vI V 6 20 (12 * q + v) = cs v
section
variable {E : EE} {d : Nat} {V V' : VH} {g q : Nat} {t : Nat → Int32} {n : Nat} {R : List SR} {nt fa : Nat → Int32} {h : Nat} {x : Int32} {cs : Nat → Int32}
theorem PrC.rl (hc : PrC V g t n R nt fa h x cs) (hs : PrS t n R nt) (h0 : 3 < d) : Rl E d V g (tcR R 2) (tcR R 3) (lvn R) (aln R) (wtR R) (DR R nt) (DRa R nt) := by
  obtain ⟨hg, _, _, hS, ⟨_, c1, c2⟩, ⟨j1, j2⟩, ⟨ev, ⟨_, cp, _, _⟩, ub⟩, _⟩ := hc
  have w := hs.2.2.2.1
  have r24 : tcR R 2 ≤ 24 := w.1 2 (by decide)
  have a6 : tcR R 3 ≤ 6 := w.1 3 (by decide)
  have f16 : tcR R 0 ≤ 16 := w.1 0 (by decide)
  have v12 : tcR R 1 ≤ 12 := w.1 1 (by decide)
  have eg := EG_R hs
  refine ⟨hg, r24, a6, c1, c2, fun r hr => ?_, fun a ha => ?_⟩
  · obtain ⟨l3, el, _, b⟩ := hs.rule hr
    obtain ⟨⟨p1, p2, p3, p4, _, p6, p7⟩, p8, _⟩ := j1 r hr
    obtain ⟨n1, n2⟩ := hs.2.2.2.2.1 2 r (Or.inl rfl) hr
    exact ⟨l3, by rw [p1]; exact el, p8, runH_of h0 ev v12 f16 (by omega) p2 p3 (by omega) (by omega) p4 (prz_ok eg _ _ _ _ _ _ _ _ _ b.1 n1 n2)⟩
  · obtain ⟨l3, _, el, b⟩ := hs.aim ha
    obtain ⟨p1, p2, p3, p4, _, p6, p7⟩ := j2 a ha
    obtain ⟨n1, n2⟩ := hs.2.2.2.2.1 3 a (Or.inr rfl) ha
    exact ⟨l3, by rw [p1]; exact el, runH_of h0 ev v12 f16 (by omega) p2 p3 (by omega) (by omega) p4 (prz_ok eg _ _ _ _ _ _ _ _ _ b.1 n1 n2)⟩
theorem PrM.rq (hm : PrM V q t n R fa h x cs) (hs : PrS t n R nt) (h0 : 158 ≤ d) : Rq E d V (tcR R 0) (tcR R 1) q (tcR R 2) (tcR R 3) (lvn R) (aln R) (wtR R) (DR R nt) (DRa R nt) := by
  obtain ⟨hq, _, hN, ⟨hK, _⟩, _, _, ⟨m1, m2⟩, _⟩ := hm
  have w := hs.2.2.2.1
  have r24 : tcR R 2 ≤ 24 := w.1 2 (by decide)
  have a6 : tcR R 3 ≤ 6 := w.1 3 (by decide)
  have eg := EG_R hs
  obtain ⟨hT, hL⟩ := hs.L
  have ff : FF = 160008 := rfl
  refine ⟨hq, r24, a6, (hN.1 2 (by decide)).1, (hN.1 3 (by decide)).1, fun r hr => ?_, fun a ha => ?_⟩
  · obtain ⟨l3, el, _, b1, b2, b3, b4⟩ := hs.rule hr
    obtain ⟨e1, e2, e3⟩ := m1 r hr
    exact ⟨l3, by rw [e1]; exact el, e2, 20000 * q + (gtR R 2 r).b, e3, TvH_of h0 hq hT hL eg hK (by omega) b2 b4 (by omega) b1 (hs.2.2.2.2.1 2 r (Or.inl rfl) hr).1⟩
  · obtain ⟨l3, _, el, b1, b2, b3, b4⟩ := hs.aim ha
    obtain ⟨e1, e2⟩ := m2 a ha
    exact ⟨l3, by rw [e1]; exact el, 20000 * q + (gtR R 3 a).b, e2, SvH_of h0 hq hT hL eg hK (by omega) b2 b4 (by omega) b1 (hs.2.2.2.2.1 3 a (Or.inr rfl) ha).1⟩
/-- cells of the class's problem that stay -/
def kpC (f j : Nat) : Prop := f = 0 ∧ (j = 8 ∨ j = 9) ∨ f = 9 ∧ j ≠ 13 ∨ 1 ≤ f ∧ f ≤ 8 ∨ 10 ≤ f ∧ f ≤ 16 ∨ f = 23 ∨ f = 24
theorem PrC.fr (hc : PrC V g t n R nt fa h x cs) (hl : vL V' g = vL V g) (hn : ∀ f, f = 2 ∨ f = 15 ∨ f = 16 → vN V' g f = vN V g f) (hi : ∀ f j, kpC f j → vI V' g f j = vI V g f j) (hj : ∀ j, vJ V' g 3 j = vJ V g 3 j) : PrC V' g t n R nt fa h x cs := by
  have ri : ∀ f, 1 ≤ f ∧ f ≤ 8 ∨ 10 ≤ f ∧ f ≤ 16 ∨ f = 23 ∨ f = 24 → vI V' g f = vI V g f := fun f hf => funext fun j => hi f j (by unfold kpC; omega)
  have r9 : ∀ j, j ≠ 13 → vI V' g 9 j = vI V g 9 j := fun j z => hi 9 j (by unfold kpC; omega)
  obtain ⟨a1, ⟨⟨b1, b2, b3, b4, b5⟩, a2'⟩, a3, a4, ⟨a5, a5', a5''⟩, ⟨a6, a6'⟩, ⟨⟨e1, e2, e3, e4, e5⟩, a7, a7'⟩, ⟨a8, a8'⟩, ⟨a9, a9'⟩, a10, a11⟩ := hc
  have pt : ∀ {j : Nat} {r : SR} {u w : Nat}, PtC V g j r u w → PtC V' g j r u w := fun p => p.ex (by rw [ri 10 (by omega)]) (by rw [ri 13 (by omega)]) (by rw [ri 14 (by omega)]) (fun k _ => by rw [ri 15 (by omega)]) (fun k _ => by rw [ri 16 (by omega)]) (Nat.le_refl _) (Nat.le_refl _)
  refine ⟨⟨by rw [hl]; exact a1.1, a1.2⟩, ⟨⟨?_, by rw [ri 1 (by omega)]; exact b2, by rw [hn 2 (by omega)]; exact b3, by rw [hn 2 (by omega)]; exact b4, by rw [hn 2 (by omega)]; exact b5⟩, fun i => by rw [ri 2 (by omega)]; exact a2' i⟩, ⟨fun s hs => by rw [ri 4 (by omega)]; exact a3.1 s hs, fun s hs k hk => by rw [hj]; exact a3.2 s hs k hk⟩, a4.fro hl (fun f hf => ri f (by omega)), ⟨by rw [r9 0 (by omega)]; exact a5, by rw [r9 1 (by omega)]; exact a5', by rw [r9 2 (by omega)]; exact a5''⟩, ⟨fun k hk => ?_, fun k hk => pt (a6' k hk)⟩, ⟨⟨⟨by rw [hl]; exact e1.1, e1.2⟩, by rw [r9 3 (by omega)]; exact e2, by rw [hn 16 (by omega)]; exact e3, by rw [hn 16 (by omega)]; exact e4, fun k hk => by rw [ri 16 (by omega)]; exact e5 k hk⟩, ?_, by rw [hn 15 (by omega)]; exact a7'⟩, ⟨fun k hk => by rw [ri 23 (by omega)]; exact a8 k hk, a8'⟩, ⟨by rw [hi 0 8 (by unfold kpC; omega)]; exact a9, a9'⟩, by rw [hi 0 9 (by unfold kpC; omega)]; exact a10, fun v hv => by rw [ri 24 (by omega)]; exact a11 v hv⟩
  · obtain ⟨z1, z2⟩ := b1
    exact ⟨by rw [hl]; exact z1, z2⟩
  · obtain ⟨p1, p2, p3⟩ := a6 k hk
    exact ⟨pt p1, by rw [ri 11 (by omega)]; exact p2, by rw [ri 12 (by omega)]; exact p3⟩
  · unfold CpS; rw [hn 15 (by omega), hn 16 (by omega)]; exact a7
/-- how wide a problem's part of a row is -/
def wM (f : Nat) : Nat := if f = 3 ∨ f = 5 ∨ f = 6 ∨ f = 7 ∨ f = 8 then 20000 else if f = 10 then 64 else if f = 12 ∨ f = 13 ∨ f = 31 ∨ f = 32 then 96 else if f = 14 then 4 else if f = 15 then 16 else if f = 16 ∨ f = 17 ∨ f = 19 ∨ f = 20 ∨ f = 21 then 12 else if f = 18 then 240 else if f = 24 ∨ f = 25 ∨ f = 26 then 24 else if f = 27 ∨ f = 28 ∨ f = 30 then 6 else 1
/-- cell j of row f is problem q's -/
def ofQ (q f j : Nat) : Prop := 3 ≤ f ∧ f ≤ 33 ∧ wM f * q ≤ j ∧ j < wM f * q + wM f
theorem ofQ_ne {q p f j : Nat} (h : q ≠ p) (a : ofQ q f j) : ¬ ofQ p f j := fun b => by
  obtain ⟨_, _, a1, a2⟩ := a
  obtain ⟨_, _, b1, b2⟩ := b
  generalize wM f = w at *
  rcases Nat.lt_or_gt_of_ne h with z | z
  · have : w * (q + 1) ≤ w * p := Nat.mul_le_mul_left _ z
    rw [Nat.mul_add, Nat.mul_one] at this
    omega
  · have : w * (p + 1) ≤ w * q := Nat.mul_le_mul_left _ z
    rw [Nat.mul_add, Nat.mul_one] at this
    omega
theorem PrM.fr (hm : PrM V q t n R fa h x cs) (hs : PrS t n R nt) (hi : ∀ f j, ofQ q f j → f ≤ 28 → vI V' 6 f j = vI V 6 f j) : PrM V' q t n R fa h x cs := by
  have c : ∀ f w, wM f = w → 3 ≤ f → f ≤ 28 → ∀ k, k < w → vI V' 6 f (w * q + k) = vI V 6 f (w * q + k) := fun f w e h1 h2 k hk => hi f _ ⟨h1, by omega, by rw [e]; omega, by rw [e]; omega⟩ h2
  have c1 : ∀ f, wM f = 1 → 3 ≤ f → f ≤ 28 → vI V' 6 f q = vI V 6 f q := fun f e h1 h2 => by
    have := c f 1 e h1 h2 0 (by decide)
    rw [Nat.one_mul, Nat.add_zero] at this
    exact this
  obtain ⟨a1, ⟨a2, a2'⟩, a3, ⟨a4, a4', a4''⟩, a5, a6, ⟨a7, a7'⟩, a8, a9, a10, a11⟩ := hm
  have w := hs.2.2.2.1
  have n20 := hs.1
  have f16 : tcR R 0 ≤ 16 := w.1 0 (by decide)
  have v12 : tcR R 1 ≤ 12 := w.1 1 (by decide)
  have r24 : tcR R 2 ≤ 24 := w.1 2 (by decide)
  have m6 : tcR R 3 ≤ 6 := w.1 3 (by decide)
  have len := w.len
  have hL := hs.L.2
  have b3 : ∀ i, i < 20000 → bt (vI V' 6 3) (20000 * q + i) = bt (vI V 6 3) (20000 * q + i) := fun i hi' => by unfold bt; rw [c 3 20000 rfl (by decide) (by decide) i hi']
  refine ⟨a1, ⟨fun i hi' => by rw [b3 i (by omega)]; exact a2 i hi', by rw [c1 4 rfl (by decide) (by decide)]; exact a2'⟩, ⟨fun s hs' => by rw [c 14 4 rfl (by decide) (by decide) s hs']; exact a3.1 s hs', fun s hs' k hk => ?_⟩, ⟨fun j h1 h2 => ?_, by rw [c1 9 rfl (by decide) (by decide)]; exact a4', by rw [c1 11 rfl (by decide) (by decide)]; exact a4''.1, fun k hk => by rw [c 10 64 rfl (by decide) (by decide) k (by omega)]; exact a4''.2 k hk⟩, ⟨a5.1, by rw [c 14 4 rfl (by decide) (by decide) 1 (by decide)]; exact a5.2.1, a5.2.2.1, by rw [c1 22 rfl (by decide) (by decide)]; exact a5.2.2.2.1, a5.2.2.2.2.1, fun v hv => ?_⟩, by rw [c1 23 rfl (by decide) (by decide)]; exact a6, ⟨fun k hk => by rw [c 24 24 rfl (by decide) (by decide) k (by omega), c 25 24 rfl (by decide) (by decide) k (by omega), c 26 24 rfl (by decide) (by decide) k (by omega)]; exact a7 k hk, fun k hk => by rw [c 27 6 rfl (by decide) (by decide) k (by omega), c 28 6 rfl (by decide) (by decide) k (by omega)]; exact a7' k hk⟩, fun k hk => by rw [c 15 16 rfl (by decide) (by decide) k (by omega)]; exact a8 k hk, ⟨a9.1, fun v hv => by rw [c 19 12 rfl (by decide) (by decide) v (by omega)]; exact a9.2 v hv⟩, fun v hv => by rw [c 21 12 rfl (by decide) (by decide) v (by omega)]; exact a10 v hv, fun v hv => by rw [c 20 12 rfl (by decide) (by decide) v (by omega)]; exact a11 v hv⟩
  · obtain ⟨a, l, x1, x2, x3, x4, x5, x6, x7⟩ := a3.2 s hs' k hk
    have l24 := (a3.1 s hs').2
    have e12 := c 12 96 rfl (by decide) (by decide) (24 * s + k) (by omega)
    have e13 := c 13 96 rfl (by decide) (by decide) (24 * s + k) (by omega)
    rw [← Nat.add_assoc] at e12 e13
    refine ⟨a, l, e12.trans x1, e13.trans x2, x3, x4, x5, ?_, fun j hj => by rw [Nat.add_assoc, b3 _ (by omega), ← Nat.add_assoc]; exact x7 j hj⟩
    rw [x6]
    congr 1
    exact pkb_ext l (fun j hj => by show bt _ _ = bt _ _; rw [Nat.add_assoc, b3 _ (by omega)])
  · obtain ⟨y1, y2, y3, y4, y5⟩ := a4 j h1 h2
    exact ⟨by rw [c 5 20000 rfl (by decide) (by decide) j (by omega)]; exact y1, by rw [c 6 20000 rfl (by decide) (by decide) j (by omega)]; exact y2, by rw [c 7 20000 rfl (by decide) (by decide) j (by omega)]; exact y3, by rw [c 8 20000 rfl (by decide) (by decide) j (by omega)]; exact y4, y5⟩
  · obtain ⟨y1, y2, y3, y4, y5⟩ := a5.2.2.2.2.2 v hv
    refine ⟨by rw [c 16 12 rfl (by decide) (by decide) v (by omega)]; exact y1, y2, y3, by rw [c 17 12 rfl (by decide) (by decide) v (by omega)]; exact y4, fun k hk => ?_⟩
    have e18 := c 18 240 rfl (by decide) (by decide) (20 * v + k) (by omega)
    rw [show 240 * q + (20 * v + k) = 20 * (12 * q + v) + k by omega] at e18
    exact e18.trans (y5 k hk)
end
