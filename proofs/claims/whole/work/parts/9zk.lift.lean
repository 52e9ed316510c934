/-! problems that change; calls lifted to the invariant -/
section
variable {E : EE} {d : Nat} {V V' : VH} {g q : Nat} {t : Nat → Int32} {n : Nat} {R : List SR} {nt fa : Nat → Int32} {h : Nat} {x : Int32} {cs : Nat → Int32}
def kpD (f j : Nat) : Prop := f = 9 ∧ j ≠ 13 ∨ 1 ≤ f ∧ f ≤ 8 ∨ 10 ≤ f ∧ f ≤ 16
theorem PrC.up {fa' cs' : Nat → Int32} {h' : Nat} {x' : Int32} (hc : PrC V g t n R nt fa h x cs) (hl : vL V' g = vL V g) (hn : ∀ f, f = 2 ∨ f = 15 ∨ f = 16 → vN V' g f = vN V g f) (hi : ∀ f j, kpD f j → vI V' g f j = vI V g f j) (hj : ∀ j, vJ V' g 3 j = vJ V g 3 j) (d1 : (∀ k, k < tcR R 0 → vI V' g 23 k = fa' k) ∧ Bds (tcR R 0) fa') (d2 : vI V' g 0 8 = nI h' ∧ h' < plR R) (d3 : vI V' g 0 9 = x') (d4 : ∀ v, v < 12 → vI V' g 24 v = cs' v ∧ ∃ c, cs' v = nI c ∧ c ≤ 1000) : PrC V' g t n R nt fa' h' x' cs' := by
  have ri : ∀ f, 1 ≤ f ∧ f ≤ 8 ∨ 10 ≤ f ∧ f ≤ 16 → vI V' g f = vI V g f := fun f hf => funext fun j => hi f j (by unfold kpD; omega)
  have r9 : ∀ j, j ≠ 13 → vI V' g 9 j = vI V g 9 j := fun j z => hi 9 j (by unfold kpD; omega)
  obtain ⟨a1, ⟨⟨b1, b2, b3, b4, b5⟩, a2'⟩, a3, a4, ⟨a5, a5', a5''⟩, ⟨a6, a6'⟩, ⟨⟨e1, e2, e3, e4, e5⟩, a7, a7'⟩, ⟨a8, a8'⟩, ⟨a9, a9'⟩, a10, a11⟩ := hc
  have pt : ∀ {j : Nat} {r : SR} {u w : Nat}, PtC V g j r u w → PtC V' g j r u w := fun p => p.ex (by rw [ri 10 (by omega)]) (by rw [ri 13 (by omega)]) (by rw [ri 14 (by omega)]) (fun k _ => by rw [ri 15 (by omega)]) (fun k _ => by rw [ri 16 (by omega)]) (Nat.le_refl _) (Nat.le_refl _)
  refine ⟨⟨by rw [hl]; exact a1.1, a1.2⟩, ⟨⟨?_, by rw [ri 1 (by omega)]; exact b2, by rw [hn 2 (by omega)]; exact b3, by rw [hn 2 (by omega)]; exact b4, by rw [hn 2 (by omega)]; exact b5⟩, fun i => by rw [ri 2 (by omega)]; exact a2' i⟩, ⟨fun s hs => by rw [ri 4 (by omega)]; exact a3.1 s hs, fun s hs k hk => by rw [hj]; exact a3.2 s hs k hk⟩, a4.fro hl (fun f hf => ri f (by omega)), ⟨by rw [r9 0 (by omega)]; exact a5, by rw [r9 1 (by omega)]; exact a5', by rw [r9 2 (by omega)]; exact a5''⟩, ⟨fun k hk => ?_, fun k hk => pt (a6' k hk)⟩, ⟨⟨⟨by rw [hl]; exact e1.1, e1.2⟩, by rw [r9 3 (by omega)]; exact e2, by rw [hn 16 (by omega)]; exact e3, by rw [hn 16 (by omega)]; exact e4, fun k hk => by rw [ri 16 (by omega)]; exact e5 k hk⟩, ?_, by rw [hn 15 (by omega)]; exact a7'⟩, d1, d2, d3, d4⟩
  · obtain ⟨z1, z2⟩ := b1
    exact ⟨by rw [hl]; exact z1, z2⟩
  · obtain ⟨p1, p2, p3⟩ := a6 k hk
    exact ⟨pt p1, by rw [ri 11 (by omega)]; exact p2, by rw [ri 12 (by omega)]; exact p3⟩
  · unfold CpS; rw [hn 15 (by omega), hn 16 (by omega)]; exact a7
theorem PrM.up {fa' cs' : Nat → Int32} {h' : Nat} {x' : Int32} (hm : PrM V q t n R fa h x cs) (hs : PrS t n R nt) (hi : ∀ f j, ofQ q f j → f ≤ 28 → f ≠ 15 → f ≠ 19 → f ≠ 20 → f ≠ 21 → vI V' 6 f j = vI V 6 f j) (d1 : ∀ k, k < tcR R 0 → vI V' 6 15 (16 * q + k) = fa' k) (d2 : Hq V' q (tcR R 1) (szR R) h') (d3 : Pq V' q (tcR R 1) (tst x')) (d4 : ∀ v, v < tcR R 1 → vI V' 6 20 (12 * q + v) = cs' v) : PrM V' q t n R fa' h' x' cs' := by
  have c : ∀ f w, wM f = w → 3 ≤ f → f ≤ 28 → f ≠ 15 ∧ f ≠ 19 ∧ f ≠ 20 ∧ f ≠ 21 → ∀ k, k < w → vI V' 6 f (w * q + k) = vI V 6 f (w * q + k) := fun f w e h1 h2 h3 k hk => hi f _ ⟨h1, by omega, by rw [e]; omega, by rw [e]; omega⟩ h2 h3.1 h3.2.1 h3.2.2.1 h3.2.2.2
  have c1 : ∀ f, wM f = 1 → 3 ≤ f → f ≤ 28 → f ≠ 15 ∧ f ≠ 19 ∧ f ≠ 20 ∧ f ≠ 21 → vI V' 6 f q = vI V 6 f q := fun f e h1 h2 h3 => by
    have := c f 1 e h1 h2 h3 0 (by decide)
    rw [Nat.one_mul, Nat.add_zero] at this
    exact this
  obtain ⟨a1, ⟨a2, a2'⟩, a3, ⟨a4, a4', a4''⟩, a5, a6, ⟨a7, a7'⟩, a8, a9, a10, a11⟩ := hm
  have w := hs.2.2.2.1
  have n20 := hs.1
  have f16 : tcR R 0 ≤ 16 := w.1 0 (by decide)
  have v12 : tcR R 1 ≤ 12 := w.1 1 (by decide)
  have r24 : tcR R 2 ≤ 24 := w.1 2 (by decide)
  have m6 : tcR R 3 ≤ 6 := w.1 3 (by decide)
  have len := w.len
  have hL := hs.L.2
  have b3 : ∀ i, i < 20000 → bt (vI V' 6 3) (20000 * q + i) = bt (vI V 6 3) (20000 * q + i) := fun i hi' => by unfold bt; rw [c 3 20000 rfl (by decide) (by decide) (by decide) i hi']
  refine ⟨a1, ⟨fun i hi' => by rw [b3 i (by omega)]; exact a2 i hi', by rw [c1 4 rfl (by decide) (by decide) (by decide)]; exact a2'⟩, ⟨fun s hs' => by rw [c 14 4 rfl (by decide) (by decide) (by decide) s hs']; exact a3.1 s hs', fun s hs' k hk => ?_⟩, ⟨fun j h1 h2 => ?_, by rw [c1 9 rfl (by decide) (by decide) (by decide)]; exact a4', by rw [c1 11 rfl (by decide) (by decide) (by decide)]; exact a4''.1, fun k hk => by rw [c 10 64 rfl (by decide) (by decide) (by decide) k (by omega)]; exact a4''.2 k hk⟩, ⟨a5.1, by rw [c 14 4 rfl (by decide) (by decide) (by decide) 1 (by decide)]; exact a5.2.1, a5.2.2.1, by rw [c1 22 rfl (by decide) (by decide) (by decide)]; exact a5.2.2.2.1, a5.2.2.2.2.1, fun v hv => ?_⟩, by rw [c1 23 rfl (by decide) (by decide) (by decide)]; exact a6, ⟨fun k hk => by rw [c 24 24 rfl (by decide) (by decide) (by decide) k (by omega), c 25 24 rfl (by decide) (by decide) (by decide) k (by omega), c 26 24 rfl (by decide) (by decide) (by decide) k (by omega)]; exact a7 k hk, fun k hk => by rw [c 27 6 rfl (by decide) (by decide) (by decide) k (by omega), c 28 6 rfl (by decide) (by decide) (by decide) k (by omega)]; exact a7' k hk⟩, d1, d2, d3, d4⟩
  · obtain ⟨a, l, x1, x2, x3, x4, x5, x6, x7⟩ := a3.2 s hs' k hk
    have l24 := (a3.1 s hs').2
    have e12 := c 12 96 rfl (by decide) (by decide) (by decide) (24 * s + k) (by omega)
    have e13 := c 13 96 rfl (by decide) (by decide) (by decide) (24 * s + k) (by omega)
    rw [← Nat.add_assoc] at e12 e13
    refine ⟨a, l, e12.trans x1, e13.trans x2, x3, x4, x5, ?_, fun j hj => by rw [Nat.add_assoc, b3 _ (by omega), ← Nat.add_assoc]; exact x7 j hj⟩
    rw [x6]
    congr 1
    exact pkb_ext l (fun j hj => by show bt _ _ = bt _ _; rw [Nat.add_assoc, b3 _ (by omega)])
  · obtain ⟨y1, y2, y3, y4, y5⟩ := a4 j h1 h2
    exact ⟨by rw [c 5 20000 rfl (by decide) (by decide) (by decide) j (by omega)]; exact y1, by rw [c 6 20000 rfl (by decide) (by decide) (by decide) j (by omega)]; exact y2, by rw [c 7 20000 rfl (by decide) (by decide) (by decide) j (by omega)]; exact y3, by rw [c 8 20000 rfl (by decide) (by decide) (by decide) j (by omega)]; exact y4, y5⟩
  · obtain ⟨y1, y2, y3, y4, y5⟩ := a5.2.2.2.2.2 v hv
    refine ⟨by rw [c 16 12 rfl (by decide) (by decide) (by decide) v (by omega)]; exact y1, y2, y3, by rw [c 17 12 rfl (by decide) (by decide) (by decide) v (by omega)]; exact y4, fun k hk => ?_⟩
    have e18 := c 18 240 rfl (by decide) (by decide) (by decide) (20 * v + k) (by omega)
    rw [show 240 * q + (20 * v + k) = 20 * (12 * q + v) + k by omega] at e18
    exact e18.trans (y5 k hk)
end
theorem vMJ.up {E : EE} {d : Nat} {N : MD} {as : List WV} {V : VH} {K : Int64 → VH → Prop} (h : vMJ E d N as V K) : vMJ E d N as V (fun x V' => K x V' ∧ WF V' ∧ Xl V V') := vM.mono (vM.up h) (fun _ V' ⟨⟨x, e, q⟩, u⟩ => ⟨x, e, q, u⟩)
/-- the invariant, with what every call keeps -/
def JA (x B : Nat) (V : VH) : Prop := WF V ∧ Room x V ∧ JS B V
theorem StpJ.mono {V : VH} {B B' : Nat} (h : StpJ B V) (k : B ≤ B') : StpJ B' V := by
  obtain ⟨s, c, a1, a2, a3, a4⟩ := h
  exact ⟨s, c, fun q hq => ⟨(a1 q hq).1, by have := (a1 q hq).2; omega⟩, a2, by omega, a4⟩
theorem JS.mono {V : VH} {B B' : Nat} (h : JS B V) (k : B ≤ B') : JS B' V := ⟨h.1, h.2.1, h.2.2.1, h.2.2.2.1, h.2.2.2.2.1, h.2.2.2.2.2.1, h.2.2.2.2.2.2.1.mono k, h.2.2.2.2.2.2.2⟩
section
variable {E : EE} {d : Nat} {N N2 : MD} {as as2 : List WV} {V : VH} {x B B' : Nat}
theorem liftI (hJ : JA x B V) (h : WF V → JS B V → vMI E d N as V (fun r V1 => vMI E d N2 as2 V1 (fun r' V2 => r = r' ∧ (WF V2 → JS B' V2)))) : vMI E d N as V (fun r V1 => vMI E d N2 as2 V1 (fun r' V2 => r = r' ∧ JA x B' V2)) :=
  vMI.mono (vMI.up (h hJ.1 hJ.2.2)) (fun r V1 ⟨q, w, l⟩ => vMI.mono (vMI.up q) (fun r' V2 ⟨⟨e, j⟩, w2, l2⟩ => ⟨e, w2, (hJ.2.1.up l).up l2, j w2⟩))
theorem liftJ (hJ : JA x B V) (h : WF V → JS B V → vMJ E d N as V (fun r V1 => vMJ E d N2 as2 V1 (fun r' V2 => r = r' ∧ (WF V2 → JS B' V2)))) : vMJ E d N as V (fun r V1 => vMJ E d N2 as2 V1 (fun r' V2 => r = r' ∧ JA x B' V2)) :=
  vMJ.mono (vMJ.up (h hJ.1 hJ.2.2)) (fun r V1 ⟨q, w, l⟩ => vMJ.mono (vMJ.up q) (fun r' V2 ⟨⟨e, j⟩, w2, l2⟩ => ⟨e, w2, (hJ.2.1.up l).up l2, j w2⟩))
end
section
variable {E : EE} {d : Nat} {V : VH} {q B : Nat} {t : Nat → Int32} {n : Nat} {R : List SR} {nt fa : Nat → Int32} {h : Nat} {x : Int32} {cs : Nat → Int32}
/-- there is no problem, or both have it -/
theorem JS.inQ (hJ : JS B V) (a : Int32) : (¬ isP V a ∧ ¬ isM V a) ∨ ∃ q t n R nt fa h x cs, q < 4 ∧ a = nI q ∧ PbI V q t n R nt fa h x cs := by
  have pb := hJ.2.2.2.2.2.2.2.2
  by_cases c : isM V a
  · obtain ⟨q, hq, e, u⟩ := c
    rcases pb q hq with ⟨z, _⟩ | ⟨t, n, R, nt, fa, h, x, cs, z⟩
    · exact absurd z u
    · exact Or.inr ⟨q, t, n, R, nt, fa, h, x, cs, hq, e, z⟩
  · refine Or.inl ⟨fun ⟨q, hq, e, l, u⟩ => ?_, c⟩
    rcases pb q hq with ⟨_, z⟩ | ⟨t, n, R, nt, fa, h, x, cs, z⟩
    · exact u (z l)
    · exact c ⟨q, hq, e, z.2.2.2.1.2⟩
theorem c_known_y {K : Nat → VH → Prop} (hI : PbI V q t n R nt fa h x cs) (hq : q < 4) (hk : K (q + 1) V) : vMP E d M_X11_known [sl 0 28, wi (nI q)] V K := c_known (fun z => absurd ⟨q, hq, rfl, hI.2.1.1.1, hI.2.2.2.1.1⟩ z) (fun q' h1 h2 _ _ => by
  have : q = q' := (nI_eq (by omega) (by omega)).mp h2
  subst this; exact hk)
/-- the reference has problem q -/
def MiQ (V : VH) (q : Nat) (t : Nat → Int32) (n : Nat) (R : List SR) (fa : Nat → Int32) (h : Nat) (x : Int32) (cs : Nat → Int32) : Prop := PrM V q t n R fa h x cs ∧ ¬ vI V 6 2 q = 0
theorem PbI.mi (hI : PbI V q t n R nt fa h x cs) : MiQ V q t n R fa h x cs := ⟨hI.2.2.1, hI.2.2.2.1.2⟩
theorem MiQ.fc {V' : VH} {S : Nat → Nat → Nat → Prop} (hm : MiQ V q t n R fa h x cs) (hs : PrS t n R nt) (k : Fc V V' S) (c : ∀ f j, S 6 f j → f = 0 ∨ f = 1 ∨ 28 < f) : MiQ V' q t n R fa h x cs := ⟨hm.1.fr hs (fun f j z l => k.i (fun y => by have := c f j y; have := z.1; omega)), by rw [k.i (fun y => by have := c _ _ y; omega)]; exact hm.2⟩
theorem c_isProblem_y {K : Int32 → VH → Prop} (hI : MiQ V q t n R fa h x cs) (hq : q < 4) (hk : K 1 V) : vMI E d M_X12_isProblem [sl 6 0, wi (nI q)] V K := c_isProblem (fun z => absurd ⟨q, hq, rfl, hI.2⟩ z) (fun _ _ _ _ => hk)
theorem i_ex {v : Int32} {n : Nat} (h0 : ¬ v < 0) (h1 : ¬ nI n ≤ v) (hn : n < 2 ^ 31) : ∃ u, u < n ∧ v = nI u := by
  have a : 0 ≤ v.toInt := by have := mt Int32.lt_iff_toInt_lt.mpr h0; rw [show (0 : Int32).toInt = 0 from by decide] at this; omega
  have en : (nI n).toInt = (n : Int) := Int32.toInt_ofNat_of_lt hn
  have b : v.toInt < n := by have := mt Int32.le_iff_toInt_le.mpr h1; rw [en] at this; omega
  refine ⟨v.toInt.toNat, by omega, Int32.toInt_inj.mp ?_⟩
  rw [show (nI v.toInt.toNat).toInt = (v.toInt.toNat : Int) from Int32.toInt_ofNat_of_lt (by omega)]
  omega
theorem c_isVarM {v : Int32} {K : Int32 → VH → Prop} (h0 : 0 < d) (hs : PrS t n R nt) (hI : MiQ V q t n R fa h x cs) (hq : q < 4) (hn : (∀ u, u < tcR R 1 → v ≠ nI u) → K 0 V) (hy : ∀ u, u < tcR R 1 → v = nI u → K 1 V) : vMI E d M_X12_isVar [sl 6 0, wi (nI q), wi v] V K := by
  have v12 : tcR R 1 ≤ 12 := hs.2.2.2.1.1 1 (by decide)
  refine w_X12_isVar_0 h0 (c_isProblem_y hI hq ⟨fun z => absurd z (by decide), fun _ => ⟨fun z => hn (fun u hu e => by rw [e] at z; exact absurd z (nI_pos (by omega))), fun z => c_vars hI.1.2.2.2.2.1 ⟨fun y => hn (fun u hu e => by rw [e] at y; exact absurd y (nI_ge hu (by omega))), fun y => ?_⟩⟩⟩)
  obtain ⟨u, hu, e⟩ := i_ex z y (by omega)
  exact hy u hu e
theorem c_isFactM {v : Int32} {K : Int32 → VH → Prop} (h0 : 0 < d) (hs : PrS t n R nt) (hI : MiQ V q t n R fa h x cs) (hq : q < 4) (hn : (∀ u, u < tcR R 0 → v ≠ nI u) → K 0 V) (hy : ∀ u, u < tcR R 0 → v = nI u → K 1 V) : vMI E d M_X12_isFact [sl 6 0, wi (nI q), wi v] V K := by
  have f16 : tcR R 0 ≤ 16 := hs.2.2.2.1.1 0 (by decide)
  have e4 : (4 : Int32) * nI q = nI (4 * q) := nI_mul 4 q
  have n14 : vI V 6 14 (4 * q) = nI (tcR R 0) := (hI.1.2.2.1.1 0 (by decide)).1
  refine w_X12_isFact_0 h0 (c_isProblem_y hI hq ⟨fun z => absurd z (by decide), fun _ => ⟨fun z => hn (fun u hu e => by rw [e] at z; exact absurd z (nI_pos (by omega))), fun z => ?_⟩⟩)
  rw [e4, nI_clamp (show 4 * q < 2 ^ 31 by omega), n14]
  refine ⟨vp_in_nI (by omega) (by decide), fun y => hn (fun u hu e => by rw [e] at y; exact absurd y (nI_ge hu (by omega))), fun y => ?_⟩
  obtain ⟨u, hu, e⟩ := i_ex z y (by omega)
  exact hy u hu e
theorem c_isFactC {v : Int32} {K : Int32 → VH → Prop} (hI : PbI V q t n R nt fa h x cs) (hn : (∀ u, u < tcR R 0 → v ≠ nI u) → K 0 V) (hy : ∀ u, u < tcR R 0 → v = nI u → K 1 V) : vMI E d M_X3_isFact [sl (q + 1) 0, wi v] V K := by
  have f16 : tcR R 0 ≤ 16 := hI.1.2.2.2.1.1 0 (by decide)
  have n4 : vI V (q + 1) 4 0 = nI (tcR R 0) := (hI.2.1.2.2.1.1 0 (by decide)).1
  refine w_X3_isFact_0 hI.2.1.1 ?_
  rw [show Int32.toNatClampNeg 0 = 0 from rfl, n4]
  refine ⟨fun z => hn (fun u hu e => by rw [e] at z; exact absurd z (nI_pos (by omega))), fun z => ⟨fun y => hn (fun u hu e => by rw [e] at y; exact absurd y (nI_ge hu (by omega))), fun y => ?_⟩⟩
  obtain ⟨u, hu, e⟩ := i_ex z y (by omega)
  exact hy u hu e
theorem c_isRuleC {v : Int32} {K : Int32 → VH → Prop} (hI : PbI V q t n R nt fa h x cs) (hn : (∀ u, u < tcR R 2 → v ≠ nI u) → K 0 V) (hy : ∀ u, u < tcR R 2 → v = nI u → K 1 V) : vMI E d M_X3_isRule [sl (q + 1) 0, wi v] V K := by
  have f24 : tcR R 2 ≤ 24 := hI.1.2.2.2.1.1 2 (by decide)
  have n4 : vI V (q + 1) 4 2 = nI (tcR R 2) := (hI.2.1.2.2.1.1 2 (by decide)).1
  refine w_X3_isRule_0 hI.2.1.1 ?_
  rw [show Int32.toNatClampNeg 2 = 2 from rfl, n4]
  refine ⟨fun z => hn (fun u hu e => by rw [e] at z; exact absurd z (nI_pos (by omega))), fun z => ⟨fun y => hn (fun u hu e => by rw [e] at y; exact absurd y (nI_ge hu (by omega))), fun y => ?_⟩⟩
  obtain ⟨u, hu, e⟩ := i_ex z y (by omega)
  exact hy u hu e
theorem c_isRuleM {v : Int32} {K : Int32 → VH → Prop} (h0 : 0 < d) (hs : PrS t n R nt) (hI : MiQ V q t n R fa h x cs) (hq : q < 4) (hn : (∀ u, u < tcR R 2 → v ≠ nI u) → K 0 V) (hy : ∀ u, u < tcR R 2 → v = nI u → K 1 V) : vMI E d M_X12_isRule [sl 6 0, wi (nI q), wi v] V K := by
  have f24 : tcR R 2 ≤ 24 := hs.2.2.2.1.1 2 (by decide)
  refine w_X12_isRule_0 h0 (c_isProblem_y hI hq ⟨fun z => absurd z (by decide), fun _ => ⟨fun z => hn (fun u hu e => by rw [e] at z; exact absurd z (nI_pos (by omega))), fun z => c_rulesOf (by omega) (hI.1.2.2.1.1 2 (by decide)).1 ⟨fun y => hn (fun u hu e => by rw [e] at y; exact absurd y (nI_ge hu (by omega))), fun y => ?_⟩⟩⟩)
  obtain ⟨u, hu, e⟩ := i_ex z y (by omega)
  exact hy u hu e
theorem PbI.sp (hI : PbI V q t n R nt fa h x cs) : Sp V (q + 1) (tcR R 1) (szR R) (vlR R) := hI.2.1.2.2.2.1
theorem PbI.sq (hI : PbI V q t n R nt fa h x cs) : Sq V q (tcR R 1) (szR R) (vlR R) := hI.2.2.1.2.2.2.2.1
theorem PbI.hq (hI : PbI V q t n R nt fa h x cs) : Hq V q (tcR R 1) (szR R) h := hI.2.2.1.2.2.2.2.2.2.2.2.1
theorem PbI.pq (hI : PbI V q t n R nt fa h x cs) : Pq V q (tcR R 1) (tst x) := hI.2.2.1.2.2.2.2.2.2.2.2.2.1
theorem PbI.hnd (hI : PbI V q t n R nt fa h x cs) : vI V (q + 1) 0 8 = nI h ∧ h < plR R := hI.2.1.2.2.2.2.2.2.2.2.1
theorem PbI.v12 (hI : PbI V q t n R nt fa h x cs) : tcR R 1 ≤ 12 := hI.1.2.2.2.1.1 1 (by decide)
theorem PbI.f16 (hI : PbI V q t n R nt fa h x cs) : tcR R 0 ≤ 16 := hI.1.2.2.2.1.1 0 (by decide)
theorem PbI.p20 (hI : PbI V q t n R nt fa h x cs) : plR R ≤ 20000 := hI.1.2.2.2.1.2.2.2.1
/-- cells of problem q change, but its text and stamp -/
def Sc1 (q a f j : Nat) : Prop := a = q + 1 ∧ f ≠ 1 ∨ a = 6 ∧ (ofQ q f j ∧ f ≠ 33 ∨ f = 2 ∧ j = q)
theorem JS.sc {V' : VH} (hJ : JS B V) (hq : q < 4) (k : Fc V V' (Sc1 q)) (hp : PbJ V' q) : JS B V' := by
  refine hJ.fc q k (fun a f j y z => ?_) (fun q' a f j h1 h2 y z => ?_) (fun g j h1 h2 y => ?_) (Or.inl (fun a f j y z => ?_)) (hJ.2.2.2.2.2.2.1.fc k (fun f j y z => ?_)) (fun _ => hp)
  · unfold Glo at z
    rcases y with ⟨y1, y2⟩ | ⟨y1, ⟨⟨y2, y3, _⟩, y4⟩ | y2⟩ <;> omega
  · rcases y with ⟨y1, y2⟩ | ⟨y1, ⟨y2, y4⟩ | ⟨y2, y3⟩⟩
    · rcases z with z | ⟨z, _⟩ <;> omega
    · rcases z with z | ⟨z, ⟨w1, w2⟩ | w⟩
      · omega
      · have := y2.1; omega
      · exact ofQ_ne (Ne.symm h2) y2 w
    · rcases z with z | ⟨z, ⟨w1, w2⟩ | w⟩
      · omega
      · omega
      · have := w.1; omega
  · rcases y with ⟨y1, y2⟩ | ⟨y1, _⟩
    · exact y2 rfl
    · omega
  · unfold Cch at z
    rcases y with ⟨y1, y2⟩ | ⟨y1, ⟨⟨y2, y3, _⟩, y4⟩ | y2⟩ <;> omega
  · rcases y with ⟨y1, y2⟩ | ⟨y1, ⟨⟨y2, y3, _⟩, y4⟩ | y2⟩
    · omega
    · omega
    · omega
end
