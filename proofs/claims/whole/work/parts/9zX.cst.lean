/-! the class reads statements: what stands of a problem -/
section
variable {E : EE} {d : Nat} {V : VH} {g : Nat} {T : Nat → TK} {L : Nat} {tc : Nat → Nat} {nm : Nat → Nat → Int64} {i o nb ub : Nat} {sv : Int32}
theorem cs_stepF {K : VH → Prop} (h : CS V g T L tc nm i o nb ub sv) (h0 : (T i).1 ≠ 0) (h3 : (T i).1 ≠ 3) (hk : ∀ V', Fc V V' stS → Rdf V V' g → CS V' g T L tc nm (i + 1) o nb ub sv → Apd V V' g ub nb [] [] → K V') : vMV E d M_X10_step [sl 0 2] V K := by
  obtain ⟨g0, g6⟩ := h.g0
  have hlt := h.1.2.2.2.2.2.1.1.lt h.2.2.1 h0 h3
  obtain ⟨cap, c, c1, c2, c3, c4⟩ := h.1.2.2.2.1
  refine c_step c1 c2 c4 h.tok.1 (by omega) (fun V' f t => ?_)
  rw [show min (i + 1) c = i + 1 from by omega] at t
  have q : ∀ a f j, stS a f j → a = 0 ∧ f = 2 ∧ j ≠ 5 ∨ a = 0 ∧ f = 7 ∧ 5 ≤ j ∧ j ≤ 8 := fun a f j z => Or.inl ⟨z.1, z.2.1, by have := z.2.2; omega⟩
  refine hk V' f (h.fi f q) (h.mv f q t (by omega) hlt (by rw [f.i (fun z => by have := z.2.1; omega)]; exact h.2.2.2.1.1) h.2.2.2.2.1 (by rw [f.i (fun z => by have := z.2.1; omega)]; exact h.2.2.2.2.2.1) (fun z => by have := z.2.2; omega)) ⟨fun j _ => f.i (fun z => g0 z.1), fun j hj => absurd hj (Nat.not_lt_zero j), fun j _ => f.i (fun z => g0 z.1), fun j hj => absurd hj (Nat.not_lt_zero j)⟩
theorem cs_acceptF {c : Nat} {m : Int32} {K : Int32 → VH → Prop} (h0 : 0 < d) (h : CS V g T L tc nm i o nb ub sv) (hc : vcd c = true ∧ 4 ≤ c) (hm : m = nI (clM c)) (hn : (T i).1 ≠ c → ∀ V', Rdf V V' g → Flt V' (rfe T i) → K 0 V') (hy : (T i).1 = c → ∀ V', (∀ j, vI V' 0 7 j = vI V 0 7 j) → Rdf V V' g → CS V' g T L tc nm (i + 1) o nb ub sv → Apd V V' g ub nb [] [] → K 1 V') : vMI E d M_X10_accept [sl 0 2, wi m] V K := by
  have q := h.mark hc hm
  have no : (T i).1 ≠ c → vwp E d M_X10_accept 18 [some (sl 0 2), some (wi m)] [] V (zi K) := fun z => w_X10_accept_18 h0 (cs_refuse h (fun V' a b => ⟨Or.inl rfl, hn z V' a b⟩))
  refine w_X10_accept_0 h0 ⟨fun z => no (fun y => z (q.mpr y).1), fun z => ⟨fun z2 => ?_, fun z2 => no (fun y => z2 (q.mpr y).2)⟩⟩
  have e := q.mp ⟨z, z2⟩
  exact cs_stepF h (by omega) (by omega) (fun V' f => hy e V' (fun j => f.i (fun z => by have := z.2.1; omega)))
/-- rows that reading changes -/
def StR (g : Nat) : Nat → Nat → Prop := fun a f => a = 0 ∧ (f = 2 ∨ f = 7 ∨ f = 8) ∨ a = g ∧ 3 ≤ f ∧ (f ≤ 16 ∨ f = 23)
/-- the rows of steps and notes -/
def CpS (V : VH) (g : Nat) : Prop := 64 ≤ vN V g 15 ∧ vN V g 15 ≤ 100000 ∧ 64 ≤ vN V g 16 ∧ vN V g 16 ≤ 50000
theorem Fc.cp {V1 : VH} {S : Nat → Nat → Nat → Prop} (h : Fc V V1 S) (k : CpS V g) : CpS V1 g := by unfold CpS; rw [h.n]; exact k
def Sfr (V V' : VH) (g : Nat) : Prop := Fr V V' (StR g) ∧ vI V' 0 2 5 = vI V 0 2 5 ∧ (CpS V g → CpS V' g)
theorem Sfr.trans {V1 V2 : VH} (h : Sfr V V1 g) (k : Sfr V1 V2 g) : Sfr V V2 g := ⟨h.1.trans k.1, k.2.1.trans h.2.1, fun z => k.2.2 (h.2.2 z)⟩
theorem Fc.st {V1 : VH} {S : Nat → Nat → Nat → Prop} (h : Fc V V1 S) (g0 : g ≠ 0) (q : ∀ a f j, S a f j → a = g ∧ 3 ≤ f ∧ (f ≤ 16 ∨ f = 23)) : Sfr V V1 g := ⟨h.fr (fun a f j z => Or.inr (q a f j z)), h.i (fun z => g0 (q _ _ _ z).1.symm), h.cp⟩
/-- what is read before stays -/
def Dtf (V V' : VH) (g ub nb : Nat) : Prop := Fr V V' (fun a f => a = 0 ∧ (f = 2 ∨ f = 7 ∨ f = 8) ∨ a = g ∧ (f = 9 ∨ f = 15 ∨ f = 16)) ∧ (∀ k, k ≠ 3 → k ≠ 10 → vI V' g 9 k = vI V g 9 k) ∧ (∀ k, k < ub → vI V' g 15 k = vI V g 15 k) ∧ (∀ k, k < nb → vI V' g 16 k = vI V g 16 k) ∧ vI V' 0 2 5 = vI V 0 2 5 ∧ (CpS V g → CpS V' g)
theorem Dtf.refl : Dtf V V g ub nb := ⟨Fr.refl, fun _ _ _ => rfl, fun _ _ => rfl, fun _ _ => rfl, rfl, fun z => z⟩
theorem Dtf.trans {V1 V2 : VH} (h : Dtf V V1 g ub nb) (k : Dtf V1 V2 g ub nb) : Dtf V V2 g ub nb := ⟨h.1.trans k.1, fun j a b => (k.2.1 j a b).trans (h.2.1 j a b), fun j a => (k.2.2.1 j a).trans (h.2.2.1 j a), fun j a => (k.2.2.2.1 j a).trans (h.2.2.2.1 j a), k.2.2.2.2.1.trans h.2.2.2.2.1, fun z => k.2.2.2.2.2 (h.2.2.2.2.2 z)⟩
theorem Dtf.st {V1 : VH} (h : Dtf V V1 g ub nb) : Sfr V V1 g := ⟨h.1.mono (fun a f z => by rcases z with z | ⟨z, y⟩; exact Or.inl z; exact Or.inr ⟨z, by omega⟩), h.2.2.2.2.1, h.2.2.2.2.2⟩
theorem Rdf.st {V1 : VH} (h : Rdf V V1 g) : Sfr V V1 g := ⟨h.1.mono (fun a f z => by rcases z with ⟨z, y⟩ | ⟨z, y⟩; exact Or.inl ⟨z, by omega⟩; exact Or.inr ⟨z, by omega⟩), h.2.2.2.1, fun _ => h.2.2.2.2⟩
theorem Rdf.dd {V1 : VH} {C : CD} {N : List Int32} (h : Rdf V V1 g) (a : Apd V V1 g ub nb C N) : Dtf V V1 g ub nb := ⟨h.1.mono (fun a f z => by rcases z with ⟨z, y⟩ | z; exact Or.inl ⟨z, by omega⟩; exact Or.inr z), h.2.1, a.1, a.2.2.1, h.2.2.2.1, fun _ => h.2.2.2.2⟩
theorem Fc.dd {V1 : VH} {S : Nat → Nat → Nat → Prop} (h : Fc V V1 S) (g0 : g ≠ 0) (q : ∀ a f j, S a f j → a = 0 ∧ (f = 7 ∨ f = 8)) : Dtf V V1 g ub nb := ⟨h.fr (fun a f j z => Or.inl ⟨(q a f j z).1, Or.inr (q a f j z).2⟩), fun k _ _ => h.i (fun z => g0 (q _ _ _ z).1), fun k _ => h.i (fun z => g0 (q _ _ _ z).1), fun k _ => h.i (fun z => g0 (q _ _ _ z).1), h.i (fun z => by have := (q _ _ _ z).2; omega), h.cp⟩
/-- other cells change; names may -/
theorem CS.gen {V' : VH} {S : Nat → Nat → Nat → Prop} {tc' : Nat → Nat} {nm' : Nat → Nat → Int64} (h : CS V g T L tc nm i o nb ub sv) (k : Fc V V' S) (q : ∀ a f j, S a f j → a = 0 ∧ f = 7 ∧ j ≠ 7 ∧ j ≠ 8 ∨ a = 0 ∧ f = 8 ∨ a = g ∧ (f = 9 → j ≠ 3 ∧ j ≠ 10)) (hn : NmC V' g tc' nm') : CS V' g T L tc' nm' i o nb ub sv := by
  obtain ⟨g0, g6⟩ := h.g0
  have kr : Fr V V' (fun _ _ => True) := k.fr (fun _ _ _ _ => True.intro)
  obtain ⟨⟨h1, h2, h3, ⟨cap, c, h4, h5, h6, h7⟩, h8, h9, _⟩, t, hL, ⟨ho, hcd⟩, ho2, hs, ⟨n1, n2, n3, n4⟩, m1, m2, m3⟩ := h
  have o1 : ∀ f j, f ≠ 7 → f ≠ 8 → vI V' 0 f j = vI V 0 f j := fun f j a b => k.i (fun z => by have := q _ _ _ z; omega)
  have o2 : ∀ f j, f ≠ 7 → f ≠ 8 → vJ V' 0 f j = vJ V 0 f j := fun f j a b => k.j (fun z => by have := q _ _ _ z; omega)
  refine ⟨⟨by rw [kr.2.1]; exact h1, by rw [kr.2.2.1]; exact h2, by rw [k.l]; exact h3, ⟨cap, c, ?_, by rw [o1 2 5 (by omega) (by omega)]; exact h5, h6, h7⟩, fun j hj => ?_, h9, hn⟩, ?_, hL, ⟨by rw [k.i (fun z => by have := q _ _ _ z; omega)]; exact ho, by rw [k.i (fun z => by have := q _ _ _ z; omega)]; exact hcd⟩, ho2, by rw [k.i (fun z => by have := q _ _ _ z; omega)]; exact hs, ⟨by rw [k.i (fun z => by have := q _ _ _ z; omega)]; exact n1, by rw [k.i (fun z => by have := q _ _ _ z; omega)]; exact n2, n3, n4⟩, by rw [k.n]; exact m1, by rw [k.n]; exact m2, by rw [k.n]; exact m3⟩
  · unfold TkN; rw [k.n]; exact h4
  · have z := h8 j hj
    exact ⟨by rw [o1 3 j (by omega) (by omega)]; exact z.1, fun y => by rw [o2 4 j (by omega) (by omega)]; exact z.2.1 y, by rw [o1 5 j (by omega) (by omega)]; exact z.2.2.1, by rw [o1 6 j (by omega) (by omega)]; exact z.2.2.2⟩
  · obtain ⟨t1, t2, t3, t4, t5⟩ := t
    exact ⟨by rw [o1 2 4 (by omega) (by omega)]; exact t1, by rw [o1 2 6 (by omega) (by omega), o1 3 _ (by omega) (by omega)]; exact t2, by rw [o2 2 7 (by omega) (by omega), o2 4 _ (by omega) (by omega)]; exact t3, by rw [o1 2 8 (by omega) (by omega), o1 5 _ (by omega) (by omega)]; exact t4, by rw [o1 2 9 (by omega) (by omega), o1 6 _ (by omega) (by omega)]; exact t5⟩
theorem NmC.fc {V' : VH} {S : Nat → Nat → Nat → Prop} (h : NmC V g tc nm) (k : Fc V V' S) (q : ∀ f j, f = 3 ∨ f = 4 → ¬ S g f j) : NmC V' g tc nm := ⟨fun s hs => by rw [k.i (q 4 s (by omega))]; exact h.1 s hs, fun s hs j hj => by rw [k.j (q 3 _ (by omega))]; exact h.2 s hs j hj⟩
/-- a name is told -/
theorem c_tell {s : Nat} {key : Int64} {tc' : Nat → Nat} {nm' : Nat → Nat → Int64} {K : VH → Prop} (hg : PG (vL V) g) (h : NmC V g tc nm) (hs : s < 4) (hc : tc s < 24) (h1 : tc' s = tc s + 1) (h2 : ∀ u, u ≠ s → tc' u = tc u) (h3 : nm' s (tc s) = key) (h4 : ∀ u k, k < tc u → nm' u k = nm u k) (hk : ∀ V', Fc V V' (fun a f j => a = g ∧ (f = 3 ∨ f = 4)) → NmC V' g tc' nm' → K V') : vMV E d M_X3_tell [sl g 0, wi (nI s), wj key] V K := by
  obtain ⟨c1, c2⟩ := h.1 s hs
  have e : nI s * 24 + nI (tc s) = nI (24 * s + tc s) := by rw [show (24 : Int32) = nI 24 from rfl, nI_mul, nI_add, Nat.mul_comm]
  refine w_X3_tell_0 hg ⟨fun q => absurd q (nI_pos (by omega)), fun _ => ⟨fun q => absurd q (nI_ge (b := 4) hs (by decide)), fun _ => ?_⟩⟩
  rw [nI_clamp (show s < 2 ^ 31 by omega), c1, e, nI_clamp (show 24 * s + tc s < 2 ^ 31 by omega)]
  refine ⟨vp_in_nI hs (by decide), fun _ => ⟨vp_in_nI hs (by decide), vp_in_nI (by omega) (by decide), fun V4 e4 => ⟨vp_in_nI hs (by decide), vp_in_nI hs (by decide), fun V7 e7 => ?_⟩⟩, fun q => absurd ((nI_ltI (b := 24) (by omega) (by decide)).mpr hc) q⟩
  have c4 : vI V4 g 4 s = nI (tc s) := by rw [e4]; exact c1
  rw [c4, nI_1] at e7
  refine hk V7 ?_ ⟨fun u hu => ?_, fun u hu k hk => ?_⟩
  · rw [e7, e4]
    exact (Fc_wrJ ⟨rfl, Or.inl rfl⟩).trans (Fc_wrI ⟨rfl, Or.inr rfl⟩)
  · by_cases z : u = s
    · subst z
      rw [e7, wrI_at, h1]; exact ⟨rfl, by omega⟩
    · rw [e7, wrI_ne (fun y => z y.2.2), e4, h2 u z]; exact h.1 u hu
  · have ej : vJ V7 g 3 (24 * u + k) = vJ V4 g 3 (24 * u + k) := by rw [e7]; rfl
    rw [ej, e4]
    by_cases z : u = s ∧ k = tc s
    · obtain ⟨z1, z2⟩ := z
      subst z1; subst z2
      rw [wrJ_at, h3]
    · have lk : k < tc u := by
        by_cases y : u = s
        · subst y
          rw [h1] at hk
          have : k ≠ tc u := fun w => z ⟨rfl, w⟩
          omega
        · rw [h2 u y] at hk; exact hk
      have lu := (h.1 u hu).2
      rw [wrJ_ne (fun y => z (by have := y.2.2; omega)), h4 u k lk]
      exact h.2 u hu k lk
end
/-- the set of hard rules -/
def HsC (x : Int32) (R : List SR) : Prop := (∀ k, k < 32 → (tst x k = true ↔ k < tcR R 2 ∧ lvR R k = 0)) ∧ pop x = hdR R
/-- part j of the class's judge is what a record says -/
def PtC (V : VH) (g j : Nat) (r : SR) (ub nb : Nat) : Prop := vI V g 10 j = r.vs.getD 0 0 ∧ vI V g 13 j = nI r.ub ∧ vI V g 14 j = nI (r.ub + 2 * r.C.length) ∧ Cod V g r.ub r.C ∧ Ntd (vI V g 16) r.nb r.N ∧ r.ub + 2 * r.C.length ≤ ub ∧ r.nb + r.N.length ≤ nb
/-- what stands of a problem's statements -/
def CDb (V : VH) (g : Nat) (R : List SR) : Prop := (∀ k, k < tcR R 0 → vI V g 23 k = fcR R k) ∧ (∀ k, k < tcR R 2 → PtC V g k (gtR R 2 k) (ubR R) (nbR R) ∧ vI V g 11 k = wtR R k ∧ vI V g 12 k = (gtR R 2 k).sv) ∧ ∀ k, k < tcR R 3 → PtC V g (24 + k) (gtR R 3 k) (ubR R) (nbR R)
def CDc (V : VH) (g : Nat) (R : List SR) : Prop := HsC (vI V g 9 0) R ∧ vI V g 9 1 = nI (tcR R 2) ∧ vI V g 9 2 = nI (tcR R 3)
def CDt (V : VH) (g : Nat) (R : List SR) : Prop := CDb V g R ∧ Sp V g (tcR R 1) (szR R) (vlR R) ∧ CDc V g R
section
variable {E : EE} {d : Nat} {V V' : VH} {g : Nat} {R : List SR} {r : SR} {ub nb ub' nb' j : Nat}
theorem PtC.ex (h : PtC V g j r ub nb) (h1 : vI V' g 10 j = vI V g 10 j) (h2 : vI V' g 13 j = vI V g 13 j) (h3 : vI V' g 14 j = vI V g 14 j) (h4 : ∀ k, k < ub → vI V' g 15 k = vI V g 15 k) (h5 : ∀ k, k < nb → vI V' g 16 k = vI V g 16 k) (l1 : ub ≤ ub') (l2 : nb ≤ nb') : PtC V' g j r ub' nb' := by
  obtain ⟨a1, a2, a3, a4, a5, a6, a7⟩ := h
  refine ⟨h1.trans a1, h2.trans a2, h3.trans a3, fun k hk => ?_, fun k hk => (h5 _ (by omega)).trans (a5 k hk), by omega, by omega⟩
  obtain ⟨b1, b2⟩ := a4 k hk
  exact ⟨(h4 _ (by omega)).trans b1, (h4 _ (by omega)).trans b2⟩
theorem Sp.fro {nv : Nat} {sz : Nat → Nat} {vl : Nat → Nat → Int32} (h : Sp V g nv sz vl) (hl : vL V' g = vL V g) (k : ∀ f, f = 5 ∨ f = 6 ∨ f = 7 ∨ f = 8 → vI V' g f = vI V g f) : Sp V' g nv sz vl := by
  obtain ⟨h1, h2, h3, h4, h5, h6⟩ := h
  refine ⟨⟨by rw [hl]; exact h1.1, h1.2⟩, by rw [k 5 (by omega)]; exact h2, h3, by rw [k 5 (by omega)]; exact h4, h5, fun v hv => ?_⟩
  rw [k 6 (by omega), k 7 (by omega), k 8 (by omega)]
  exact h6 v hv
theorem Sp.ext {nv : Nat} {sz sz' : Nat → Nat} {vl vl' : Nat → Nat → Int32} (h : Sp V g nv sz vl) (k : ∀ v, v < nv → sz v = sz' v ∧ ∀ j, vl v j = vl' v j) : Sp V g nv sz' vl' := by
  obtain ⟨h1, h2, h3, h4, h5, h6⟩ := h
  have te : ∀ v, Tp sz nv v = Tp sz' nv v := fun v => Tp_ext (fun u hu => (k u hu).1) (nv - v) v (Nat.le_refl _)
  refine ⟨h1, h2, h3, by rw [← te]; exact h4, by rw [← te]; exact h5, fun v hv => ?_⟩
  obtain ⟨a1, a2, a3, a4, a5⟩ := h6 v hv
  obtain ⟨k1, k2⟩ := k v hv
  exact ⟨by rw [← k1]; exact a1, by rw [← k1]; exact a2, by rw [← k1]; exact a3, by rw [← te]; exact a4, fun j hj => by rw [← k2]; exact a5 j (by rw [k1]; exact hj)⟩
theorem Sp.ne (h : Sp V g (tcR R 1) (szR R) (vlR R)) (hr : r.kd ≠ 1) : Sp V g (tcR (R ++ [r]) 1) (szR (R ++ [r])) (vlR (R ++ [r])) := by
  rw [tcR_ne hr]
  exact h.ext (fun v hv => ⟨by unfold szR; rw [gtR_old hv], fun j => by unfold vlR; rw [gtR_old hv]⟩)
/-- other cells change -/
theorem CDb.fx {S : Nat → Nat → Nat → Prop} (h : CDb V g R) (k : Fc V V' S) (q : ∀ f j, S g f j → f < 10 ∨ f = 23 ∧ tcR R 0 ≤ j ∨ (f = 10 ∨ f = 13 ∨ f = 14) ∧ (tcR R 2 ≤ j ∧ j < 24 ∨ 24 + tcR R 3 ≤ j) ∨ (f = 11 ∨ f = 12) ∧ tcR R 2 ≤ j) (h2 : tcR R 2 ≤ 24) : CDb V' g R := by
  obtain ⟨a1, a6, a7⟩ := h
  have nq : ∀ f j, ¬ (f < 10 ∨ f = 23 ∧ tcR R 0 ≤ j ∨ (f = 10 ∨ f = 13 ∨ f = 14) ∧ (tcR R 2 ≤ j ∧ j < 24 ∨ 24 + tcR R 3 ≤ j) ∨ (f = 11 ∨ f = 12) ∧ tcR R 2 ≤ j) → vI V' g f j = vI V g f j := fun f j z => k.i (fun y => z (q f j y))
  refine ⟨fun j hj => by rw [nq 23 j (by omega)]; exact a1 j hj, fun j hj => ?_, fun j hj => ?_⟩
  · obtain ⟨b1, b2, b3⟩ := a6 j hj
    exact ⟨b1.ex (nq 10 j (by omega)) (nq 13 j (by omega)) (nq 14 j (by omega)) (fun k _ => nq 15 k (by omega)) (fun k _ => nq 16 k (by omega)) (Nat.le_refl _) (Nat.le_refl _), by rw [nq 11 j (by omega)]; exact b2, by rw [nq 12 j (by omega)]; exact b3⟩
  · exact (a7 j hj).ex (nq 10 _ (by omega)) (nq 13 _ (by omega)) (nq 14 _ (by omega)) (fun k _ => nq 15 k (by omega)) (fun k _ => nq 16 k (by omega)) (Nat.le_refl _) (Nat.le_refl _)
/-- one record more -/
theorem CDb.add (h : CDb V g R) (h0 : r.kd = 0 → vI V g 23 (tcR R 0) = r.vs.getD 0 0) (h2 : r.kd = 2 → PtC V g (tcR R 2) r (ubR R + 2 * r.C.length) (nbR R + r.N.length) ∧ vI V g 11 (tcR R 2) = r.vs.getD 1 0 ∧ vI V g 12 (tcR R 2) = r.sv) (h3 : r.kd = 3 → PtC V g (24 + tcR R 3) r (ubR R + 2 * r.C.length) (nbR R + r.N.length)) : CDb V g (R ++ [r]) := by
  obtain ⟨a1, a6, a7⟩ := h
  rw [← ubR_add, ← nbR_add] at h2 h3
  have lu : ubR R ≤ ubR (R ++ [r]) := by rw [ubR_add]; omega
  have ln : nbR R ≤ nbR (R ++ [r]) := by rw [nbR_add]; omega
  have b : ∀ s k, k < tcR (R ++ [r]) s → k < tcR R s ∨ r.kd = s ∧ k = tcR R s := fun s k hk => by
    by_cases c : r.kd = s
    · rw [tcR_same c] at hk
      by_cases z : k < tcR R s
      · exact Or.inl z
      · exact Or.inr ⟨c, by omega⟩
    · rw [tcR_ne c] at hk; exact Or.inl hk
  refine ⟨fun j hj => ?_, fun j hj => ?_, fun j hj => ?_⟩
  · rcases b 0 j hj with z | ⟨z1, z2⟩
    · unfold fcR; rw [gtR_old z]; exact a1 j z
    · subst z2; unfold fcR; rw [gtR_new z1]; exact h0 z1
  · rcases b 2 j hj with z | ⟨z1, z2⟩
    · unfold wtR; rw [gtR_old z]
      obtain ⟨b1, b2, b3⟩ := a6 j z
      exact ⟨b1.ex rfl rfl rfl (fun _ _ => rfl) (fun _ _ => rfl) lu ln, b2, b3⟩
    · subst z2; unfold wtR; rw [gtR_new z1]; exact h2 z1
  · rcases b 3 j hj with z | ⟨z1, z2⟩
    · rw [gtR_old z]
      exact (a7 j z).ex rfl rfl rfl (fun _ _ => rfl) (fun _ _ => rfl) lu ln
    · subst z2; rw [gtR_new z1]; exact h3 z1
theorem CDt.dd (h : CDt V g R) (k : Dtf V V' g (ubR R) (nbR R)) : CDt V' g R := by
  obtain ⟨⟨a1, a6, a7⟩, a2, a3, a4, a5⟩ := h
  have g0 : g ≠ 0 := a2.1.2.1
  have ro : ∀ f, f ≠ 9 → f ≠ 15 → f ≠ 16 → vI V' g f = vI V g f := fun f h1 h2 h3 => k.1.i (fun z => by rcases z with ⟨z, _⟩ | ⟨_, z⟩; exact g0 z; omega)
  refine ⟨⟨fun j hj => by rw [ro 23 (by omega) (by omega) (by omega)]; exact a1 j hj, fun j hj => ?_, fun j hj => ?_⟩, a2.fro (by rw [k.1.1]) (fun f hf => ro f (by omega) (by omega) (by omega)), ⟨by rw [k.2.1 0 (by omega) (by omega)]; exact a3, by rw [k.2.1 1 (by omega) (by omega)]; exact a4, by rw [k.2.1 2 (by omega) (by omega)]; exact a5⟩⟩
  · obtain ⟨b1, b2, b3⟩ := a6 j hj
    exact ⟨b1.ex (by rw [ro 10 (by omega) (by omega) (by omega)]) (by rw [ro 13 (by omega) (by omega) (by omega)]) (by rw [ro 14 (by omega) (by omega) (by omega)]) k.2.2.1 k.2.2.2.1 (Nat.le_refl _) (Nat.le_refl _), by rw [ro 11 (by omega) (by omega) (by omega)]; exact b2, by rw [ro 12 (by omega) (by omega) (by omega)]; exact b3⟩
  · exact (a7 j hj).ex (by rw [ro 10 (by omega) (by omega) (by omega)]) (by rw [ro 13 (by omega) (by omega) (by omega)]) (by rw [ro 14 (by omega) (by omega) (by omega)]) k.2.2.1 k.2.2.2.1 (Nat.le_refl _) (Nat.le_refl _)
theorem HsC.ne {x : Int32} (h : HsC x R) (hr : r.kd ≠ 2) : HsC x (R ++ [r]) := by
  refine ⟨fun k hk => ?_, ?_⟩
  · rw [tcR_ne hr]
    refine (h.1 k hk).trans ⟨fun z => ⟨z.1, ?_⟩, fun z => ⟨z.1, ?_⟩⟩
    · unfold lvR; rw [gtR_old z.1]; exact z.2
    · have := z.2; unfold lvR at this; rw [gtR_old z.1] at this; exact this
  · rw [hdR_add, if_neg (fun z => hr (of_decide_eq_true z).1)]; exact h.2
theorem CDc.ne (h : CDc V g R) (h2 : r.kd ≠ 2) (h3 : r.kd ≠ 3) (k : ∀ j, j < 3 → vI V' g 9 j = vI V g 9 j) : CDc V' g (R ++ [r]) := ⟨by rw [k 0 (by omega)]; exact h.1.ne h2, by rw [k 1 (by omega), tcR_ne h2]; exact h.2.1, by rw [k 2 (by omega), tcR_ne h3]; exact h.2.2⟩
end
