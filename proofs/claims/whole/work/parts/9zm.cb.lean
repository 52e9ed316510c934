/-! calls: pins, facts that change, futures -/
section
variable {V V' : VH} {q B B' : Nat} {t : Nat → Int32} {n : Nat} {R : List SR} {nt fa : Nat → Int32} {h : Nat} {x : Int32} {cs : Nat → Int32}
/-- cells of problem q that calls change -/
def dyS (q a f j : Nat) : Prop := a = q + 1 ∧ (f = 0 ∧ (j = 8 ∨ j = 9 ∨ j = 11) ∨ f = 19 ∨ f = 23 ∨ f = 24 ∨ f = 25 ∨ f = 26 ∨ f = 29) ∨ a = 6 ∧ ofQ q f j ∧ (f = 15 ∨ f = 19 ∨ f = 20 ∨ f = 21 ∨ 29 ≤ f)
theorem PbI.gen {fa' cs' : Nat → Int32} {h' : Nat} {x' : Int32} (hI : PbI V q t n R nt fa h x cs) (k : Fc V V' (dyS q)) (d1 : (∀ k, k < tcR R 0 → vI V' (q + 1) 23 k = fa' k) ∧ Bds (tcR R 0) fa') (d2 : vI V' (q + 1) 0 8 = nI h' ∧ h' < plR R) (d3 : vI V' (q + 1) 0 9 = x') (d4 : ∀ v, v < 12 → vI V' (q + 1) 24 v = cs' v ∧ ∃ c, cs' v = nI c ∧ c ≤ 1000) (m1 : ∀ k, k < tcR R 0 → vI V' 6 15 (16 * q + k) = fa' k) (m2 : Hq V' q (tcR R 1) (szR R) h') (m3 : Pq V' q (tcR R 1) (tst x')) (m4 : ∀ v, v < tcR R 1 → vI V' 6 20 (12 * q + v) = cs' v) (fu : FuJ V' q (tcR R 0)) (tb : TabC V' (q + 1) R nt fa') (ch : CchM V' q R nt fa') (px : ∀ v, tcR R 1 ≤ v → tst x' v = false) : PbI V' q t n R nt fa' h' x' cs' := by
  have hq6 : q + 1 ≠ 6 := hI.2.1.1.2.2
  have c : ∀ f j, ¬ (f = 0 ∧ (j = 8 ∨ j = 9 ∨ j = 11) ∨ f = 19 ∨ f = 23 ∨ f = 24 ∨ f = 25 ∨ f = 26 ∨ f = 29) → vI V' (q + 1) f j = vI V (q + 1) f j := fun f j z => k.i (fun y => by rcases y with y | y; exact z y.2; exact hq6 y.1)
  have cj : ∀ j, vJ V' (q + 1) 3 j = vJ V (q + 1) 3 j := fun j => k.j (fun y => by rcases y with y | y; have := y.2; omega; exact hq6 y.1)
  have m : ∀ f j, f ≠ 15 → f ≠ 19 → f ≠ 20 → f ≠ 21 → f < 29 → vI V' 6 f j = vI V 6 f j := fun f j z1 z2 z3 z4 z5 => k.i (fun y => by rcases y with y | y; exact hq6 y.1.symm; have := y.2.2; omega)
  exact ⟨hI.1, hI.2.1.up (by rw [k.l]) (fun f _ => by rw [k.n]) (fun f j z => c f j (by unfold kpD at z; omega)) cj d1 d2 d3 d4, hI.2.2.1.up hI.1 (fun f j _ l z0 z1 z2 z3 => m f j z0 z1 z2 z3 (by omega)) m1 m2 m3 m4, ⟨by rw [c 0 0 (by omega)]; exact hI.2.2.2.1.1, by rw [m 2 q (by omega) (by omega) (by omega) (by omega) (by omega)]; exact hI.2.2.2.1.2⟩, fu, tb, ch, px⟩
theorem JS.dy (hJ : JS B V) (hB : B ≤ B') (hq : q < 4) (k : Fc V V' (dyS q)) (hs : StpJ B' V') (hp : PbJ V' q) : JS B' V' := by
  refine (hJ.mono hB).fc q k (fun a f j y z => ?_) (fun q' a f j h1 h2 y z => ?_) (fun g j h1 h2 y => ?_) (Or.inl (fun a f j y z => ?_)) hs (fun _ => hp)
  · unfold Glo at z
    rcases y with ⟨y1, y2⟩ | ⟨y1, ⟨y2, y3, _⟩, y4⟩ <;> omega
  · rcases y with ⟨y1, y2⟩ | ⟨y1, y2, y4⟩
    · rcases z with z | ⟨z, _⟩ <;> omega
    · rcases z with z | ⟨z, ⟨w1, w2⟩ | w⟩
      · omega
      · omega
      · exact ofQ_ne (Ne.symm h2) y2 w
  · rcases y with ⟨y1, y2⟩ | ⟨y1, _⟩ <;> omega
  · unfold Cch at z
    rcases y with ⟨y1, y2⟩ | ⟨y1, ⟨y2, y3, _⟩, y4⟩ <;> omega
theorem StpJ.same {S : Nat → Nat → Nat → Prop} (h : StpJ B V) (k : Fc V V' S) (q1 : ∀ f j, S 6 f j → f ≠ 33 ∧ f ≠ 0) : StpJ B V' := h.fc k (fun f j y z => by have := q1 f j y; omega)
theorem StpJ.inc {S : Nat → Nat → Nat → Prop} (h : StpJ B V) (hq : q < 5) (k : Fc V V' S) (q1 : ∀ f j, S 6 f j → f ≠ 0 ∧ (f = 33 → j = q)) (e : vI V' 6 33 q = vI V 6 33 q + 1) : StpJ (B + 1) V' := by
  obtain ⟨s, c, a1, a2, a3, a4⟩ := h
  refine ⟨fun u => if u = q then s q + 1 else s u, c, fun u hu => ?_, by rw [k.i (fun y => by have := q1 _ _ y; omega)]; exact a2, by omega, fun u hu z => ?_⟩
  · dsimp only
    by_cases w : u = q
    · subst w; rw [if_pos rfl, e, (a1 u hu).1, nI_1]; exact ⟨rfl, by have := (a1 u hu).2; omega⟩
    · rw [if_neg w, k.i (fun y => w ((q1 _ _ y).2 rfl))]; exact ⟨(a1 u hu).1, by have := (a1 u hu).2; omega⟩
  · have := a4 u hu (by rw [k.i (fun y => by have := q1 _ _ y; omega)] at z; exact z)
    dsimp only
    by_cases w : u = q
    · subst w; rw [if_pos rfl]; omega
    · rw [if_neg w]; exact this
/-- a stamp that is new -/
theorem StpJ.new {S : Nat → Nat → Nat → Prop} (h : StpJ B V) (hq : q < 5) (hb : B + 1 < 2 ^ 31) (k : Fc V V' S) (q1 : ∀ f j, S 6 f j → f ≠ 0) (e : vI V' 6 33 q = vI V 6 33 q + 1) (z : vI V' 6 0 62 = nI q) : ¬ vI V' 6 0 63 = vI V' 6 33 q := fun w => by
  obtain ⟨s, c, a1, a2, a3, a4⟩ := h
  have l := a4 q hq (by rw [k.i (fun y => q1 _ _ y rfl)] at z; exact z)
  rw [k.i (fun y => q1 _ _ y rfl), a2, e, (a1 q hq).1, nI_1] at w
  have b := (a1 q hq).2
  have := (nI_eq (by omega) (by omega)).mp w
  omega
end
section
variable {E : EE} {d x B B' : Nat}
theorem o_pin (h0 : 3 < d) (hB : B ≤ B') : VO_pin E d (JA x B) (JA x B') := fun V a0 a1 a2 hJ ha => liftI hJ (fun hW hS => by
  rcases hS.inQ a0 with ⟨hP, hM⟩ | ⟨q, t, n, R, nt, fa, h, px, cs, hq, rfl, hI⟩
  · exact nul_pin (J := fun V2 => WF V2 → JS B' V2) (by omega) hW hP hM (fun _ => hS.mono hB)
  · have fin : ∀ (r : Int32), r = r ∧ (WF V → JS B' V) := fun r => ⟨rfl, fun _ => hS.mono hB⟩
    have v12 := hI.v12
    obtain ⟨d1, d2, d3, d4⟩ := hI.2.1.2.2.2.2.2.2.2
    refine w_X11_pin_0 (by omega) (c_known_y hI hq ⟨fun z => absurd hI.2.1.1.1 z, fun _ => ⟨hI.2.1.1.2, c_isVar hI.sp (fun hn => ⟨fun z => absurd rfl z, fun _ => ?_⟩) (fun u hu e => ⟨fun _ => ?_, fun z => absurd z (by decide)⟩)⟩⟩)
    · exact w_X12_pin_0 (by omega) (c_isVarM (by omega) hI.1 hI.mi hq (fun _ => ⟨fun z => absurd rfl z, fun _ => fin _⟩) (fun u hu e => absurd e (hn u hu)))
    · subst e
      have hbl : vI V 6 21 (12 * q + u) = 0 ∨ vI V 6 21 (12 * q + u) = 1 := hW.2.2 6 21 (12 * q + u) hW.1.2.1 (by decide)
      have pv := hI.pq u hu
      have em : (12 : Int32) * nI q + nI u = nI (12 * q + u) := by rw [show (12 : Int32) = nI 12 from rfl, nI_mul, nI_add]
      -- the pins change
      have go : ∀ (w : Int32) (x' : Int32), w = vI V 6 21 (12 * q + u) → (∀ v, v < 32 → tst x' v = if v = u then decide (a2 = 1) else tst px v) → vwp E d M_X11_pin 74 [some (sl 0 28), some (wi (nI q)), some (wi (nI u)), some (wi a2), some (sl (q + 1) 0), some (wi w)] [wi x', sl (q + 1) 0] V (zi (fun r V1 => vMI E d M_X12_pin [sl 6 0, wi (nI q), wi (nI u), wi a2] V1 (fun r' V2 => r = r' ∧ (WF V2 → JS B' V2)))) := by
        intro w x' ew hx
        refine w_X11_pin_74 hI.2.1.1 (fun V1 e1 => ⟨by rw [ew]; exact hbl, ?_⟩)
        have c1 : Fc V V1 (fun a f j => a = q + 1 ∧ f = 0 ∧ j = 9) := by rw [e1]; exact Fc_wrI ⟨rfl, rfl, rfl⟩
        have mi := hI.mi.fc hI.1 c1 (fun f j y => by omega)
        have b1 : vI V1 6 21 (12 * q + u) = vI V 6 21 (12 * q + u) := c1.i (fun y => by omega)
        refine w_X12_pin_0 (by omega) (c_isVarM (by omega) hI.1 mi hq (fun w => absurd rfl (w u hu)) (fun _ _ _ => ⟨fun _ => ?_, fun w => absurd w (by decide)⟩))
        rw [em, nI_clamp (show 12 * q + u < 2 ^ 31 by omega), b1]
        refine ⟨vp_in_nI (by omega) (by decide), vp_in_nI (by omega) (by decide), fun V5 e5 => ⟨hbl, ew, fun _ => ?_⟩⟩
        have k5 : Fc V V5 (hxS q) := by
          rw [e5]
          exact (c1.mono (fun a f j w => Or.inl ⟨w.1, Or.inl ⟨w.2.1, Or.inr w.2.2⟩⟩)).trans (Fc_wrI (Or.inr ⟨rfl, ⟨by decide, by decide, by show 12 * q ≤ _; omega, by show _ < 12 * q + 12; omega⟩, by decide⟩))
        have en : nz a2 = a2 := by rcases ha with z | z <;> rw [z] <;> rfl
        refine JS.mono (hS.sc hq (k5.mono (fun a f j w => hxS_sc w)) (Or.inr ⟨t, n, R, nt, fa, h, x', cs, hI.hxc k5 ?_ ?_ ?_ ?_ ?_ ?_ ?_⟩)) hB
        · rw [e5, wrI_ne (fun w => by omega), c1.i (fun w => by omega)]; exact d2
        · rw [e5, wrI_ne (fun w => by omega), e1, wrI_at]
        · intro v hv; rw [e5, wrI_ne (fun w => by omega), c1.i (fun w => by omega)]; exact d4 v hv
        · exact ⟨hI.hq.1, fun v hv => by rw [e5, wrI_ne (fun w => by omega), c1.i (fun w => by omega)]; exact hI.hq.2 v hv⟩
        · intro v hv
          rw [hx v (by omega)]
          by_cases z : v = u
          · subst z; rw [e5, wrI_at, if_pos rfl, en]
            rcases ha with y | y <;> rw [y] <;> decide
          · rw [e5, wrI_ne (fun y => by omega), c1.i (fun w => by omega), if_neg z]; exact hI.pq v hv
        · intro v hv; rw [e5, wrI_ne (fun w => by omega)]; exact mi.1.2.2.2.2.2.2.2.2.2.2 v hv
        · intro v hv
          by_cases z : v < 32
          · rw [hx v z, if_neg (by omega)]; exact hI.2.2.2.2.2.2.2 v hv
          · exact tst_big _ (by omega)
      have st : ∀ (w : Int32), w = vI V 6 21 (12 * q + u) → vwp E d M_X11_pin 43 [some (sl 0 28), some (wi (nI q)), some (wi (nI u)), some (wi a2), some (sl (q + 1) 0), none] [wi w] V (zi (fun r V1 => vMI E d M_X12_pin [sl 6 0, wi (nI q), wi (nI u), wi a2] V1 (fun r' V2 => r = r' ∧ (WF V2 → JS B' V2)))) := by
        intro w ew
        refine w_X11_pin_43 hI.2.1.1 ⟨fun z => go w _ ew (fun v hv => ?_), fun z => go w _ ew (fun v hv => ?_)⟩
        · rw [d3, tst_and, tst_xor, tst_one (by omega) hv, tst_n1 hv, z]
          by_cases y : v = u
          · rw [if_pos y, decide_eq_true y]; simp
          · rw [if_neg y, decide_eq_false y]; simp
        · have a1 : a2 = 1 := by rcases ha with y | y; exact absurd y z; exact y
          rw [d3, tst_or, tst_one (by omega) hv, a1]
          by_cases y : v = u
          · rw [if_pos y, decide_eq_true y]; simp
          · rw [if_neg y, decide_eq_false y]; simp
      rw [d3]
      refine ⟨fun z => st 0 ?_, fun z => st 1 ?_⟩
      · exact (pv.mpr ((tst_0 px (by omega)).mp z)).symm
      · rcases hbl with y | y
        · exact absurd ((tst_0 px (by omega)).mpr (pv.mp y)) z
        · exact y.symm)
theorem o_change (h0 : 3 < d) (hB : B + 1 ≤ B') (hb : B + 1 < 2 ^ 31) : VO_change E d (JA x B) (JA x B') := fun V a0 a1 a2 hJ => liftI hJ (fun hW hS => by
  rcases hS.inQ a0 with ⟨hP, hM⟩ | ⟨q, t, n, R, nt, fa, h, px, cs, hq, rfl, hI⟩
  · exact nul_change (J := fun V2 => WF V2 → JS B' V2) (by omega) hW hP hM (fun _ => hS.mono (by omega))
  · have fin : ∀ (r : Int32), r = r ∧ (WF V → JS B' V) := fun r => ⟨rfl, fun _ => hS.mono (by omega)⟩
    have f16 := hI.f16
    refine w_X11_change_0 (by omega) (c_known_y hI hq ⟨fun z => absurd hI.2.1.1.1 z, fun _ => ⟨hI.2.1.1.2, c_isFactC hI (fun hn => ⟨fun _ => ?_, fun z => absurd rfl z⟩) (fun u hu e => ⟨fun z => absurd z (by decide), fun _ => ?_⟩)⟩⟩)
    · exact w_X12_change_0 (by omega) (c_isFactM (by omega) hI.1 hI.mi hq (fun _ => ⟨fun _ => fin _, fun z => absurd rfl z⟩) (fun u hu e => absurd e (hn u hu)))
    · subst e
      refine ⟨fun z => w_X12_change_0 (by omega) (c_isFactM (by omega) hI.1 hI.mi hq (fun w => absurd rfl (w u hu)) (fun _ _ _ => ⟨fun w => absurd w (by decide), fun _ => ⟨fun _ => fin _, fun w => absurd z w⟩⟩)), fun z => ⟨fun y => ?_, fun y => w_X12_change_0 (by omega) (c_isFactM (by omega) hI.1 hI.mi hq (fun w => absurd rfl (w u hu)) (fun _ _ _ => ⟨fun w => absurd w (by decide), fun _ => ⟨fun w => absurd w z, fun _ => ⟨fun w => absurd w y, fun _ => fin _⟩⟩⟩))⟩⟩
      have bd : Bd a2 := by
        have z1 := mt Int32.lt_iff_toInt_lt.mpr z
        have y1 := Int32.le_iff_toInt_le.mp y
        rw [show (-9999 : Int32).toInt = -9999 from by decide] at z1
        rw [show (9999 : Int32).toInt = 9999 from by decide] at y1
        exact ⟨by omega, y1⟩
      rw [nI_clamp (show u < 2 ^ 31 by omega)]
      refine ⟨vp_in_nI (by omega) (by decide), fun V9 e9 V10 e10 => ?_⟩
      have c10 : Fc V V10 (fun a f j => a = q + 1 ∧ (f = 23 ∧ j = u ∨ f = 19 ∧ j = 0)) := by rw [e10, e9]; exact (Fc_wrI ⟨rfl, Or.inl ⟨rfl, rfl⟩⟩).trans (Fc_wrI ⟨rfl, Or.inr ⟨rfl, rfl⟩⟩)
      have mi := hI.mi.fc hI.1 c10 (fun f j y => by omega)
      have e16 : (16 : Int32) * nI q + nI u = nI (16 * q + u) := by rw [show (16 : Int32) = nI 16 from rfl, nI_mul, nI_add]
      refine w_X12_change_0 (by omega) (c_isFactM (by omega) hI.1 mi hq (fun w => absurd rfl (w u hu)) (fun _ _ _ => ⟨fun w => absurd w (by decide), fun _ => ⟨fun w => absurd w z, fun _ => ⟨fun _ => ?_, fun w => absurd y w⟩⟩⟩))
      rw [e16, nI_clamp (show 16 * q + u < 2 ^ 31 by omega), nI_clamp (show q < 2 ^ 31 by omega)]
      refine ⟨vp_in_nI (by omega) (by decide), fun V4 e4 => ⟨vp_in_nI (by omega) (by decide), vp_in_nI (by omega) (by decide), fun V7 e7 => ⟨rfl, fun _ => ?_⟩⟩⟩
      have k7 : Fc V V7 (fun a f j => a = q + 1 ∧ (f = 23 ∧ j = u ∨ f = 19 ∧ j = 0) ∨ a = 6 ∧ (f = 15 ∧ j = 16 * q + u ∨ f = 33 ∧ j = q)) := by
        rw [e7, e4]
        exact ((c10.mono (fun a f j w => Or.inl w)).trans (Fc_wrI (Or.inr ⟨rfl, Or.inl ⟨rfl, rfl⟩⟩))).trans (Fc_wrI (Or.inr ⟨rfl, Or.inr ⟨rfl, rfl⟩⟩))
      have kd : Fc V V7 (dyS q) := k7.mono (fun a f j w => by
        rcases w with ⟨w1, w2⟩ | ⟨w1, ⟨w2, w3⟩ | ⟨w2, w3⟩⟩
        · exact Or.inl ⟨w1, by omega⟩
        · subst w2; subst w3; exact Or.inr ⟨w1, ⟨by decide, by decide, by show 16 * q ≤ _; omega, by show _ < 16 * q + 16; omega⟩, by omega⟩
        · subst w2; subst w3; exact Or.inr ⟨w1, ⟨by decide, by decide, by show 1 * j ≤ _; omega, by show _ < 1 * j + 1; omega⟩, by omega⟩)
      have e33 : vI V7 6 33 q = vI V 6 33 q + 1 := by rw [e7, wrI_at, e4, wrI_ne (fun w => by omega), c10.i (fun w => by omega)]
      have stp := hS.2.2.2.2.2.2.1
      obtain ⟨⟨d1, d1'⟩, d2, d3, d4⟩ := hI.2.1.2.2.2.2.2.2.2
      have cc : ∀ f j, f ≠ 23 → f ≠ 19 → vI V7 (q + 1) f j = vI V (q + 1) f j := fun f j w1 w2 => k7.i (fun w => by omega)
      have mm : ∀ f j, f ≠ 15 → f ≠ 33 → vI V7 6 f j = vI V 6 f j := fun f j w1 w2 => k7.i (fun w => by omega)
      refine JS.dy (hS) (by omega) hq kd ((stp.inc (by omega) k7 (fun f j w => by omega) e33).mono (by omega)) (Or.inr ⟨t, n, R, nt, fun k => if k = u then a2 else fa k, h, px, cs, hI.gen kd ?_ ?_ ?_ ?_ ?_ ?_ ?_ ?_ ?_ ?_ ?_ hI.2.2.2.2.2.2.2⟩)
      · refine ⟨fun k hk => ?_, fun k hk => ?_⟩
        · by_cases w : k = u
          · subst w; rw [e7, wrI_ne (fun w => by omega), e4, wrI_ne (fun w => by omega), e10, wrI_ne (fun w => by omega), e9, wrI_at, if_pos rfl]
          · rw [k7.i (fun y => by omega), if_neg w]; exact d1 k hk
        · show Bd (if k = u then a2 else fa k)
          by_cases w : k = u
          · rw [if_pos w]; exact bd
          · rw [if_neg w]; exact d1' k hk
      · rw [cc 0 8 (by omega) (by omega)]; exact d2
      · rw [cc 0 9 (by omega) (by omega)]; exact d3
      · intro v hv; rw [cc 24 v (by omega) (by omega)]; exact d4 v hv
      · intro k hk
        by_cases w : k = u
        · subst w; rw [e7, wrI_ne (fun w => by omega), e4, wrI_at, if_pos rfl]
        · rw [k7.i (fun y => by omega), if_neg w]; exact hI.2.2.1.2.2.2.2.2.2.2.1 k hk
      · exact ⟨hI.hq.1, fun v hv => by rw [mm 19 _ (by omega) (by omega)]; exact hI.hq.2 v hv⟩
      · intro v hv; rw [mm 21 _ (by omega) (by omega)]; exact hI.pq v hv
      · intro v hv; rw [mm 20 _ (by omega) (by omega)]; exact hI.2.2.1.2.2.2.2.2.2.2.2.2.2 v hv
      · exact hI.2.2.2.2.1.ex f16 (fun f j z => cc f j (by omega) (by omega)) (fun f j _ z1 z2 => mm f j (by omega) (by omega))
      · refine Or.inl ?_
        rw [e7, wrI_ne (fun w => by omega), e4, wrI_ne (fun w => by omega), e10, wrI_at]
      · intro z1 z2
        exact absurd z2 (stp.new (by omega) hb k7 (fun f j w => by omega) e33 z1))
theorem o_unfold (h0 : 3 < d) (hB : B ≤ B') : VO_unfold E d (JA x B) (JA x B') := fun V a0 hJ => liftI hJ (fun hW hS => by
  rcases hS.inQ a0 with ⟨hP, hM⟩ | ⟨q, t, n, R, nt, fa, h, px, cs, hq, rfl, hI⟩
  · exact nul_unfold (J := fun V2 => WF V2 → JS B' V2) (by omega) hW hP hM (fun _ => hS.mono hB)
  · obtain ⟨u, u6, u1, u2, u3⟩ := hI.2.2.2.2.1
    refine w_X11_unfold_0 (by omega) (c_known_y hI hq ⟨fun _ => ⟨hI.2.1.1.2, fun V4 e4 => ?_⟩, fun z => absurd hI.2.1.1.1 z⟩)
    have c4 : Fc V V4 (fun a f j => a = q + 1 ∧ f = 0 ∧ j = 11) := by rw [e4]; exact Fc_wrI ⟨rfl, rfl, rfl⟩
    have mi := hI.mi.fc hI.1 c4 (fun f j y => by omega)
    refine w_X12_unfold_0 (by omega) (c_isProblem_y mi hq ⟨fun _ => ?_, fun z => absurd z (by decide)⟩)
    rw [nI_clamp (show q < 2 ^ 31 by omega), c4.i (fun y => by omega), u2, u1]
    refine ⟨vp_in_nI (by omega) (by decide), vp_in_nI (by omega) (by decide), fun V5 e5 => ⟨rfl, fun _ => ?_⟩⟩
    have k5 : Fc V V5 (fun a f j => a = q + 1 ∧ f = 0 ∧ j = 11 ∨ a = 6 ∧ f = 29 ∧ j = q) := by rw [e5]; exact (c4.mono (fun a f j w => Or.inl w)).trans (Fc_wrI (Or.inr ⟨rfl, rfl, rfl⟩))
    have kd : Fc V V5 (dyS q) := k5.mono (fun a f j w => by
      rcases w with ⟨w1, w2, w3⟩ | ⟨w1, w2, w3⟩
      · exact Or.inl ⟨w1, by omega⟩
      · subst w2; subst w3; exact Or.inr ⟨w1, ⟨by decide, by decide, by show 1 * j ≤ _; omega, by show _ < 1 * j + 1; omega⟩, by omega⟩)
    obtain ⟨⟨d1, d1'⟩, d2, d3, d4⟩ := hI.2.1.2.2.2.2.2.2.2
    have cc : ∀ f j, ¬ (f = 0 ∧ j = 11) → vI V5 (q + 1) f j = vI V (q + 1) f j := fun f j w1 => k5.i (fun w => by omega)
    have cj : ∀ f j, ¬ (f = 0 ∧ j = 11) → vJ V5 (q + 1) f j = vJ V (q + 1) f j := fun f j w1 => k5.j (fun w => by omega)
    have mm : ∀ f j, f ≠ 29 → vI V5 6 f j = vI V 6 f j := fun f j w1 => k5.i (fun w => by omega)
    refine JS.dy hS hB hq kd ((hS.2.2.2.2.2.2.1.same k5 (fun f j w => by omega)).mono hB) (Or.inr ⟨t, n, R, nt, fa, h, px, cs, hI.gen kd ⟨fun k hk => ?_, d1'⟩ ?_ ?_ ?_ ?_ ?_ ?_ ?_ ?_ ?_ ?_ hI.2.2.2.2.2.2.2⟩)
    · rw [cc 23 k (by omega)]; exact d1 k hk
    · rw [cc 0 8 (by omega)]; exact d2
    · rw [cc 0 9 (by omega)]; exact d3
    · intro v hv; rw [cc 24 v (by omega)]; exact d4 v hv
    · intro k hk; rw [mm 15 _ (by omega)]; exact hI.2.2.1.2.2.2.2.2.2.2.1 k hk
    · exact ⟨hI.hq.1, fun v hv => by rw [mm 19 _ (by omega)]; exact hI.hq.2 v hv⟩
    · intro v hv; rw [mm 21 _ (by omega)]; exact hI.pq v hv
    · intro v hv; rw [mm 20 _ (by omega)]; exact hI.2.2.1.2.2.2.2.2.2.2.2.2.2 v hv
    · exact ⟨0, by decide, by rw [e5, wrI_ne (fun w => by omega), e4, wrI_at]; rfl, by rw [e5, wrI_at]; rfl, fun j hj => absurd hj (Nat.not_lt_zero j)⟩
    · exact hI.2.2.2.2.2.1.ex (fun f _ => by rw [k5.n]) (fun f j z => cc f j (by omega)) (fun j => cj 21 j (by omega))
    · exact hI.2.2.2.2.2.2.1.ex (mm 0 62 (by omega)) (mm 0 63 (by omega)) (mm 33 q (by omega)) (fun f j z => mm f j (by omega)) (fun j => k5.j (fun w => by omega)))
end
