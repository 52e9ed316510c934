/-! the class reads statements: names, facts, vars -/
section
variable {E : EE} {d : Nat} {V : VH} {g : Nat} {T : Nat → TK} {F L : Nat} {R : List SR} {i o nb ub : Nat} {sv : Int32}
theorem cs_newName {s most : Nat} {K : Int32 → VH → Prop} (h0 : 0 < d) (h : CS V g T L (tcR R) (nmR R) i o nb ub sv) (n0 : (T i).1 ≠ 0) (n3 : (T i).1 ≠ 3) (hs : s < 4) (hm : most ≤ 24) (he : ∀ e, nwn T R s most (i + 1) = .inl e → ∀ V', Sfr V V' g → Flt V' e → K 0 V') (hy : nwn T R s most (i + 1) = .inr (i + 2) → ∀ V', Dtf V V' g ub nb → CS V' g T L (tcR R) (nmR R) (i + 2) o nb ub sv → vJ V' 0 7 3 = (T (i + 1)).2.1 → vI V' 0 7 4 = nI (T (i + 1)).f → K 1 V') : vMI E d M_X5_newName [sl 0 7, wi (nI s), wi (nI most)] V K := by
  obtain ⟨g0, g6⟩ := h.g0
  refine w_X5_newName_0 h0 (cs_step h n0 n3 (fun V1 r1 s1 a1 => ?_))
  obtain ⟨t1, t2, t3, t4, t5⟩ := s1.tok
  refine ⟨fun q V3 e3 V4 e4 => ?_, fun q => ?_⟩
  · have c1 : (T (i + 1)).1 = 1 := clK_2.mp (t2.symm.trans q)
    have f4 : Fc V1 V4 (fun a f j => a = 0 ∧ f = 7 ∧ (j = 3 ∨ j = 4)) := by rw [e4, e3]; exact (Fc_wrJ ⟨rfl, rfl, Or.inl rfl⟩).trans (Fc_wrI ⟨rfl, rfl, Or.inr rfl⟩)
    have s4 : CS V4 g T L (tcR R) (nmR R) (i + 1) o nb ub sv := s1.gen f4 (fun a f j z => Or.inl ⟨z.1, z.2.1, by omega, by omega⟩) (s1.1.2.2.2.2.2.2.fc f4 (fun f j _ z => g0 z.1))
    have d4 : Dtf V1 V4 g ub nb := f4.dd g0 (fun a f j z => ⟨z.1, by omega⟩)
    have ky : vJ V4 0 7 3 = (T (i + 1)).2.1 := by
      have : vJ V4 0 7 3 = vJ V3 0 7 3 := by rw [e4]; rfl
      rw [this, e3, wrJ_at]; exact s1.key c1
    have pl : vI V4 0 7 4 = nI (T (i + 1)).f := by
      rw [e4, wrI_at, e3]; exact t4
    have d14 : Dtf V V4 g ub nb := (r1.dd a1).trans d4
    have nc := s4.1.2.2.2.2.2.2
    rw [s4.1.1, ky]
    refine ⟨s4.1.2.2.1, c_lookUp s4.1.2.2.1 nc ?_⟩
    have en : nwn T R s most (i + 1) = (if MR R (T (i + 1)).2.1 = none then (if most ≤ tcR R s then .inl (6, (T (i + 1)).f) else .inr (i + 2)) else .inl (3, (T (i + 1)).f)) := by unfold nwn; rw [if_pos c1]
    cases w : lku (tcR R) (nmR R) (T (i + 1)).2.1 with
    | none =>
      have w' : MR R (T (i + 1)).2.1 = none := w
      rw [if_pos w'] at en
      have b := (nc.1 s hs).2
      refine ⟨fun _ => ?_, fun z => absurd (show (-1 : Int32) < 0 by decide) z⟩
      rw [s4.1.1, nI_clamp (show s < 2 ^ 31 by omega), (nc.1 s hs).1]
      refine ⟨s4.1.2.2.1, vp_in_nI hs (by decide), fun z => ?_, fun z => ?_⟩
      · have z := (nI_ltI (by omega) (by omega)).mp z
        rw [if_neg (by omega)] at en
        exact cs_step s4 (by omega) (by omega) (fun V11 r11 s11 a11 => hy en V11 (d14.trans (r11.dd a11)) s11 (by rw [(r11.2.2.1 3 (by omega)).2]; exact ky) (by rw [(r11.2.2.1 4 (by omega)).1]; exact pl))
      · have z := mt (nI_ltI (by omega) (by omega)).mpr z
        rw [if_pos (by omega)] at en
        exact cs_fail s4 rfl pl (fun V' a b => ⟨Or.inl rfl, he _ en V' (d14.st.trans a.st) b⟩)
    | some q2 =>
      have w' : MR R (T (i + 1)).2.1 = some q2 := w
      rw [if_neg (fun z => by rw [w'] at z; exact nomatch z)] at en
      obtain ⟨l1, l2, _⟩ := lku_lt w
      have l3 := (nc.1 q2.1 l1).2
      exact ⟨fun z => absurd z (nI_pos (show 24 * q2.1 + q2.2 < 2 ^ 31 by omega)), fun _ => cs_fail s4 rfl pl (fun V' a b => ⟨Or.inl rfl, he _ en V' (d14.st.trans a.st) b⟩)⟩
  · have c1 : ¬ (T (i + 1)).1 = 1 := fun z => q (t2.trans (clK_2.mpr z))
    exact cs_refuse s1 (fun V' a b => ⟨Or.inl rfl, he _ (by unfold nwn; rw [if_neg c1]) V' (r1.st.trans a.st) b⟩)
/-- what a statement of the class leads to -/
def StH (V : VH) (g : Nat) (T : Nat → TK) (L : Nat) (R : List SR) (X : NR SR) (K : Int32 → VH → Prop) : Prop := (∀ e, X = .inl e → ∀ V', Sfr V V' g → Flt V' e → K 0 V') ∧ ∀ i' r, X = .inr (i', r) → ∀ V', Sfr V V' g → (∃ sv, CS V' g T L (tcR (R ++ [r])) (nmR (R ++ [r])) i' 0 (nbR (R ++ [r])) (ubR (R ++ [r])) sv) → CDt V' g (R ++ [r]) → K 1 V'
theorem cs_fact {K : Int32 → VH → Prop} (h0 : 3 < d) (h : CS V g T L (tcR R) (nmR R) i 0 (nbR R) (ubR R) sv) (hd : CDt V g R) (hw : WR T F L R i) (c : (T i).1 = 300) (hS : StH V g T L R (stF T R i) K) : vMI E d M_X5_factStatement [sl 0 7] V K := by
  obtain ⟨he, hy⟩ := hS
  obtain ⟨g0, g6⟩ := h.g0
  refine w_X5_factStatement_0 (by omega) (cs_newName (s := 0) (most := 16) (by omega) h (by omega) (by omega) (by decide) (by decide) (fun e z V1 f1 t1 => ⟨fun _ => he e (by unfold stF; rw [z]; rfl) V1 f1 t1, fun q => absurd rfl q⟩) (fun z V1 d1 s1 ky pl => ⟨fun q => absurd q (by decide), fun _ => ?_⟩))
  have e1 : stF T R i = (if (T (i + 2)).1 = 61 then nrB (nmr T true 0 9999 (i + 2 + 1)) (fun i2 x => if (T i2).1 = 59 then .inr (i2 + 1, mkS 0 T R i [x] 0 0 0 [] []) else .inl (rfe T i2)) else .inl (rfe T (i + 2))) := by unfold stF; rw [z]; rfl
  refine cs_accept (c := 61) (by omega) s1 (by decide) rfl (fun z1 V3 r3 t3 => ⟨fun q => absurd rfl q, fun _ => he _ (by rw [e1, if_neg z1]) V3 (d1.st.trans r3.st) t3⟩) (fun z1 V3 r3 s3 a3 => ⟨fun _ => ?_, fun q => absurd q (by decide)⟩)
  rw [if_pos z1] at e1
  refine cs_numeral (sg := true) (lo := 0) (hi := 9999) (by omega) s3 (by decide) (by decide) (fun e z2 V5 r5 t5 => ⟨fun _ => he e (by rw [e1, z2]; rfl) V5 ((d1.st.trans r3.st).trans r5.st) t5, fun q => absurd rfl q⟩) (fun i2 x z2 V5 r5 s5 a5 x5 _ _ _ _ _ => ⟨fun q => absurd q (by decide), fun _ => ?_⟩)
  rw [z2] at e1
  have e1 : stF T R i = (if (T i2).1 = 59 then .inr (i2 + 1, mkS 0 T R i [x] 0 0 0 [] []) else .inl (rfe T i2)) := e1
  refine cs_acceptF (c := 59) (by omega) s5 (by decide) rfl (fun z3 V7 r7 t7 => ⟨fun q => absurd rfl q, fun _ => he _ (by rw [e1, if_neg z3]) V7 (((d1.st.trans r3.st).trans r5.st).trans r7.st) t7⟩) (fun z3 V7 k7 r7 s7 a7 => ⟨fun _ => ?_, fun q => absurd q (by decide)⟩)
  rw [if_pos z3] at e1
  have dt : Dtf V V7 g (ubR R) (nbR R) := ((d1.trans (r3.dd a3)).trans (r5.dd a5)).trans (r7.dd a7)
  have hd7 := hd.dd dt
  have ky7 : vJ V7 0 7 3 = (T (i + 1)).2.1 := by rw [(r7.2.2.1 3 (by omega)).2, (r5.2.2.1 3 (by omega)).2, (r3.2.2.1 3 (by omega)).2]; exact ky
  have x7 : vI V7 0 7 5 = x := by rw [k7]; exact x5
  have nc := s7.1.2.2.2.2.2.2
  obtain ⟨q1, q2, q3, q4⟩ := nwn_inr z
  rw [s7.1.1, show Int32.toNatClampNeg 0 = 0 from rfl, (nc.1 0 (by decide)).1, nI_clamp (show tcR R 0 < 2 ^ 31 by omega), x7]
  refine ⟨s7.1.2.2.1, vp_in_nI (by omega) (by decide), fun V12 e12 => ?_⟩
  have f12 : Fc V7 V12 (fun a f j => a = g ∧ f = 23 ∧ j = tcR R 0) := by rw [e12]; exact Fc_wrI ⟨rfl, rfl, rfl⟩
  have nc12 := nc.fc f12 (fun f j hf y => by have := y.2.1; omega)
  have s12 := s7.gen f12 (fun a f j y => Or.inr (Or.inr ⟨y.1, fun w => by have := y.2.1; omega⟩)) nc12
  have ky12 : vJ V12 0 7 3 = (T (i + 1)).2.1 := by rw [f12.j (fun y => g0 y.1.symm)]; exact ky7
  rw [s12.1.1, ky12]
  refine c_tell (s := 0) (tc' := tcR (R ++ [mkS 0 T R i [x] 0 0 0 [] []])) (nm' := nmR (R ++ [mkS 0 T R i [x] 0 0 0 [] []])) s12.1.2.2.1 nc12 (by decide) (by omega) (tcR_same rfl) (fun u hu => tcR_ne (Ne.symm hu)) (by unfold nmR; rw [gtR_new (s := 0) rfl]; rfl) (fun u k hk => nmR_old hk) (fun V13 f13 n13 => ?_)
  have w2 : tcR R 2 ≤ 24 := hw.1 2 (by decide)
  refine hy _ _ e1 V13 (dt.st.trans ((f12.st g0 (fun a f j y => ⟨y.1, by have := y.2; omega⟩)).trans (f13.st g0 (fun a f j y => ⟨y.1, by have := y.2; omega⟩)))) ⟨sv, ?_⟩ ⟨?_, ?_, ?_⟩
  · rw [nbR_add, ubR_add]
    exact s12.gen f13 (fun a f j y => Or.inr (Or.inr ⟨y.1, fun w => by have := y.2; omega⟩)) n13
  · refine CDb.add ((hd7.1.fx f12 (fun f j y => by have := y.2; omega) w2).fx f13 (fun f j y => by have := y.2; omega) w2) (fun _ => ?_) (fun y => absurd y (by decide : (0 : Nat) ≠ 2)) (fun y => absurd y (by decide : (0 : Nat) ≠ 3))
    rw [f13.i (fun y => by have := y.2; omega), e12, wrI_at]; rfl
  · refine Sp.ne (hd7.2.1.fro (by rw [f13.l, f12.l]) (fun f hf => funext fun j => ?_)) (by decide : (0 : Nat) ≠ 1)
    rw [f13.i (fun y => by have := y.2; omega), f12.i (fun y => by have := y.2; omega)]
  · refine hd7.2.2.ne (by decide : (0 : Nat) ≠ 2) (by decide : (0 : Nat) ≠ 3) (fun j _ => ?_)
    rw [f13.i (fun y => by have := y.2; omega), f12.i (fun y => by have := y.2; omega)]
end
/-! a var is added to the space -/
section
variable {E : EE} {d : Nat} {V : VH} {g nv n : Nat} {sz sz' : Nat → Nat} {vl vl' : Nat → Nat → Int32}
def adS (g : Nat) : Nat → Nat → Nat → Prop := fun a f _ => a = g ∧ (f = 5 ∨ f = 6 ∨ f = 7 ∨ f = 8)
theorem c_spadd {K : Int32 → VH → Prop} (hS : Sp V g nv sz vl) (hA : SL (vL V) 0 8 14) (hN : vN V 0 8 = 199) (hnv : nv < 12) (h1 : 1 ≤ n) (h2 : n ≤ 199) (e1 : ∀ v, v < nv → sz v = sz' v ∧ ∀ j, vl v j = vl' v j) (e2 : sz' nv = n) (e3 : ∀ k, k < n → vI V 0 8 k = vl' nv k) (hno : (20 < n ∨ 20000 < Tp sz nv 0 * n) → K 0 V) (hyes : ¬ (20 < n ∨ 20000 < Tp sz nv 0 * n) → ∀ V', Fc V V' (adS g) → Sp V' g (nv + 1) sz' vl' → K 1 V') : vMI E d M_X7_add [sl g 5, sl 0 8, wi (nI n)] V K := by
  have hg := hS.1
  obtain ⟨_, s1, s2, s3, s4, s5⟩ := id hS
  have g0 : g ≠ 0 := hg.2.1
  refine w_X7_add_0 hg hA ⟨fun q => absurd (show (12 : Int32) ≤ nI nv from s1 ▸ q) (nI_ge (b := 12) hnv (by decide)), fun _ => ⟨fun q => absurd ((nI_ltI (b := 1) (by omega) (by decide)).mp q) (by omega), fun _ => ⟨fun q => hno (Or.inl ((nI_ltI (a := 20) (by decide) (by omega)).mp q)), fun q => ?_⟩⟩⟩
  have n20 : ¬ 20 < n := fun z => q ((nI_ltI (a := 20) (by decide) (by omega)).mpr z)
  rw [hN, s3, nI_mul]
  have tn : Tp sz nv 0 * n ≤ 20000 * 20 := Nat.mul_le_mul s4 (by omega)
  refine ⟨fun q => absurd ((nI_ltI (a := 199) (by decide) (by omega)).mp q) (by omega), fun _ => ⟨fun q => ?_, fun q => hno (Or.inr (by
    by_cases z : 20000 < Tp sz nv 0 * n
    · exact z
    · exact absurd (nI_le (b := 20000) (by omega) (by decide)) q))⟩⟩
  have tq : Tp sz nv 0 * n ≤ 20000 := by
    by_cases z : 20000 < Tp sz nv 0 * n
    · exact absurd q (nI_ge (a := 20000) z (by omega))
    · omega
  have ok : ¬ (20 < n ∨ 20000 < Tp sz nv 0 * n) := by omega
  have tx : ∀ v, Tp sz nv v = Tp sz' nv v := fun v => Tp_ext (fun u hu => (e1 u hu).1) (nv - v) v (Nat.le_refl _)
  have keep : ∀ {W : VH} (a f j : Nat), Fc V W (adS g) → ¬ (a = g ∧ (f = 5 ∨ f = 6 ∨ f = 7 ∨ f = 8)) → vI W a f j = vI V a f j := fun a f j w z => w.i z
  -- the values
  have go2 : ∀ (m k : Nat) (W : VH), k + m = n → Fc V W (adS g) → vI W g 5 0 = nI nv → vI W g 5 1 = nI (Tp sz nv 0) → (∀ v, v < nv → vI W g 6 v = nI (sz v) ∧ vI W g 8 v = nI (Tp sz nv (v + 1) * n) ∧ ∀ j, j < sz v → vI W g 7 (20 * v + j) = vl v j) → (∀ j, j < k → vI W g 7 (20 * nv + j) = vl' nv j) → vwp E d M_X7_add 68 [some (sl g 5), some (sl 0 8), some (wi (nI n)), some (wi (nI k))] [] W (zi K) := by
    intro m
    induction m with
    | zero =>
      intro k W ek w w0 w1 wv wk
      have : k = n := by omega
      subst this
      have hgW : PG (vL W) g := by rw [w.l]; exact hg
      refine w_X7_add_68 hgW (by rw [w.l]; exact hA) ⟨fun _ => ?_, fun q => absurd (nI_le (Nat.le_refl _) (by omega)) q⟩
      rw [w0, nI_clamp (show nv < 2 ^ 31 by omega)]
      refine ⟨vp_in_nI hnv (by decide), fun V2 f2 => ?_⟩
      have a2 : vI V2 g 5 0 = nI nv := by rw [f2, wrI_ne (fun z => by omega)]; exact w0
      rw [a2, nI_clamp (show nv < 2 ^ 31 by omega)]
      refine ⟨vp_in_nI hnv (by decide), fun V4 f4 V5 f5 V6 f6 => ?_⟩
      have b4 : vI V4 g 5 1 = nI (Tp sz nv 0) := by rw [f4, wrI_ne (fun z => by omega), f2, wrI_ne (fun z => by omega)]; exact w1
      have b5 : vI V5 g 5 0 = nI nv := by rw [f5, wrI_ne (fun z => by omega), f4, wrI_ne (fun z => by omega)]; exact a2
      rw [b4, nI_mul] at f5
      rw [b5, nI_1] at f6
      have c6 : Fc W V6 (adS g) := by
        rw [f6, f5, f4, f2]
        exact (((Fc_wrI ⟨rfl, by omega⟩).trans (Fc_wrI ⟨rfl, by omega⟩)).trans (Fc_wrI ⟨rfl, by omega⟩)).trans (Fc_wrI ⟨rfl, by omega⟩)
      have x7 : ∀ j, vI V6 g 7 j = vI W g 7 j := fun j => by rw [f6, wrI_ne (fun z => by omega), f5, wrI_ne (fun z => by omega), f4, wrI_ne (fun z => by omega), f2, wrI_ne (fun z => by omega)]
      have x6 : ∀ j, vI V6 g 6 j = vI V2 g 6 j := fun j => by rw [f6, wrI_ne (fun z => by omega), f5, wrI_ne (fun z => by omega), f4, wrI_ne (fun z => by omega)]
      have x8 : ∀ j, vI V6 g 8 j = vI V4 g 8 j := fun j => by rw [f6, wrI_ne (fun z => by omega), f5, wrI_ne (fun z => by omega)]
      have tA : ∀ v, v ≤ nv → Tp sz' (nv + 1) v = Tp sz nv v * k := fun v hv => by rw [Tp_add (nv - v) v (Nat.le_refl _) hv, e2, ← tx]
      refine hyes ok V6 (w.trans c6) ⟨by rw [c6.l]; exact hgW, by rw [f6, wrI_at], by omega, ?_, ?_, fun v hv => ?_⟩
      · rw [f6, wrI_ne (fun z => by omega), f5, wrI_at, tA 0 (Nat.zero_le _)]
      · rw [tA 0 (Nat.zero_le _)]; exact tq
      · by_cases z : v < nv
        · obtain ⟨y1, y2, y3⟩ := wv v z
          obtain ⟨p1, p2, p3, p4, p5⟩ := s5 v z
          obtain ⟨u1, u2⟩ := e1 v z
          refine ⟨?_, by rw [← u1]; exact p2, by rw [← u1]; exact p3, ?_, fun j hj => ?_⟩
          · rw [x6, f2, wrI_ne (fun y => by omega), y1, u1]
          · rw [x8, f4, wrI_ne (fun y => by omega), f2, wrI_ne (fun y => by omega), y2, tA (v + 1) z]
          · rw [x7, y3 j (by rw [u1]; exact hj), u2]
        · have : v = nv := by omega
          subst this
          refine ⟨?_, by omega, by omega, ?_, fun j hj => ?_⟩
          · rw [x6, f2, wrI_at, e2]
          · rw [x8, f4, wrI_at, Tp_nv (Nat.le_refl _)]; rfl
          · rw [x7]; exact wk j (by omega)
    | succ m ih =>
      intro k W ek w w0 w1 wv wk
      have hgW : PG (vL W) g := by rw [w.l]; exact hg
      have ex : nI nv * 20 + nI k = nI (20 * nv + k) := by rw [show (20 : Int32) = nI 20 from rfl, nI_mul, nI_add, Nat.mul_comm]
      refine w_X7_add_68 hgW (by rw [w.l]; exact hA) ⟨fun q => absurd q (nI_ge (by omega) (by omega)), fun _ => ?_⟩
      rw [w.n, hN, w0, ex, nI_clamp (show 20 * nv + k < 2 ^ 31 by omega), nI_clamp (show k < 2 ^ 31 by omega), nI_1]
      refine ⟨vp_in_nI (by omega) (by decide), vp_in_nI (by omega) (by decide), fun V9 f9 => ?_⟩
      rw [keep 0 8 k w (fun z => g0 z.1.symm), e3 k (by omega)] at f9
      have c9 : Fc W V9 (adS g) := by rw [f9]; exact Fc_wrI ⟨rfl, by omega⟩
      refine ih (k + 1) V9 (by omega) (w.trans c9) (by rw [f9, wrI_ne (fun z => by omega)]; exact w0) (by rw [f9, wrI_ne (fun z => by omega)]; exact w1) (fun v hv => ?_) (fun j hj => ?_)
      · obtain ⟨y1, y2, y3⟩ := wv v hv
        have p3 := (s5 v hv).2.2.1
        exact ⟨by rw [f9, wrI_ne (fun z => by omega)]; exact y1, by rw [f9, wrI_ne (fun z => by omega)]; exact y2, fun j hj => by rw [f9, wrI_ne (fun z => by omega)]; exact y3 j hj⟩
      · by_cases z : j = k
        · subst z; rw [f9, wrI_at]
        · rw [f9, wrI_ne (fun y => by omega)]; exact wk j (by omega)
  -- the strides
  have go1 : ∀ (m v : Nat) (W : VH), v + m = nv → Fc V W (adS g) → vI W g 5 0 = nI nv → vI W g 5 1 = nI (Tp sz nv 0) → (∀ u, u < nv → vI W g 6 u = nI (sz u) ∧ vI W g 8 u = nI (if u < v then Tp sz nv (u + 1) * n else Tp sz nv (u + 1)) ∧ ∀ j, j < sz u → vI W g 7 (20 * u + j) = vl u j) → vwp E d M_X7_add 42 [some (sl g 5), some (sl 0 8), some (wi (nI n)), some (wi (nI v))] [] W (zi K) := by
    intro m
    induction m with
    | zero =>
      intro v W ev w w0 w1 wv
      refine w_X7_add_42 (by rw [w.l]; exact hg) (by rw [w.l]; exact hA) ⟨fun _ => ?_, fun q => absurd (show vI W g 5 0 ≤ nI v by rw [w0]; exact nI_le (by omega) (by omega)) q⟩
      refine go2 n 0 W (by omega) w w0 w1 (fun u hu => ?_) (fun j hj => absurd hj (Nat.not_lt_zero j))
      obtain ⟨y1, y2, y3⟩ := wv u hu
      rw [if_pos (by omega)] at y2
      exact ⟨y1, y2, y3⟩
    | succ m ih =>
      intro v W ev w w0 w1 wv
      have hv : v < nv := by omega
      obtain ⟨y1, y2, y3⟩ := wv v hv
      rw [if_neg (Nat.lt_irrefl v)] at y2
      refine w_X7_add_42 (by rw [w.l]; exact hg) (by rw [w.l]; exact hA) ⟨fun q => absurd (show nI nv ≤ nI v from w0 ▸ q) (nI_ge hv (by omega)), fun _ => ?_⟩
      rw [nI_clamp (show v < 2 ^ 31 by omega), y2, nI_mul, nI_1]
      refine ⟨vp_in_nI (by omega) (by decide), vp_in_nI (by omega) (by decide), fun V3 f3 => ?_⟩
      have c3 : Fc W V3 (adS g) := by rw [f3]; exact Fc_wrI ⟨rfl, by omega⟩
      refine ih (v + 1) V3 (by omega) (w.trans c3) (by rw [f3, wrI_ne (fun z => by omega)]; exact w0) (by rw [f3, wrI_ne (fun z => by omega)]; exact w1) (fun u hu => ?_)
      obtain ⟨x1, x2, x3⟩ := wv u hu
      refine ⟨by rw [f3, wrI_ne (fun z => by omega)]; exact x1, ?_, fun j hj => by rw [f3, wrI_ne (fun z => by omega)]; exact x3 j hj⟩
      by_cases z : u = v
      · subst z; rw [f3, wrI_at, if_pos (Nat.lt_succ_self _)]
      · rw [f3, wrI_ne (fun y => by omega), x2]
        by_cases y : u < v
        · rw [if_pos y, if_pos (by omega)]
        · rw [if_neg y, if_neg (by omega)]
  refine go1 nv 0 V (by omega) Fc.refl s1 s3 (fun u hu => ?_)
  obtain ⟨p1, p2, p3, p4, p5⟩ := s5 u hu
  exact ⟨p1, by rw [if_neg (Nat.not_lt_zero u)]; exact p4, p5⟩
end
