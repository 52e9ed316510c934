/-! the class reads rules and aims -/
section
variable {E : EE} {d : Nat} {V : VH} {g : Nat} {R : List SR} {r : SR} {K : VH → Prop}
theorem cj_begin {j : Nat} (hg : PG (vL V) g) (hj : j < 30) (hk : ∀ V', V' = wrI V g 13 j (vI V g 9 10) → K V') : vMV E d M_X2_begin [sl g 9, wi (nI j)] V K := by
  refine w_X2_begin_0 hg ⟨fun q => absurd q (nI_pos (by omega)), fun _ => ⟨fun q => absurd q (nI_ge (b := 30) hj (by decide)), fun _ => ?_⟩⟩
  rw [nI_clamp (show j < 2 ^ 31 by omega)]
  exact ⟨vp_in_nI hj (by decide), hk⟩
theorem cj_finish {j : Nat} {x : Int32} (hg : PG (vL V) g) (hj : j < 24) (hk : ∀ V', V' = wrI (wrI V g 14 j (vI V g 9 10)) g 10 j x → K V') : vMV E d M_X2_finish [sl g 9, wi (nI j), wi x] V K := by
  refine w_X2_finish_0 hg ⟨fun q => absurd q (nI_pos (by omega)), fun _ => ⟨fun _ => ?_, fun q => absurd ((nI_ltI (b := 30) (by omega) (by decide)).mpr (by omega)) q⟩⟩
  rw [nI_clamp (show j < 2 ^ 31 by omega)]
  refine ⟨vp_in_nI (by omega) (by decide), fun V2 e2 => ⟨vp_in_nI (by omega) (by decide), fun V4 e4 => ⟨fun _ => hk V4 (by rw [e4, e2]), fun q => absurd ((nI_ltI (b := 24) (by omega) (by decide)).mpr hj) q⟩⟩⟩
theorem cj_finishA {a : Nat} {x : Int32} (hg : PG (vL V) g) (ha : a < 6) (hk : ∀ V', V' = wrI (wrI (wrI V g 14 (24 + a) (vI V g 9 10)) g 10 (24 + a) x) g 9 2 (nI (a + 1)) → K V') : vMV E d M_X2_finish [sl g 9, wi (nI (24 + a)), wi x] V K := by
  refine w_X2_finish_0 hg ⟨fun q => absurd q (nI_pos (by omega)), fun _ => ⟨fun _ => ?_, fun q => absurd ((nI_ltI (b := 30) (by omega) (by decide)).mpr (by omega)) q⟩⟩
  have e : nI (24 + a) - 24 + 1 = nI (a + 1) := by rw [show (24 : Int32) = nI 24 from rfl, nI_sub (by omega), nI_1, show 24 + a - 24 + 1 = a + 1 by omega]
  rw [nI_clamp (show 24 + a < 2 ^ 31 by omega), e]
  refine ⟨vp_in_nI (by omega) (by decide), fun V2 e2 => ⟨vp_in_nI (by omega) (by decide), fun V4 e4 => ⟨fun q => absurd ((nI_ltI (b := 24) (by omega) (by decide)).mp q) (by omega), fun _ V5 e5 => hk V5 (by rw [e5, e4, e2])⟩⟩⟩
def dsS (g j : Nat) : Nat → Nat → Nat → Prop := fun a f k => a = g ∧ ((f = 11 ∨ f = 12) ∧ k = j ∨ f = 9 ∧ (k = 0 ∨ k = 1))
theorem cj_describe {j : Nat} {w s : Int32} (hg : PG (vL V) g) (hj : j < 24) (hk : ∀ V', Fc V V' (dsS g j) → vI V' g 11 j = w → vI V' g 12 j = s → vI V' g 9 0 = (if vI V g 10 j = 0 then vI V g 9 0 ||| (1 : Int32) <<< (nI j &&& 31) else vI V g 9 0) → vI V' g 9 1 = nI (j + 1) → K V') : vMV E d M_X2_describe [sl g 9, wi (nI j), wi w, wi s] V K := by
  refine w_X2_describe_0 hg ⟨fun q => absurd q (nI_pos (by omega)), fun _ => ⟨fun _ => ?_, fun q => absurd ((nI_ltI (b := 24) (by omega) (by decide)).mpr hj) q⟩⟩
  rw [nI_clamp (show j < 2 ^ 31 by omega)]
  refine ⟨vp_in_nI hj (by decide), fun V2 e2 => ⟨vp_in_nI hj (by decide), fun V4 e4 => ⟨vp_in_nI (by omega) (by decide), ?_⟩⟩⟩
  have a10 : vI V4 g 10 j = vI V g 10 j := by rw [e4, wrI_ne (fun z => by omega), e2, wrI_ne (fun z => by omega)]
  have a9 : vI V4 g 9 0 = vI V g 9 0 := by rw [e4, wrI_ne (fun z => by omega), e2, wrI_ne (fun z => by omega)]
  have a11 : vI V4 g 11 j = w := by rw [e4, wrI_ne (fun z => by omega), e2, wrI_at]
  have a12 : vI V4 g 12 j = s := by rw [e4, wrI_at]
  have f4 : Fc V V4 (dsS g j) := by
    rw [e4, e2]
    exact (Fc_wrI ⟨rfl, Or.inl ⟨Or.inl rfl, rfl⟩⟩).trans (Fc_wrI ⟨rfl, Or.inl ⟨Or.inr rfl, rfl⟩⟩)
  have hl : ∀ {W : VH}, Fc V W (dsS g j) → PG (vL W) g := fun e => by rw [e.l]; exact hg
  rw [a10, a9]
  refine ⟨fun q => w_X2_describe_46 (hl f4) (fun V1 e1 => hk V1 (f4.trans ?_) ?_ ?_ ?_ ?_), fun q V6 e6 => ?_⟩
  · rw [e1]; exact Fc_wrI ⟨rfl, Or.inr ⟨rfl, Or.inr rfl⟩⟩
  · rw [e1, wrI_ne (fun z => by omega)]; exact a11
  · rw [e1, wrI_ne (fun z => by omega)]; exact a12
  · rw [e1, wrI_ne (fun z => by omega), if_neg q]; exact a9
  · rw [e1, wrI_at, nI_1]
  · have f6 : Fc V V6 (dsS g j) := f4.trans (by rw [e6]; exact Fc_wrI ⟨rfl, Or.inr ⟨rfl, Or.inl rfl⟩⟩)
    refine w_X2_describe_46 (hl f6) (fun V1 e1 => hk V1 (f6.trans ?_) ?_ ?_ ?_ ?_)
    · rw [e1]; exact Fc_wrI ⟨rfl, Or.inr ⟨rfl, Or.inr rfl⟩⟩
    · rw [e1, wrI_ne (fun z => by omega), e6, wrI_ne (fun z => by omega)]; exact a11
    · rw [e1, wrI_ne (fun z => by omega), e6, wrI_ne (fun z => by omega)]; exact a12
    · rw [e1, wrI_ne (fun z => by omega), e6, wrI_at, if_pos q]
    · rw [e1, wrI_at, nI_1]
theorem HsC.rule {x : Int32} (h : HsC x R) (hr : r.kd = 2) (ht : tcR R 2 < 32) : HsC (if r.vs.getD 0 0 = 0 then x ||| (1 : Int32) <<< (nI (tcR R 2) &&& 31) else x) (R ++ [r]) := by
  have no : tst x (tcR R 2) = false := by
    cases w : tst x (tcR R 2) with
    | false => rfl
    | true => exact absurd ((h.1 _ ht).mp w).1 (Nat.lt_irrefl _)
  have old : ∀ k, k < 32 → k ≠ tcR R 2 → (tst x k = true ↔ k < tcR R 2 + 1 ∧ lvR (R ++ [r]) k = 0) := fun k hk hn => by
    refine (h.1 k hk).trans ⟨fun z => ⟨by omega, ?_⟩, fun z => ⟨by omega, ?_⟩⟩
    · unfold lvR; rw [gtR_old z.1]; exact z.2
    · have y := z.2; unfold lvR at y; rw [gtR_old (by omega)] at y; exact y
  have nw : lvR (R ++ [r]) (tcR R 2) = r.vs.getD 0 0 := by unfold lvR; rw [gtR_new hr]
  refine ⟨fun k hk => ?_, ?_⟩
  · rw [tcR_same hr]
    by_cases c : r.vs.getD 0 0 = 0
    · rw [if_pos c, tst_or, tst_one ht hk]
      by_cases z : k = tcR R 2
      · rw [decide_eq_true z, Bool.or_true]
        exact ⟨fun _ => ⟨by omega, by rw [z, nw]; exact c⟩, fun _ => rfl⟩
      · rw [decide_eq_false z, Bool.or_false]; exact old k hk z
    · rw [if_neg c]
      by_cases z : k = tcR R 2
      · subst z
        rw [no]
        exact ⟨fun y => absurd y (by decide), fun y => absurd (nw ▸ y.2) c⟩
      · exact old k hk z
  · rw [hdR_add]
    by_cases c : r.vs.getD 0 0 = 0
    · rw [if_pos c, if_pos (show isH r = true from decide_eq_true ⟨hr, c⟩), pop_or ht no, h.2]
    · rw [if_neg c, if_neg (fun z => c (of_decide_eq_true z).2), h.2]; rfl
end
section
variable {E : EE} {d : Nat} {V : VH} {g : Nat} {T : Nat → TK} {F L : Nat} {R : List SR} {i : Nat} {sv : Int32}
theorem stB_e {kd tag i3 : Nat} {vs : List Int32} {e : Nat × Nat} (h : (T i3).1 = 58) (z : prz T (MR R) F tag 0 0 (i3 + 1) (nbR R) = .inl e) : stB T R F kd tag i vs i3 = .inl e := by
  unfold stB; rw [if_pos h, z]
theorem stB_n {kd tag i3 i4 : Nat} {vs : List Int32} {C : CD} {N : List Int32} (h : (T i3).1 = 58) (z : prz T (MR R) F tag 0 0 (i3 + 1) (nbR R) = .inr (i4, C, N)) : stB T R F kd tag i vs i3 = (if (T i4).1 = 59 then .inr (i4 + 1, mkS kd T R i vs (i3 + 1) i4 (svx T (MR R) (i3 + 1) i4) C N) else .inl (rfe T i4)) := by
  unfold stB; rw [if_pos h, z]
/-- the rows of steps and notes hold what was read -/
theorem PtC_new {W0 W1 W2 : VH} {j kd b i4 : Nat} {vs : List Int32} {s : Int32} {C : CD} {N : List Int32} (a : Apd W0 W1 g (ubR R) (nbR R) C N) (a2 : Apd W1 W2 g (ubR R + 2 * C.length) (nbR R + N.length) [] []) {W3 : VH} (k15 : ∀ k, vI W3 g 15 k = vI W2 g 15 k) (k16 : ∀ k, vI W3 g 16 k = vI W2 g 16 k) (h10 : vI W3 g 10 j = vs.getD 0 0) (h13 : vI W3 g 13 j = nI (ubR R)) (h14 : vI W3 g 14 j = nI (ubR R + 2 * C.length)) : PtC W3 g j (mkS kd T R i vs b i4 s C N) (ubR R + 2 * C.length) (nbR R + N.length) := by
  refine ⟨h10, h13, h14, fun k hk => ?_, fun k hk => ?_, Nat.le_refl _, Nat.le_refl _⟩
  · have hk : k < C.length := hk
    obtain ⟨b1, b2⟩ := a.2.1 k hk
    refine ⟨?_, ?_⟩
    · show vI W3 g 15 (ubR R + 2 * k) = (C.getD k (0, 0)).1
      rw [k15, a2.1 _ (by omega)]; exact b1
    · show vI W3 g 15 (ubR R + 2 * k + 1) = (C.getD k (0, 0)).2
      rw [k15, a2.1 _ (by omega)]; exact b2
  · have hk : k < N.length := hk
    show vI W3 g 16 (nbR R + k) = N.getD k 0
    rw [k16, a2.2.2.1 _ (by omega)]; exact a.2.2.2 k hk
theorem cs_aim {K : Int32 → VH → Prop} (hE : eFr E) (h0 : 160 < d) (h : CS V g T L (tcR R) (nmR R) i 0 (nbR R) (ubR R) sv) (hd : CDt V g R) (hw : WR T F L R i) (hFl : 8 * L + 7 < F) (c : (T i).1 = 305) (hS : StH V g T L R (stA T R F i) K) : vMI E d M_X5_aimStatement [sl 0 7] V K := by
  obtain ⟨he, hy⟩ := hS
  obtain ⟨g0, g6⟩ := h.g0
  obtain ⟨_, _, ni, ui⟩ := h.2.2.2.2.2.2.1
  refine w_X5_aimStatement_0 (by omega) (cs_newName (s := 3) (most := 6) (by omega) h (by omega) (by omega) (by decide) (by decide) (fun e z V1 f1 t1 => ⟨fun _ => he e (by unfold stA; rw [z]; rfl) V1 f1 t1, fun q => absurd rfl q⟩) (fun z V1 d1 s1 ky pl => ⟨fun q => absurd q (by decide), fun _ => ?_⟩))
  have e1 : stA T R F i = (if (T (i + 2)).1 = 304 then nrB (nmr T false 1 2 (i + 2 + 1)) (fun i2 x => stB T R F 3 4 i [x] i2) else .inl (rfe T (i + 2))) := by unfold stA; rw [z]; rfl
  obtain ⟨q1, q2, q3, q4⟩ := nwn_inr z
  refine cs_accept (c := 304) (by omega) s1 (by decide) rfl (fun z1 V3 r3 t3 => ⟨fun q => absurd rfl q, fun _ => he _ (by rw [e1, if_neg z1]) V3 (d1.st.trans r3.st) t3⟩) (fun z1 V3 r3 s3 a3 => ⟨fun _ => ?_, fun q => absurd q (by decide)⟩)
  rw [if_pos z1] at e1
  have dt3 : Dtf V V3 g (ubR R) (nbR R) := d1.trans (r3.dd a3)
  refine cs_numeral (sg := false) (lo := 1) (hi := 2) (by omega) s3 (by decide) (by decide) (fun e z2 V5 r5 t5 => ⟨fun _ => he e (by rw [e1, z2]; rfl) V5 (dt3.st.trans r5.st) t5, fun q => absurd rfl q⟩) (fun i2 x z2 V5 r5 s5 a5 x5 _ li2 _ _ _ => ⟨fun q => absurd q (by decide), fun _ => ?_⟩)
  rw [z2] at e1
  have e1 : stA T R F i = stB T R F 3 4 i [x] i2 := e1
  have dt5 : Dtf V V5 g (ubR R) (nbR R) := dt3.trans (r5.dd a5)
  refine cs_acceptF (c := 58) (by omega) s5 (by decide) rfl (fun z3 V7 r7 t7 => ⟨fun q => absurd rfl q, fun _ => he _ (by rw [e1]; unfold stB; rw [if_neg z3]) V7 (dt5.st.trans r7.st) t7⟩) (fun z3 V7 k7 r7 s7 a7 => ⟨fun _ => ?_, fun q => absurd q (by decide)⟩)
  have dt7 : Dtf V V7 g (ubR R) (nbR R) := dt5.trans (r7.dd a7)
  have nc := s7.1.2.2.2.2.2.2
  have x7 : vI V7 0 7 5 = x := by rw [k7]; exact x5
  have ea : (24 : Int32) + nI (tcR R 3) = nI (24 + tcR R 3) := nI_add 24 _
  rw [s7.1.1, s7.1.2.1, show Int32.toNatClampNeg 3 = 3 from rfl, (nc.1 3 (by decide)).1, x7, ea]
  refine ⟨s7.1.2.2.1, s7.1.2.2.1, cj_begin s7.1.2.2.1 (by omega) (fun V12 e12 => ?_)⟩
  have f12 : Fc V7 V12 (fun a f j => a = g ∧ f = 13 ∧ j = 24 + tcR R 3) := by rw [e12]; exact Fc_wrI ⟨rfl, rfl, rfl⟩
  have s12 := s7.gen f12 (fun a f j y => Or.inr (Or.inr ⟨y.1, fun w => by have := y.2.1; omega⟩)) (nc.fc f12 (fun f j hf y => by have := y.2.1; omega))
  have u7 : vI V7 g 9 10 = nI (ubR R) := s7.2.2.2.2.2.2.1.2.1
  have hd7 := hd.dd dt7
  have w2 : tcR R 2 ≤ 24 := hw.1 2 (by decide)
  refine prsC hE F 4 0 0 (Or.inl (by decide)) (fun _ => rfl) (fun y => absurd y (by decide)) (d - 1) (i2 + 1) (nbR R) (ubR R) sv V12 0 _ (by show 10 + 10 * 13 + 4 ≤ d - 1; omega) s12 (by omega) (by omega) (by have : rnk 4 = 3 := rfl; omega) ⟨0, Nat.zero_le _, rfl⟩ (fun e z16 V16 r16 t16 => ⟨fun _ => he e (by rw [e1]; exact stB_e z3 z16) V16 ((dt7.st.trans (f12.st g0 (fun a f j y => ⟨y.1, by have := y.2; omega⟩))).trans r16.st) t16, fun q => absurd rfl q⟩) (fun i4 C N z16 V16 r16 s16 a16 l4 => ⟨fun q => absurd q (by decide), fun _ => ?_⟩)
  have e1 := e1.trans (stB_n z3 z16)
  have fr16 : Sfr V V16 g := (dt7.st.trans (f12.st g0 (fun a f j y => ⟨y.1, by have := y.2; omega⟩))).trans r16.st
  refine cs_accept (c := 59) (by omega) s16 (by decide) rfl (fun z4 V20 r20 t20 => ⟨fun q => absurd rfl q, fun _ => he _ (by rw [e1, if_neg z4]) V20 (fr16.trans r20.st) t20⟩) (fun z4 V20 r20 s20 a20 => ⟨fun _ => ?_, fun q => absurd q (by decide)⟩)
  rw [if_pos z4] at e1
  rw [s20.1.2.1]
  refine ⟨s20.1.2.2.1, cj_finishA s20.1.2.2.1 (by omega) (fun V25 e25 => ?_)⟩
  have u20 : vI V20 g 9 10 = nI (ubR R + 2 * C.length) := s20.2.2.2.2.2.2.1.2.1
  rw [u20] at e25
  have f25 : Fc V20 V25 (fun a f j => a = g ∧ ((f = 14 ∨ f = 10) ∧ j = 24 + tcR R 3 ∨ f = 9 ∧ j = 2)) := by
    rw [e25]
    exact ((Fc_wrI ⟨rfl, Or.inl ⟨Or.inl rfl, rfl⟩⟩).trans (Fc_wrI ⟨rfl, Or.inl ⟨Or.inr rfl, rfl⟩⟩)).trans (Fc_wrI ⟨rfl, Or.inr ⟨rfl, rfl⟩⟩)
  have nc20 := s20.1.2.2.2.2.2.2
  have nc25 := nc20.fc f25 (fun f j hf y => by have := y.2; omega)
  have s25 := s20.gen f25 (fun a f j y => Or.inr (Or.inr ⟨y.1, fun w => by have := y.2; omega⟩)) nc25
  have ky7 : vJ V7 0 7 3 = (T (i + 1)).2.1 := by rw [(r7.2.2.1 3 (by omega)).2, (r5.2.2.1 3 (by omega)).2, (r3.2.2.1 3 (by omega)).2]; exact ky
  have ky25 : vJ V25 0 7 3 = (T (i + 1)).2.1 := by rw [f25.j (fun y => g0 y.1.symm), (r20.2.2.1 3 (by omega)).2, (r16.2.2.1 3 (by omega)).2, f12.j (fun y => g0 y.1.symm)]; exact ky7
  rw [s25.1.1, ky25]
  refine ⟨s25.1.2.2.1, ?_⟩
  refine c_tell (s := 3) (tc' := tcR (R ++ [mkS 3 T R i [x] (i2 + 1) i4 (svx T (MR R) (i2 + 1) i4) C N])) (nm' := nmR (R ++ [mkS 3 T R i [x] (i2 + 1) i4 (svx T (MR R) (i2 + 1) i4) C N])) s25.1.2.2.1 nc25 (by decide) (by omega) (tcR_same rfl) (fun u hu => tcR_ne (Ne.symm hu)) (by unfold nmR; rw [gtR_new (s := 3) rfl]; rfl) (fun u k hk => nmR_old hk) (fun V31 f31 n31 => ?_)
  -- V7 to V12: begin; V12 to V20: reading
  have d1220 : Dtf V12 V20 g (ubR R) (nbR R) := (r16.dd a16).trans ⟨(r20.dd a20).1, (r20.dd a20).2.1, fun k hk => a20.1 k (by omega), fun k hk => a20.2.2.1 k (by omega), r20.2.2.2.1, fun _ => r20.2.2.2.2⟩
  have b12 : CDt V12 g R := ⟨hd7.1.fx f12 (fun f j y => by have := y.2; omega) w2, hd7.2.1.fro (by rw [f12.l]) (fun f hf => funext fun j => f12.i (fun y => by have := y.2; omega)), by rw [CDc, f12.i (fun y => by have := y.2; omega), f12.i (fun y => by have := y.2; omega), f12.i (fun y => by have := y.2; omega)]; exact hd7.2.2⟩
  have b20 := b12.dd d1220
  have c13 : vI V20 g 13 (24 + tcR R 3) = nI (ubR R) := by
    rw [d1220.1.i (fun y => by rcases y with ⟨y, _⟩ | ⟨_, y⟩; exact g0 y; omega), e12, wrI_at]; exact u7
  refine hy _ _ e1 V31 (((fr16.trans r20.st).trans (f25.st g0 (fun a f j y => ⟨y.1, by have := y.2; omega⟩))).trans (f31.st g0 (fun a f j y => ⟨y.1, by have := y.2; omega⟩))) ⟨sv ||| svx T (lku (tcR R) (nmR R)) (i2 + 1) i4, ?_⟩ ⟨?_, ?_, ?_⟩
  · rw [nbR_add, ubR_add]
    exact s25.gen f31 (fun a f j y => Or.inr (Or.inr ⟨y.1, fun w => by have := y.2; omega⟩)) n31
  · refine CDb.add ((b20.1.fx f25 (fun f j y => by have := y.2; omega) w2).fx f31 (fun f j y => by have := y.2; omega) w2) (fun y => absurd y (by decide : (3 : Nat) ≠ 0)) (fun y => absurd y (by decide : (3 : Nat) ≠ 2)) (fun _ => ?_)
    refine PtC_new a16 a20 (fun k => by rw [f31.i (fun y => by have := y.2; omega), f25.i (fun y => by have := y.2; omega)]) (fun k => by rw [f31.i (fun y => by have := y.2; omega), f25.i (fun y => by have := y.2; omega)]) ?_ ?_ ?_
    · rw [f31.i (fun y => by have := y.2; omega), e25, wrI_ne (fun y => by omega), wrI_at]; rfl
    · rw [f31.i (fun y => by have := y.2; omega), f25.i (fun y => by have := y.2; omega)]; exact c13
    · rw [f31.i (fun y => by have := y.2; omega), e25, wrI_ne (fun y => by omega), wrI_ne (fun y => by omega), wrI_at]
  · refine Sp.ne (b20.2.1.fro (by rw [f31.l, f25.l]) (fun f hf => funext fun j => ?_)) (by decide : (3 : Nat) ≠ 1)
    rw [f31.i (fun y => by have := y.2; omega), f25.i (fun y => by have := y.2; omega)]
  · have k9 : ∀ j, vI V31 g 9 j = vI V25 g 9 j := fun j => f31.i (fun y => by have := y.2; omega)
    refine ⟨?_, ?_, ?_⟩
    · rw [k9, f25.i (fun y => by have := y.2; omega)]; exact b20.2.2.1.ne (by decide : (3 : Nat) ≠ 2)
    · rw [k9, f25.i (fun y => by have := y.2; omega), tcR_ne (r := mkS 3 T R i [x] (i2 + 1) i4 (svx T (MR R) (i2 + 1) i4) C N) (s := 2) (by decide : (3 : Nat) ≠ 2)]; exact b20.2.2.2.1
    · rw [k9, e25, wrI_at, tcR_same (s := 3) rfl]
theorem cs_rule {K : Int32 → VH → Prop} (hE : eFr E) (h0 : 160 < d) (h : CS V g T L (tcR R) (nmR R) i 0 (nbR R) (ubR R) sv) (hd : CDt V g R) (hw : WR T F L R i) (hFl : 8 * L + 7 < F) (c : (T i).1 = 303) (hS : StH V g T L R (stR T R F i) K) : vMI E d M_X5_ruleStatement [sl 0 7] V K := by
  obtain ⟨he, hy⟩ := hS
  obtain ⟨g0, g6⟩ := h.g0
  obtain ⟨_, _, ni, ui⟩ := h.2.2.2.2.2.2.1
  refine w_X5_ruleStatement_0 (by omega) (cs_newName (s := 2) (most := 24) (by omega) h (by omega) (by omega) (by decide) (by decide) (fun e z V1 f1 t1 => ⟨fun _ => he e (by unfold stR; rw [z]; rfl) V1 f1 t1, fun q => absurd rfl q⟩) (fun z V1 d1 s1 ky pl => ⟨fun q => absurd q (by decide), fun _ => ?_⟩))
  have e1 : stR T R F i = (if (T (i + 2)).1 = 304 then nrB (nmr T false 0 2 (i + 2 + 1)) (fun i2 x => if x = 0 ∧ 12 ≤ hdR R then .inl (6, (T (i2 - 1)).f) else if (T i2).1 = 42 then nrB (nmr T false 1 1000 (i2 + 1)) (fun i3 w => stB T R F 2 0 i [x, w] i3) else .inl (rfe T i2)) else .inl (rfe T (i + 2))) := by unfold stR; rw [z]; rfl
  obtain ⟨q1, q2, q3, q4⟩ := nwn_inr z
  refine cs_accept (c := 304) (by omega) s1 (by decide) rfl (fun z1 V3 r3 t3 => ⟨fun q => absurd rfl q, fun _ => he _ (by rw [e1, if_neg z1]) V3 (d1.st.trans r3.st) t3⟩) (fun z1 V3 r3 s3 a3 => ⟨fun _ => ?_, fun q => absurd q (by decide)⟩)
  rw [if_pos z1] at e1
  have dt3 : Dtf V V3 g (ubR R) (nbR R) := d1.trans (r3.dd a3)
  refine cs_numeral (sg := false) (lo := 0) (hi := 2) (by omega) s3 (by decide) (by decide) (fun e z2 V5 r5 t5 => ⟨fun q => absurd rfl q, fun _ => he e (by rw [e1, z2]; rfl) V5 (dt3.st.trans r5.st) t5⟩) (fun i2 x z2 V5 r5 s5 a5 x5 p5 li2 _ _ _ => ⟨fun _ => ?_, fun q => absurd q (by decide)⟩)
  rw [z2] at e1
  have e1 : stR T R F i = (if x = 0 ∧ 12 ≤ hdR R then .inl (6, (T (i2 - 1)).f) else if (T i2).1 = 42 then nrB (nmr T false 1 1000 (i2 + 1)) (fun i3 w => stB T R F 2 0 i [x, w] i3) else .inl (rfe T i2)) := e1
  have dt5 : Dtf V V5 g (ubR R) (nbR R) := dt3.trans (r5.dd a5)
  have hd5 := hd.dd dt5
  have ky5 : vJ V5 0 7 3 = (T (i + 1)).2.1 := by rw [(r5.2.2.1 3 (by omega)).2, (r3.2.2.1 3 (by omega)).2]; exact ky
  have w2 : tcR R 2 ≤ 24 := hw.1 2 (by decide)
  -- behind the level
  have rest : ¬ (x = 0 ∧ 12 ≤ hdR R) → vwp E d M_X5_ruleStatement 73 [some (sl 0 7), some (wi x), none, none] [] V5 (zi K) := by
    intro ok
    rw [if_neg ok] at e1
    refine w_X5_ruleStatement_73 (by omega) (cs_accept (c := 42) (by omega) s5 (by decide) rfl (fun z3 V6 r6 t6 => ⟨fun _ => he _ (by rw [e1, if_neg z3]) V6 (dt5.st.trans r6.st) t6, fun q => absurd rfl q⟩) (fun z3 V6 r6 s6 a6 => ⟨fun q => absurd q (by decide), fun _ => ?_⟩))
    rw [if_pos z3] at e1
    have dt6 : Dtf V V6 g (ubR R) (nbR R) := dt5.trans (r6.dd a6)
    refine cs_numeral (sg := false) (lo := 1) (hi := 1000) (by omega) s6 (by decide) (by decide) (fun e z4 V7 r7 t7 => ⟨fun _ => he e (by rw [e1, z4]; rfl) V7 (dt6.st.trans r7.st) t7, fun q => absurd rfl q⟩) (fun i3 w z4 V7 r7 s7 a7 w7 _ li3 _ _ _ => ⟨fun q => absurd q (by decide), fun _ => ?_⟩)
    rw [z4] at e1
    have e1 : stR T R F i = stB T R F 2 0 i [x, w] i3 := e1
    have dt7 : Dtf V V7 g (ubR R) (nbR R) := dt6.trans (r7.dd a7)
    refine cs_acceptF (c := 58) (by omega) s7 (by decide) rfl (fun z5 V8 r8 t8 => ⟨fun q => absurd rfl q, fun _ => he _ (by rw [e1]; unfold stB; rw [if_neg z5]) V8 (dt7.st.trans r8.st) t8⟩) (fun z5 V8 k8 r8 s8 a8 => ⟨fun _ => ?_, fun q => absurd q (by decide)⟩)
    have dt8 : Dtf V V8 g (ubR R) (nbR R) := dt7.trans (r8.dd a8)
    have nc := s8.1.2.2.2.2.2.2
    have w8 : vI V8 0 7 5 = w := by rw [k8]; exact w7
    rw [s8.1.1, show Int32.toNatClampNeg 2 = 2 from rfl, (nc.1 2 (by decide)).1, w8]
    refine ⟨s8.1.2.2.1, fun V9 e9 => ?_⟩
    obtain ⟨r9, s9, a9⟩ := s8.seen e9
    have dt9 : Dtf V V9 g (ubR R) (nbR R) := dt8.trans (r9.dd a9)
    rw [s9.1.2.1]
    refine ⟨s9.1.2.2.1, cj_begin s9.1.2.2.1 (by omega) (fun V12 e12 => ?_)⟩
    have nc9 := s9.1.2.2.2.2.2.2
    have f12 : Fc V9 V12 (fun a f j => a = g ∧ f = 13 ∧ j = tcR R 2) := by rw [e12]; exact Fc_wrI ⟨rfl, rfl, rfl⟩
    have s12 := s9.gen f12 (fun a f j y => Or.inr (Or.inr ⟨y.1, fun w => by have := y.2.1; omega⟩)) (nc9.fc f12 (fun f j hf y => by have := y.2.1; omega))
    have u9 : vI V9 g 9 10 = nI (ubR R) := s9.2.2.2.2.2.2.1.2.1
    have hd9 := hd.dd dt9
    have fr12 : Sfr V V12 g := dt9.st.trans (f12.st g0 (fun a f j y => ⟨y.1, by have := y.2; omega⟩))
    refine prsC hE F 0 0 0 (Or.inl (by decide)) (fun _ => rfl) (fun y => absurd y (by decide)) (d - 1) (i3 + 1) (nbR R) (ubR R) 0 V12 0 _ (by show 10 + 10 * 13 + 8 ≤ d - 1; omega) s12 (by omega) (by omega) (by have : rnk 0 = 7 := rfl; omega) ⟨0, Nat.zero_le _, rfl⟩ (fun e z16 V16 r16 t16 => ⟨fun _ => he e (by rw [e1]; exact stB_e z5 z16) V16 (fr12.trans r16.st) t16, fun q => absurd rfl q⟩) (fun i4 C N z16 V16 r16 s16 a16 l4 => ⟨fun q => absurd q (by decide), fun _ => ?_⟩)
    have e1 := e1.trans (stB_n z5 z16)
    have fr16 : Sfr V V16 g := fr12.trans r16.st
    refine cs_accept (c := 59) (by omega) s16 (by decide) rfl (fun z6 V20 r20 t20 => ⟨fun q => absurd rfl q, fun _ => he _ (by rw [e1, if_neg z6]) V20 (fr16.trans r20.st) t20⟩) (fun z6 V20 r20 s20 a20 => ⟨fun _ => ?_, fun q => absurd q (by decide)⟩)
    rw [if_pos z6] at e1
    rw [s20.1.2.1]
    refine ⟨s20.1.2.2.1, cj_finish s20.1.2.2.1 (by omega) (fun V24 e24 => ?_)⟩
    have u20 : vI V20 g 9 10 = nI (ubR R + 2 * C.length) := s20.2.2.2.2.2.2.1.2.1
    rw [u20] at e24
    have f24 : Fc V20 V24 (fun a f j => a = g ∧ (f = 14 ∨ f = 10) ∧ j = tcR R 2) := by
      rw [e24]
      exact (Fc_wrI ⟨rfl, Or.inl rfl, rfl⟩).trans (Fc_wrI ⟨rfl, Or.inr rfl, rfl⟩)
    have nc20 := s20.1.2.2.2.2.2.2
    have nc24 := nc20.fc f24 (fun f j hf y => by have := y.2; omega)
    have s24 := s20.gen f24 (fun a f j y => Or.inr (Or.inr ⟨y.1, fun w => by have := y.2; omega⟩)) nc24
    have sv24 : vI V24 0 7 8 = 0 ||| svx T (lku (tcR R) (nmR R)) (i3 + 1) i4 := s24.2.2.2.2.2.1
    rw [s24.1.2.1, sv24, Int32.zero_or]
    refine ⟨s24.1.2.2.1, cj_describe s24.1.2.2.1 (by omega) (fun V30 f30 p11 p12 p90 p91 => ?_)⟩
    have nc30 := nc24.fc f30 (fun f j hf y => by have := y.2; omega)
    have s30 := s24.gen f30 (fun a f j y => Or.inr (Or.inr ⟨y.1, fun w => by have := y.2; omega⟩)) nc30
    have ky30 : vJ V30 0 7 3 = (T (i + 1)).2.1 := by rw [f30.j (fun y => g0 y.1.symm), f24.j (fun y => g0 y.1.symm), (r20.2.2.1 3 (by omega)).2, (r16.2.2.1 3 (by omega)).2, f12.j (fun y => g0 y.1.symm), (r9.2.2.1 3 (by omega)).2, (r8.2.2.1 3 (by omega)).2, (r7.2.2.1 3 (by omega)).2, (r6.2.2.1 3 (by omega)).2]; exact ky5
    rw [s30.1.1, ky30]
    refine ⟨s30.1.2.2.1, ?_⟩
    refine c_tell (s := 2) (tc' := tcR (R ++ [mkS 2 T R i [x, w] (i3 + 1) i4 (svx T (MR R) (i3 + 1) i4) C N])) (nm' := nmR (R ++ [mkS 2 T R i [x, w] (i3 + 1) i4 (svx T (MR R) (i3 + 1) i4) C N])) s30.1.2.2.1 nc30 (by decide) (by omega) (tcR_same rfl) (fun u hu => tcR_ne (Ne.symm hu)) (by unfold nmR; rw [gtR_new (s := 2) rfl]; rfl) (fun u k hk => nmR_old hk) (fun V31 f31 n31 => ?_)
    have d1220 : Dtf V12 V20 g (ubR R) (nbR R) := (r16.dd a16).trans ⟨(r20.dd a20).1, (r20.dd a20).2.1, fun k hk => a20.1 k (by omega), fun k hk => a20.2.2.1 k (by omega), r20.2.2.2.1, fun _ => r20.2.2.2.2⟩
    have b12 : CDt V12 g R := ⟨hd9.1.fx f12 (fun f j y => by have := y.2; omega) w2, hd9.2.1.fro (by rw [f12.l]) (fun f hf => funext fun j => f12.i (fun y => by have := y.2; omega)), by rw [CDc, f12.i (fun y => by have := y.2; omega), f12.i (fun y => by have := y.2; omega), f12.i (fun y => by have := y.2; omega)]; exact hd9.2.2⟩
    have b20 := b12.dd d1220
    have c13 : vI V20 g 13 (tcR R 2) = nI (ubR R) := by
      rw [d1220.1.i (fun y => by rcases y with ⟨y, _⟩ | ⟨_, y⟩; exact g0 y; omega), e12, wrI_at]; exact u9
    have k31 : ∀ f j, f ≠ 3 → f ≠ 4 → vI V31 g f j = vI V30 g f j := fun f j h1 h2 => f31.i (fun y => by have := y.2; omega)
    have k30 : ∀ f j, f ≠ 9 → f ≠ 11 → f ≠ 12 → vI V30 g f j = vI V24 g f j := fun f j h1 h2 h3 => f30.i (fun y => by have := y.2; omega)
    have k24 : ∀ f j, f ≠ 10 → f ≠ 14 → vI V24 g f j = vI V20 g f j := fun f j h1 h2 => f24.i (fun y => by have := y.2; omega)
    have x24 : vI V24 g 10 (tcR R 2) = x := by rw [e24, wrI_at]
    refine hy _ _ e1 V31 ((((fr16.trans r20.st).trans (f24.st g0 (fun a f j y => ⟨y.1, by have := y.2; omega⟩))).trans (f30.st g0 (fun a f j y => ⟨y.1, by have := y.2; omega⟩))).trans (f31.st g0 (fun a f j y => ⟨y.1, by have := y.2; omega⟩))) ⟨0 ||| svx T (lku (tcR R) (nmR R)) (i3 + 1) i4, ?_⟩ ⟨?_, ?_, ?_⟩
    · rw [nbR_add, ubR_add]
      exact s30.gen f31 (fun a f j y => Or.inr (Or.inr ⟨y.1, fun w => by have := y.2; omega⟩)) n31
    · refine CDb.add (((b20.1.fx f24 (fun f j y => by have := y.2; omega) w2).fx f30 (fun f j y => by have := y.2; omega) w2).fx f31 (fun f j y => by have := y.2; omega) w2) (fun y => absurd y (by decide : (2 : Nat) ≠ 0)) (fun _ => ⟨?_, ?_, ?_⟩) (fun y => absurd y (by decide : (2 : Nat) ≠ 3))
      · refine PtC_new a16 a20 (fun k => by rw [k31 15 k (by omega) (by omega), k30 15 k (by omega) (by omega) (by omega), k24 15 k (by omega) (by omega)]) (fun k => by rw [k31 16 k (by omega) (by omega), k30 16 k (by omega) (by omega) (by omega), k24 16 k (by omega) (by omega)]) ?_ ?_ ?_
        · rw [k31 10 _ (by omega) (by omega), k30 10 _ (by omega) (by omega) (by omega)]; exact x24
        · rw [k31 13 _ (by omega) (by omega), k30 13 _ (by omega) (by omega) (by omega), k24 13 _ (by omega) (by omega)]; exact c13
        · rw [k31 14 _ (by omega) (by omega), k30 14 _ (by omega) (by omega) (by omega), e24, wrI_ne (fun y => by omega), wrI_at]
      · rw [k31 11 _ (by omega) (by omega)]; exact p11
      · rw [k31 12 _ (by omega) (by omega)]; exact p12
    · refine Sp.ne (b20.2.1.fro (by rw [f31.l, f30.l, f24.l]) (fun f hf => funext fun j => ?_)) (by decide : (2 : Nat) ≠ 1)
      rw [k31 f j (by omega) (by omega), k30 f j (by omega) (by omega) (by omega), k24 f j (by omega) (by omega)]
    · refine ⟨?_, ?_, ?_⟩
      · rw [k31 9 _ (by omega) (by omega), p90, x24, k24 9 _ (by omega) (by omega)]
        exact b20.2.2.1.rule (r := mkS 2 T R i [x, w] (i3 + 1) i4 (svx T (MR R) (i3 + 1) i4) C N) rfl (by omega)
      · rw [k31 9 _ (by omega) (by omega), p91, tcR_same (s := 2) rfl]
      · rw [k31 9 _ (by omega) (by omega), f30.i (fun y => by have := y.2; omega), k24 9 _ (by omega) (by omega), tcR_ne (r := mkS 2 T R i [x, w] (i3 + 1) i4 (svx T (MR R) (i3 + 1) i4) C N) (s := 3) (by decide : (2 : Nat) ≠ 3)]; exact b20.2.2.2.2
  rw [x5]
  refine ⟨fun q => rest (fun y => q y.1), fun q => ?_⟩
  rw [s5.1.2.1]
  refine ⟨s5.1.2.2.1, c_bitCount ?_⟩
  rw [hd5.2.2.1.2]
  have h12 : hdR R ≤ 12 := hw.2.2.2.2.1
  refine ⟨fun y => rest (fun u => absurd ((nI_ltI (b := 12) (by omega) (by decide)).mp y) (by omega)), fun y => ?_⟩
  rw [if_pos ⟨q, by have := mt (nI_ltI (b := 12) (by omega) (by decide)).mpr y; omega⟩] at e1
  exact cs_fail s5 rfl p5 (fun V' a b => ⟨Or.inl rfl, he _ e1 V' (dt5.st.trans a.st) b⟩)
end
