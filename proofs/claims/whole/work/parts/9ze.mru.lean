/-! the reference reads vars, rules and aims -/
section
variable {E : EE} {d : Nat} {V V' : VH} {p : Nat} {t : Nat → Int32} {n : Nat} {i : Nat} {R : List SR} {r : SR} {F : Nat}
theorem mt_p {f : Nat} (h : f = 9 ∨ f = 11 ∨ f = 22 ∨ f = 23) : mtS p 6 f p := ⟨rfl, Or.inr (Or.inr (Or.inl ⟨h, rfl⟩))⟩
theorem mt_v {f j : Nat} (h : f = 16 ∨ f = 19 ∨ f = 20 ∨ f = 21) (h1 : 12 * p ≤ j) (h2 : j < 12 * p + 12) : mtS p 6 f j := ⟨rfl, Or.inr (Or.inr (Or.inr (Or.inr (Or.inr (Or.inr (Or.inr (Or.inl ⟨h, h1, h2⟩)))))))⟩
theorem mt_18 {j : Nat} (h1 : 240 * p ≤ j) (h2 : j < 240 * p + 240) : mtS p 6 18 j := ⟨rfl, Or.inr (Or.inr (Or.inr (Or.inr (Or.inr (Or.inr (Or.inr (Or.inr (Or.inl ⟨rfl, h1, h2⟩))))))))⟩
theorem mt_r {f j : Nat} (h : f = 24 ∨ f = 25 ∨ f = 26) (h1 : 24 * p ≤ j) (h2 : j < 24 * p + 24) : mtS p 6 f j := ⟨rfl, Or.inr (Or.inr (Or.inr (Or.inr (Or.inr (Or.inr (Or.inr (Or.inr (Or.inr (Or.inl ⟨h, h1, h2⟩)))))))))⟩
theorem mt_a {f j : Nat} (h : f = 27 ∨ f = 28) (h1 : 6 * p ≤ j) (h2 : j < 6 * p + 6) : mtS p 6 f j := ⟨rfl, Or.inr (Or.inr (Or.inr (Or.inr (Or.inr (Or.inr (Or.inr (Or.inr (Or.inr (Or.inr (Or.inl ⟨h, h1, h2⟩))))))))))⟩
/-- the number that is read -/
theorem nmr_num {T : Nat → TK} {lo hi j i2 : Nat} {x : Int32} (w : nmr T false lo hi j = .inr (i2, x)) : (T j).1 = 2 ∧ i2 = j + 1 ∧ x = nI (T j).2.2.1 ∧ lo ≤ (T j).2.2.1 ∧ (T j).2.2.1 ≤ hi := by
  unfold nmr at w
  have e0 : nmj T false j = j := by unfold nmj; rw [if_neg (fun z => absurd z.1 (by decide))]
  rw [e0] at w
  by_cases c2 : (T j).1 = 2
  · rw [if_pos c2] at w
    by_cases c3 : (T j).2.2.1 < lo ∨ hi < (T j).2.2.1
    · rw [if_pos c3] at w; exact (ncI w).elim
    · rw [if_neg c3, if_pos rfl] at w
      have w := Sum.inr.inj w
      exact ⟨c2, (congrArg Prod.fst w).symm, (congrArg Prod.snd w).symm, by omega, by omega⟩
  · rw [if_neg c2] at w; exact (ncI w).elim
theorem md_aRange {K : Int32 → VH → Prop} (h0 : 2 < d) (h : ¬ vI V 6 0 45 = 0) (hk : K 0 V) : vMI E d M_X12_aRange [sl 6 0] V K := w_X12_aRange_0 (by omega) (md_anInt (by omega) h (md_need (by omega) h (md_isMinus (by omega) h ⟨fun q => absurd q h, fun _ => hk⟩)))
/-- rows of statements, over what reading leaves -/
theorem MDb.g (h : MDb V p R) (g : ∀ f j, 15 ≤ f → f ≤ 28 → vI V' 6 f j = vI V 6 f j) : MDb V' p R := by
  obtain ⟨a1, a2, a5, a6⟩ := h
  exact ⟨fun j hj => by rw [g 15 _ (by omega) (by omega)]; exact a1 j hj, fun v hv => by rw [g 16 _ (by omega) (by omega), g 19 _ (by omega) (by omega), g 20 _ (by omega) (by omega), g 21 _ (by omega) (by omega)]; exact ⟨(a2 v hv).1, (a2 v hv).2.1, (a2 v hv).2.2.1, (a2 v hv).2.2.2.1, fun k hk => by rw [g 18 _ (by omega) (by omega)]; exact (a2 v hv).2.2.2.2 k hk⟩, fun j hj => by rw [g 24 _ (by omega) (by omega), g 25 _ (by omega) (by omega), g 26 _ (by omega) (by omega)]; exact a5 j hj, fun j hj => by rw [g 27 _ (by omega) (by omega), g 28 _ (by omega) (by omega)]; exact a6 j hj⟩
/-- rows from 10 on, but the list, stay while tokens are read -/
theorem NwM.g {V1 V7 : VH} {s i' : Nat} (hN : NwM V V1 p t n R s i 0) (m : ML V1 V7 p t n (tcR R) (nmR R) (i + 1) (.inr i')) : (∀ f j, 10 ≤ f → f ≠ 34 → vI V7 6 f j = vI V 6 f j) ∧ vI V7 6 0 50 = nI (tkT t n i).f ∧ vI V7 6 0 51 = nI ((tkT t n i).e - (tkT t n i).f) := by
  obtain ⟨_, _, _, _, n50, n51, ng⟩ := hN
  exact ⟨fun f j h1 h2 => by rw [m.1.i (fun y => by rcases y with y | y; have := y.2; omega; have := y.2; omega), ng f j h1], by rw [m.1.i (fun y => by rcases y with y | y; have := y.2; omega; have := y.2; omega)]; exact n50, by rw [m.1.i (fun y => by rcases y with y | y; have := y.2; omega; have := y.2; omega)]; exact n51⟩
/-- cells of a var that is added -/
def vrS (p k : Nat) : Nat → Nat → Nat → Prop := fun a f j => a = 6 ∧ (f = 18 ∧ 20 * (12 * p + k) ≤ j ∧ j < 20 * (12 * p + k) + 20 ∨ (f = 16 ∨ f = 19 ∨ f = 20 ∨ f = 21) ∧ j = 12 * p + k ∨ f = 22 ∧ j = p)
theorem vrS_mt {k a f j : Nat} (hk : k < 12) (h : vrS p k a f j) : mtS p a f j := by
  obtain ⟨rfl, ⟨rfl, h1, h2⟩ | ⟨h, rfl⟩ | ⟨rfl, rfl⟩⟩ := h
  · exact mt_18 (by omega) (by omega)
  · exact mt_v h (by omega) (by omega)
  · exact mt_p (by omega)
/-- the values are copied, and the var is told -/
theorem var_end {K : VH → Prop} {vs : List Int32} {k pl : Nat} {x1 : Int32} (hp : p < 5) (hk : k < 12) (h20 : vs.length ≤ 20) (h47 : vI V 6 0 47 = nI p) (h22 : vI V 6 22 p = nI pl) (hl : ∀ u, u < vs.length → vI V 6 34 u = vs.getD u 0) (hK : ∀ V', Fc V V' (vrS p k) → vI V' 6 16 (12 * p + k) = nI vs.length → vI V' 6 19 (12 * p + k) = 0 → vI V' 6 20 (12 * p + k) = 1 → vI V' 6 21 (12 * p + k) = 0 → (∀ u, u < vs.length → vI V' 6 18 (20 * (12 * p + k) + u) = vs.getD u 0) → vI V' 6 22 p = nI (pl * vs.length) → K V') : vwp E d M_X12_varStatement 126 [some (sl 6 0), some (wi x1), some (wi (nI vs.length)), some (wi (nI (12 * p + k))), some (wi (nI 0))] [] V (zv K) := by
  have go : ∀ (m c : Nat) (X : VH), c + m = vs.length → Fc V X (fun a f j => a = 6 ∧ f = 18 ∧ 20 * (12 * p + k) ≤ j ∧ j < 20 * (12 * p + k) + 20) → (∀ u, u < c → vI X 6 18 (20 * (12 * p + k) + u) = vs.getD u 0) → vwp E d M_X12_varStatement 126 [some (sl 6 0), some (wi x1), some (wi (nI vs.length)), some (wi (nI (12 * p + k))), some (wi (nI c))] [] X (zv K) := by
    intro m
    induction m with
    | succ m ih =>
      intro c X ec fX vX
      have e20 : (20 : Int32) * nI (12 * p + k) + nI c = nI (20 * (12 * p + k) + c) := by rw [show (20 : Int32) = nI 20 from rfl, nI_mul, nI_add]
      refine w_X12_varStatement_126 ⟨fun y => absurd y (nI_ge (by omega) (by omega)), fun _ => ?_⟩
      rw [e20, nI_clamp (show c < 2 ^ 31 by omega), nI_clamp (show 20 * (12 * p + k) + c < 2 ^ 31 by omega), fX.i (fun y => by have := y.2; omega), hl c (by omega), nI_1]
      refine ⟨vp_in_nI (by omega) (by decide), vp_in_nI (by omega) (by decide), fun V14 e14 => ih (c + 1) V14 (by omega) (fX.trans (by rw [e14]; exact Fc_wrI ⟨rfl, rfl, by omega, by omega⟩)) (fun u hu => ?_)⟩
      by_cases y : u = c
      · subst y; rw [e14, wrI_at]
      · rw [e14, wrI_ne (fun w => by omega)]; exact vX u (by omega)
    | zero =>
      intro c X ec fX vX
      refine w_X12_varStatement_126 ⟨fun _ => ?_, fun y => absurd (nI_le (by omega) (by omega)) y⟩
      rw [nI_clamp (show 12 * p + k < 2 ^ 31 by omega)]
      refine ⟨vp_in_nI (by omega) (by decide), fun X2 d2 => ⟨vp_in_nI (by omega) (by decide), fun X4 d4 => ⟨vp_in_nI (by omega) (by decide), fun X6 d6 => ⟨vp_in_nI (by omega) (by decide), fun X8 d8 => ?_⟩⟩⟩⟩
      have c8 : Fc X X8 (fun a f j => a = 6 ∧ (f = 16 ∨ f = 19 ∨ f = 20 ∨ f = 21) ∧ j = 12 * p + k) := by
        rw [d8, d6, d4, d2]
        exact (((Fc_wrI ⟨rfl, by omega, rfl⟩).trans (Fc_wrI ⟨rfl, by omega, rfl⟩)).trans (Fc_wrI ⟨rfl, by omega, rfl⟩)).trans (Fc_wrI ⟨rfl, by omega, rfl⟩)
      have p8 : vI X8 6 0 47 = nI p := by rw [c8.i (fun y => by have := y.2; omega), fX.i (fun y => by have := y.2; omega)]; exact h47
      have pl8 : vI X8 6 22 p = nI pl := by rw [c8.i (fun y => by have := y.2; omega), fX.i (fun y => by have := y.2; omega)]; exact h22
      rw [p8, nI_clamp (show p < 2 ^ 31 by omega), pl8, nI_mul]
      refine ⟨vp_in_nI hp (by decide), vp_in_nI hp (by decide), fun X11 d11 => ?_⟩
      have c11 : Fc X8 X11 (fun a f j => a = 6 ∧ f = 22 ∧ j = p) := by rw [d11]; exact Fc_wrI ⟨rfl, rfl, rfl⟩
      have x11 : ∀ f j, f ≠ 22 → vI X11 6 f j = vI X8 6 f j := fun f j hf => c11.i (fun y => hf y.2.1)
      refine hK X11 (((fX.mono (fun a f j y => ⟨y.1, Or.inl y.2⟩)).trans (c8.mono (fun a f j y => ⟨y.1, Or.inr (Or.inl y.2)⟩))).trans (c11.mono (fun a f j y => ⟨y.1, Or.inr (Or.inr y.2)⟩))) ?_ ?_ ?_ ?_ (fun u hu => ?_) ?_
      · rw [x11 16 _ (by omega), d8, wrI_ne (fun y => by omega), d6, wrI_ne (fun y => by omega), d4, wrI_ne (fun y => by omega), d2, wrI_at]
      · rw [x11 19 _ (by omega), d8, wrI_ne (fun y => by omega), d6, wrI_ne (fun y => by omega), d4, wrI_at]
      · rw [x11 20 _ (by omega), d8, wrI_ne (fun y => by omega), d6, wrI_at]
      · rw [x11 21 _ (by omega), d8, wrI_at]; rfl
      · rw [x11 18 _ (by omega), c8.i (fun y => by have := y.2; omega)]; exact vX u (by omega)
      · rw [d11, wrI_at]
  exact go vs.length 0 V (Nat.zero_add _) Fc.refl (fun u hu => absurd hu (Nat.not_lt_zero u))
theorem ms_var {K : VH → Prop} (hF : eFr E) (h0 : 20 < d) (h : MZ V p t n (tcR R) (nmR R) (i + 1) 0) (hn : n ≤ 20000) (hX : TxM V p t n) (hK : Kpt V p (tkT t n) (MR R) 0 (i + 1)) (hD : MDt V p R) (hw : WR (tkT t n) F (tln t n) R i) (hS : MStH V p t n R (stV (tkT t n) R i) K) : vMV E d M_X12_varStatement [sl 6 0] V K := by
  obtain ⟨he, hy⟩ := hS
  have hp := h.1.2.2.1
  -- behind a fault
  have dead96 : ∀ (W : VH) (x1 x2 : Int32) (e : Nat × Nat), stV (tkT t n) R i = .inl e → Fc V W (mfS p) → Wrg W e → vwp E d M_X12_varStatement 96 [some (sl 6 0), some (wi x1), some (wi x2), none, none] [] W (zv K) := fun W x1 x2 e z f w => w_X12_varStatement_96 (by omega) (md_need (by omega) w.dead ⟨fun _ => he e z W f w, fun q => absurd q w.dead⟩)
  have dead46 : ∀ (W : VH) (x1 t0 : Int32) (e : Nat × Nat), stV (tkT t n) R i = .inl e → Fc V W (mfS p) → Wrg W e → vwp E d M_X12_varStatement 46 [some (sl 6 0), some (wi x1), none, none, none] [wi t0] W (zv K) := fun W x1 t0 e z f w => w_X12_varStatement_46 ⟨fun _ => dead96 W x1 t0 e z f w, fun q => absurd q w.dead⟩
  have dead42 : ∀ (W : VH) (x1 : Int32) (e : Nat × Nat), stV (tkT t n) R i = .inl e → Fc V W (mfS p) → Wrg W e → vwp E d M_X12_varStatement 42 [some (sl 6 0), some (wi x1), none, none, none] [] W (zv K) := fun W x1 e z f w => w_X12_varStatement_42 (by omega) (md_aRange (by omega) w.dead (dead46 W x1 0 e z f w))
  refine w_X12_varStatement_0 (by omega) (ms_newName (s := 1) (most := 12) hF (by omega) h (by decide) (by decide) (hw.1 1 (by decide)) (fun e z V1 f1 w1 => md_need (by omega) w1.dead ⟨fun _ => dead42 V1 _ e (by unfold stV; rw [z]; rfl) f1 w1, fun q => absurd q w1.dead⟩) (fun z V1 m1 => ?_))
  have e1 : stV (tkT t n) R i = (if (tkT t n (i + 1 + 1)).1 = 302 then nrB (vls (tkT t n) (i + 1 + 1 + 1)) (fun i2 vs => if (tkT t n i2).1 = 59 then (if 20 < vs.length ∨ 20000 < plR R * vs.length then .inl (6, (tkT t n (i + 1)).f) else .inr (i2 + 1, mkS 1 (tkT t n) R i vs 0 0 0 [] [])) else .inl (rfe (tkT t n) i2)) else .inl (rfe (tkT t n) (i + 1 + 1))) := by unfold stV; rw [z]; rfl
  obtain ⟨_, q2, q3, q4⟩ := nwn_inr z
  have f1 := m1.1
  refine ms_need (c := 302) hF (by omega) m1.2.1 rfl (by decide) (by decide) (fun V3 m3 => ?_)
  unfold nee at m3
  rw [m1.2.2.2.2.1]
  by_cases c302 : (tkT t n (i + 1 + 1)).1 = 302
  rotate_left
  · rw [if_neg c302] at m3 e1
    exact ⟨fun _ => dead42 V3 _ _ e1 (f1.trans m3.mt) m3.wrg, fun q => absurd q m3.dead⟩
  rw [if_pos c302] at m3 e1
  have s3 := m3.2.1
  have f3 := f1.trans m3.mt
  -- behind the values
  have rest : VmH V3 p t n (tcR R) (nmR R) (i + 1 + 1 + 1) (vls (tkT t n) (i + 1 + 1 + 1)) (fun x W => vwp E d M_X12_varStatement 46 [some (sl 6 0), some (wi (nI (tkT t n (i + 1)).f)), none, none, none] [wi x] W (zv K)) := by
    refine ⟨fun e w W x mW => dead46 W _ x e (by rw [e1, w]; rfl) (f3.trans mW.mt) mW.2, fun i2 vs w W mW lW l199 => ?_⟩
    rw [w] at e1
    have e1 : stV (tkT t n) R i = (if (tkT t n i2).1 = 59 then (if 20 < vs.length ∨ 20000 < plR R * vs.length then .inl (6, (tkT t n (i + 1)).f) else .inr (i2 + 1, mkS 1 (tkT t n) R i vs 0 0 0 [] [])) else .inl (rfe (tkT t n) i2)) := e1
    have sW := mW.2.1
    have fW := f3.trans mW.mt
    have m1W : ML V1 W p t n (tcR R) (nmR R) (i + 1 + 1) (.inr i2) := m3.ml.tr mW
    obtain ⟨gW, g50, g51⟩ := m1.g m1W
    obtain ⟨_, b2, _, _⟩ := vls_ok ⟨(tln_ok t n).2.1, (tln_ok t n).2.2⟩ s3.2.2.2.1 w
    have k59 := sW.is 59 (by decide)
    refine w_X12_varStatement_46 ⟨fun q => absurd sW.2.1 q, fun _ => ⟨fun q => ?_, fun q => ?_⟩⟩
    · have c59 : ¬ (tkT t n i2).1 = 59 := fun y => q (k59.mpr y)
      rw [if_neg c59] at e1
      refine w_X12_varStatement_96 (by omega) (ms_need (c := 59) hF (by omega) sW rfl (by decide) (by decide) (fun V7 m7 => ?_))
      unfold nee at m7
      rw [if_neg c59] at m7
      exact ⟨fun _ => he _ e1 V7 (fW.trans m7.mt) m7.wrg, fun q => absurd q m7.dead⟩
    have c59 := k59.mp q
    rw [if_pos c59] at e1
    have bad : (20 < vs.length ∨ 20000 < plR R * vs.length) → vwp E d M_X12_varStatement 89 [some (sl 6 0), some (wi (nI (tkT t n (i + 1)).f)), some (wi (nI vs.length)), none, none] [] W (zv K) := fun y => by
      rw [if_pos y] at e1
      exact w_X12_varStatement_89 (by omega) (ms_fail sW rfl rfl (by decide) (by decide) (fun V7 m7 => dead96 V7 _ _ _ e1 (fW.trans m7.mt) m7.wrg))
    have pl : vI W 6 22 p = nI (plR R) := by rw [gW 22 _ (by omega) (by omega)]; exact hD.2.1
    have p20 := hw.2.2.2.1
    refine ⟨fun y => bad (Or.inl ((nI_ltI (a := 20) (by decide) (by omega)).mp y)), fun y => ?_⟩
    have n20 : ¬ 20 < vs.length := fun u => y ((nI_ltI (a := 20) (by decide) (by omega)).mpr u)
    have pb : plR R * vs.length ≤ 20000 * 20 := Nat.mul_le_mul p20 (by omega)
    rw [sW.1.2.1, nI_clamp (show p < 2 ^ 31 by omega), pl, i2l_nI (show plR R < 2 ^ 31 by omega), i2l_nI (show vs.length < 2 ^ 31 by omega), nL_mul]
    refine ⟨vp_in_nI hp (by decide), fun y2 => ?_, fun y2 => bad (Or.inr ?_)⟩
    rotate_left
    · exact (nL_lt (a := 20000) (by decide) (by omega)).mp (Int64.not_le.mp y2)
    have ok : ¬ (20 < vs.length ∨ 20000 < plR R * vs.length) := fun u => by
      rcases u with u | u
      · exact n20 u
      · exact absurd ((nL_lt (a := 20000) (by decide) (by omega)).mpr u) (Int64.not_lt.mpr y2)
    rw [if_neg ok] at e1
    refine w_X12_varStatement_96 (by omega) (ms_need (c := 59) hF (by omega) sW rfl (by decide) (by decide) (fun V7 m7 => ?_))
    unfold nee at m7
    rw [if_pos c59] at m7
    have s7 := m7.2.1
    have m17 := m1W.tr m7.ml
    obtain ⟨g7, h50, h51⟩ := m1.g m17
    have f7 := f1.trans m17.mt
    refine ⟨fun q => absurd s7.2.1 q, fun _ => ?_⟩
    obtain ⟨nl, nk, na⟩ := nm_end hX f7 hn q2
    have e12 : (12 : Int32) * nI p + nI (tcR R 1) = nI (12 * p + tcR R 1) := by rw [show (12 : Int32) = nI 12 from rfl, nI_mul, nI_add]
    refine c_tellM (s := 1) (tc' := tcR (R ++ [mkS 1 (tkT t n) R i vs 0 0 0 [] []])) (nm' := nmR (R ++ [mkS 1 (tkT t n) R i vs 0 0 0 [] []])) s7.1.2.1 hp s7.1.2.2.2 (by decide) (by omega) h50 h51 nl (by unfold nmR; rw [gtR_new (s := 1) rfl]; exact nk) na (tcR_same rfl) (fun u hu => tcR_ne (Ne.symm hu)) (fun u k hk => nmR_old hk) (fun V9 f9 n9 => ?_)
    rw [s7.1.2.1, e12]
    have s9 := s7.gen f9 (fun f j y => by have := y.2; omega) n9
    have l9 : ∀ k, k < vs.length → vI V9 6 34 k = vs.getD k 0 := fun k hk => by rw [f9.i (fun y => by have := y.2; omega), m7.1.i (fun y => by have := y.2; omega)]; exact lW k hk
    have b9 : MDb V9 p R := (hD.1.g (fun f j h1 h2 => g7 f j (by omega) (by omega))).fx f9 (fun f j y => by have := y.2; unfold bhS; omega) (fun v hv => (hw.sz hv).2)
    refine var_end (pl := plR R) hp (by omega) (by omega) s9.1.2.1 (by rw [f9.i (fun y => by have := y.2; omega), g7 22 _ (by omega) (by omega)]; exact hD.2.1) l9 (fun X11 c9 v16 v19 v20 v21 v18 v22 => ?_)
    have n11 := n9.fc c9 (fun f j hf y => by have := y.2; omega)
    have s11 := s9.gen c9 (fun f j y => by have := y.2; omega) n11
    refine hy _ _ e1 X11 (((f7.mono (fun a f j y => mfS_mt y)).trans (f9.mono (fun a f j y => tlS_mt y))).trans (c9.mono (fun a f j y => vrS_mt (by omega) y))) s11 (kpt_end hK m1 m17 (S := fun a f j => a = 6 ∧ 12 ≤ f) ((f9.mono (fun a f j y => ⟨y.1, by have := y.2; omega⟩)).trans (c9.mono (fun a f j y => ⟨y.1, by have := y.2; omega⟩))) (fun f j hf y => by omega) hw.2.1 q3 (by decide : (1 : Nat) < 4) rfl q2) ⟨?_, ?_, ?_⟩ (fun f j hf => ?_)
    · exact MDb.add (b9.fx c9 (fun f j y => by have := y.2; unfold bhS; omega) (fun v hv => (hw.sz hv).2)) (fun y => absurd y (by decide : (1 : Nat) ≠ 0)) (fun _ => ⟨v16, v19, v20, v21, v18⟩) (fun y => absurd y (by decide : (1 : Nat) ≠ 2)) (fun y => absurd y (by decide : (1 : Nat) ≠ 3))
    · rw [v22, plR_1 (r := mkS 1 (tkT t n) R i vs 0 0 0 [] []) rfl]; rfl
    · rw [c9.i (fun y => by have := y.2; omega), f9.i (fun y => by have := y.2; omega), g7 23 _ (by omega) (by omega), hdR_add, if_neg (fun y => absurd (of_decide_eq_true y).1 (by decide : (1 : Nat) ≠ 2))]; exact hD.2.2
    · rw [c9.i (fun y => by have := y.2; omega), f9.i (fun y => by have := y.2; omega), g7 f _ (by omega) (by omega)]
  have k123 := s3.is 123 (by decide)
  refine ⟨fun q => absurd s3.2.1 q, fun _ => ⟨fun q => ?_, fun q => ?_⟩⟩
  · have c : ¬ (tkT t n (i + 1 + 1 + 1)).1 = 123 := fun y => q (k123.mpr y)
    unfold vls at rest
    rw [if_neg c] at rest
    exact w_X12_varStatement_42 (by omega) (ms_aRange hF (by omega) s3 rest)
  · have c := k123.mp q
    unfold vls at rest
    rw [if_pos c] at rest
    exact ms_aSet hF (by omega) s3 c rest
theorem rsI_l {x : RS} {e : Nat × Nat} (h : x = .inl e) : rsI x = .inl e := by rw [h]; rfl
theorem rsI_r {x : RS} {q : Nat × CD × List Int32} (h : x = .inr q) : rsI x = .inr q.1 := by rw [h]; rfl
theorem ms_aim {K : VH → Prop} (hF : eFr E) (h0 : 200 < d) (h : MZ V p t n (tcR R) (nmR R) (i + 1) 0) (hn : n ≤ 20000) (hX : TxM V p t n) (hK : Kpt V p (tkT t n) (MR R) 0 (i + 1)) (hD : MDt V p R) (hw : WR (tkT t n) F (tln t n) R i) (hFl : 8 * tln t n + 7 < F) (hS : MStH V p t n R (stA (tkT t n) R F i) K) : vMV E d M_X12_aimStatement [sl 6 0] V K := by
  obtain ⟨he, hy⟩ := hS
  have hp := h.1.2.2.1
  have e47 : ∀ {W : VH}, Fc V W (mfS p) → vI W 6 0 47 = nI p := fun f => by rw [f.i (fun y => by obtain ⟨_, y⟩ := y; omega)]; exact h.1.2.1
  have vp47 : ∀ {W : VH}, Fc V W (mfS p) → vp_in (vI W 6 0 47) 5 := fun f => by rw [e47 f]; exact vp_in_nI hp (by decide)
  refine w_X12_aimStatement_0 (by omega) (ms_newName (s := 3) (most := 6) hF (by omega) h (by decide) (by decide) (hw.1 3 (by decide)) (fun e z V1 f1 w1 => md_need (by omega) w1.dead (md_aNumber (by omega) w1.dead (md_need (by omega) w1.dead ⟨vp47 f1, md_sum (by omega) w1.dead (md_need (by omega) w1.dead ⟨fun _ => he e (by unfold stA; rw [z]; rfl) V1 f1 w1, fun q => absurd q w1.dead⟩)⟩))) (fun z V1 m1 => ?_))
  have e1 : stA (tkT t n) R F i = (if (tkT t n (i + 1 + 1)).1 = 304 then nrB (nmr (tkT t n) false 1 2 (i + 1 + 1 + 1)) (fun i2 x => stB (tkT t n) R F 3 4 i [x] i2) else .inl (rfe (tkT t n) (i + 1 + 1))) := by unfold stA; rw [z]; rfl
  obtain ⟨_, q2, q3, q4⟩ := nwn_inr z
  have f1 := m1.1
  refine ms_need (c := 304) hF (by omega) m1.2.1 rfl (by decide) (by decide) (fun V3 m3 => ?_)
  unfold nee at m3
  by_cases c304 : (tkT t n (i + 1 + 1)).1 = 304
  rotate_left
  · rw [if_neg c304] at m3 e1
    exact md_aNumber (by omega) m3.dead (md_need (by omega) m3.dead ⟨vp47 (f1.trans m3.mt), md_sum (by omega) m3.dead (md_need (by omega) m3.dead ⟨fun _ => he _ e1 V3 (f1.trans m3.mt) m3.wrg, fun q => absurd q m3.dead⟩)⟩)
  rw [if_pos c304] at m3 e1
  have f3 := f1.trans m3.mt
  refine ms_aNumber (lo := 1) (hi := 2) hF (by omega) m3.2.1 rfl rfl (by decide) (by decide) (fun V5 m5 => ?_)
  cases w5 : nmr (tkT t n) false 1 2 (i + 1 + 1 + 1) with
  | inl e =>
    rw [w5] at m5 e1
    have m5 : MO V3 V5 p t n (tcR R) (nmR R) 0 (i + 1 + 1 + 1) (.inl e) := m5
    exact md_need (by omega) m5.dead ⟨vp47 (f3.trans m5.mt), md_sum (by omega) m5.dead (md_need (by omega) m5.dead ⟨fun _ => he e e1 V5 (f3.trans m5.mt) m5.wrg, fun q => absurd q m5.dead⟩)⟩
  | inr q =>
    obtain ⟨i2, x⟩ := q
    rw [w5] at m5 e1
    have m5 : MO V3 V5 p t n (tcR R) (nmR R) 0 (i + 1 + 1 + 1) (.inr i2) := m5
    have e1 : stA (tkT t n) R F i = stB (tkT t n) R F 3 4 i [x] i2 := e1
    obtain ⟨cN, ei2, ex, _, _⟩ := nmr_num w5
    subst ei2
    have x3 : vI V3 6 0 42 = x := (m3.2.1.tok.2.2.2 cN).trans ex.symm
    rw [x3]
    have f5 := f3.trans m5.mt
    refine ms_need (c := 58) hF (by omega) m5.2.1 rfl (by decide) (by decide) (fun V7 m7 => ?_)
    unfold nee at m7
    by_cases c58 : (tkT t n (i + 1 + 1 + 1 + 1)).1 = 58
    rotate_left
    · rw [if_neg c58] at m7
      exact ⟨vp47 (f5.trans m7.mt), md_sum (by omega) m7.dead (md_need (by omega) m7.dead ⟨fun _ => he _ (by rw [e1]; unfold stB; rw [if_neg c58]) V7 (f5.trans m7.mt) m7.wrg, fun q => absurd q m7.dead⟩)⟩
    rw [if_pos c58] at m7
    have f7 := f5.trans m7.mt
    have s7 := m7.2.1
    have b7 : vI V7 6 9 p = nI (i + 1 + 1 + 1 + 1 + 1) := s7.2.2.2.2.1
    rw [e47 f7, nI_clamp (show p < 2 ^ 31 by omega), b7]
    refine ⟨vp_in_nI hp (by decide), ?_⟩
    have iL := s7.2.2.2.1
    refine prsM hF F 4 0 0 (Or.inl (by decide)) (fun _ => rfl) (fun y => absurd y (by decide)) (d - 1) (i + 1 + 1 + 1 + 1 + 1) (nbR R) V7 _ (by show 20 + 10 * 13 + 4 ≤ d - 1; omega) s7 (by have : rnk 4 = 3 := rfl; omega) (fun V10 m10 => ?_)
    cases w10 : prz (tkT t n) (lku (tcR R) (nmR R)) F 4 0 0 (i + 1 + 1 + 1 + 1 + 1) (nbR R) with
    | inl e =>
      rw [rsI_l w10] at m10
      exact md_need (by omega) m10.dead ⟨fun _ => he e (by rw [e1]; exact stB_e c58 w10) V10 (f7.trans m10.mt) m10.wrg, fun q => absurd q m10.dead⟩
    | inr q =>
      obtain ⟨i4, C, N⟩ := q
      rw [rsI_r w10] at m10
      have e1 := e1.trans (stB_n (i := i) (kd := 3) (vs := [x]) c58 w10)
      refine ms_need (c := 59) hF (by omega) m10.2.1 rfl (by decide) (by decide) (fun V12 m12 => ?_)
      unfold nee at m12
      by_cases c59 : (tkT t n i4).1 = 59
      rotate_left
      · have m12 := (if_neg (α := (Nat × Nat) ⊕ Nat) c59) ▸ m12
        rw [if_neg c59] at e1
        exact ⟨fun _ => he _ e1 V12 ((f7.trans m10.mt).trans m12.mt) m12.wrg, fun q => absurd q m12.dead⟩
      rw [if_pos c59] at e1
      have m12 : MO V10 V12 p t n (tcR R) (nmR R) 0 i4 (.inr (i4 + 1)) := by rw [if_pos c59] at m12; exact m12
      have s12 := m12.2.1
      have m112 : ML V1 V12 p t n (tcR R) (nmR R) (i + 1 + 1) (.inr (i4 + 1)) := (((m3.tr m5).tr m7).tr (m10.tr m12)).ml
      obtain ⟨g12, h50, h51⟩ := m1.g m112
      have f12 := f1.trans m112.mt
      refine ⟨fun q => absurd s12.2.1 q, fun _ => ?_⟩
      obtain ⟨nl, nk, na⟩ := nm_end hX f12 hn q2
      have e6 : (6 : Int32) * nI p + nI (tcR R 3) = nI (6 * p + tcR R 3) := by rw [show (6 : Int32) = nI 6 from rfl, nI_mul, nI_add]
      refine c_tellM (s := 3) (tc' := tcR (R ++ [mkS 3 (tkT t n) R i [x] (i + 1 + 1 + 1 + 1 + 1) i4 (svx (tkT t n) (MR R) (i + 1 + 1 + 1 + 1 + 1) i4) C N])) (nm' := nmR (R ++ [mkS 3 (tkT t n) R i [x] (i + 1 + 1 + 1 + 1 + 1) i4 (svx (tkT t n) (MR R) (i + 1 + 1 + 1 + 1 + 1) i4) C N])) s12.1.2.1 hp s12.1.2.2.2 (by decide) (by omega) h50 h51 nl (by unfold nmR; rw [gtR_new (s := 3) rfl]; exact nk) na (tcR_same rfl) (fun u hu => tcR_ne (Ne.symm hu)) (fun u k hk => nmR_old hk) (fun V14 f14 n14 => ?_)
      rw [s12.1.2.1, e6, nI_clamp (show 6 * p + tcR R 3 < 2 ^ 31 by omega)]
      refine ⟨vp_in_nI (by omega) (by decide), fun V17 e17 => ⟨vp_in_nI (by omega) (by decide), fun V19 e19 => ?_⟩⟩
      have s14 := s12.gen f14 (fun f j y => by have := y.2; omega) n14
      have p17 : vI V17 6 0 47 = nI p := by rw [e17, wrI_ne (fun y => by omega)]; exact s14.1.2.1
      rw [p17, i20k] at e19
      have f19 : Fc V14 V19 (fun a f j => a = 6 ∧ (f = 27 ∨ f = 28) ∧ j = 6 * p + tcR R 3) := by rw [e19, e17]; exact (Fc_wrI ⟨rfl, Or.inl rfl, rfl⟩).trans (Fc_wrI ⟨rfl, Or.inr rfl, rfl⟩)
      have n19 := n14.fc f19 (fun f j hf y => by have := y.2; omega)
      have s19 := s14.gen f19 (fun f j y => by have := y.2; omega) n19
      have b14 : MDb V14 p R := (hD.1.g (fun f j h1 h2 => g12 f j (by omega) (by omega))).fx f14 (fun f j y => by have := y.2; unfold bhS; omega) (fun v hv => (hw.sz hv).2)
      refine hy _ _ e1 V19 (((f12.mono (fun a f j y => mfS_mt y)).trans (f14.mono (fun a f j y => tlS_mt y))).trans (f19.mono (fun a f j y => by obtain ⟨rfl, h1, rfl⟩ := y; exact mt_a h1 (by omega) (by omega)))) s19 (kpt_end hK m1 m112 (S := fun a f j => a = 6 ∧ 12 ≤ f) ((f14.mono (fun a f j y => ⟨y.1, by have := y.2; omega⟩)).trans (f19.mono (fun a f j y => ⟨y.1, by have := y.2; omega⟩))) (fun f j hf y => by omega) hw.2.1 q3 (by decide : (3 : Nat) < 4) rfl q2) ⟨?_, ?_, ?_⟩ (fun f j hf => ?_)
      · refine MDb.add (b14.fx f19 (fun f j y => by have := y.2; unfold bhS; omega) (fun v hv => (hw.sz hv).2)) (fun y => absurd y (by decide : (3 : Nat) ≠ 0)) (fun y => absurd y (by decide : (3 : Nat) ≠ 1)) (fun y => absurd y (by decide : (3 : Nat) ≠ 2)) (fun _ => ⟨?_, ?_⟩)
        · rw [e19, wrI_ne (fun y => by omega), e17, wrI_at]; rfl
        · rw [e19, wrI_at]; rfl
      · rw [f19.i (fun y => by have := y.2; omega), f14.i (fun y => by have := y.2; omega), g12 22 _ (by omega) (by omega), plR_ne (r := mkS 3 (tkT t n) R i [x] (i + 1 + 1 + 1 + 1 + 1) i4 (svx (tkT t n) (MR R) (i + 1 + 1 + 1 + 1 + 1) i4) C N) (by decide : (3 : Nat) ≠ 1)]; exact hD.2.1
      · rw [f19.i (fun y => by have := y.2; omega), f14.i (fun y => by have := y.2; omega), g12 23 _ (by omega) (by omega), hdR_add, if_neg (fun y => absurd (of_decide_eq_true y).1 (by decide : (3 : Nat) ≠ 2))]; exact hD.2.2
      · rw [f19.i (fun y => by have := y.2; omega), f14.i (fun y => by have := y.2; omega), g12 f _ (by omega) (by omega)]
end
