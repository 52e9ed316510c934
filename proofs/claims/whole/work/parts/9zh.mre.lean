/-! the reference reads a whole text: the end -/
section
variable {E : EE} {d : Nat} {V V' : VH} {p : Nat} {t : Nat → Int32} {n : Nat} {i : Nat} {R : List SR} {r : SR} {F : Nat}
theorem rd_strideE {K : Int32 → VH → Prop} (hp : p < 5) : ∀ (k : Nat) (x2 : Int32) (W : VH), k ≤ 12 → (∀ W', Fc W W' (fun a f j => a = 6 ∧ (f = 17 ∧ 12 * p ≤ j ∧ j < 12 * p + 12 ∨ f = 33 ∧ j = p)) → vI W' 6 33 p = vI W 6 33 p + 1 → (¬ vI W' 6 0 45 = 0 → K 0 W') ∧ (vI W' 6 0 45 = 0 → K 1 W')) → vwp E d M_X12_readProblem 194 [some (sl 6 0), some (wi (nI p)), some (wi x2), some (wi (nI k - 1))] [] W (zi K) := by
  intro k
  induction k with
  | zero =>
    intro x2 W hk hK
    refine w_X12_readProblem_194 ⟨fun _ => ?_, fun q => absurd (by decide) q⟩
    rw [nI_clamp (show p < 2 ^ 31 by omega)]
    refine ⟨vp_in_nI hp (by decide), vp_in_nI hp (by decide), fun V3 e3 => hK V3 ?_ (by rw [e3, wrI_at])⟩
    rw [e3]; exact Fc_wrI ⟨rfl, Or.inr ⟨rfl, rfl⟩⟩
  | succ k ih =>
    intro x2 W hk hK
    have ek : nI (k + 1) - 1 = nI k := by rw [show (1 : Int32) = nI 1 from rfl, nI_sub (by omega)]; rfl
    have e12 : (12 : Int32) * nI p + nI k = nI (12 * p + k) := by rw [show (12 : Int32) = nI 12 from rfl, nI_mul, nI_add]
    rw [ek]
    refine w_X12_readProblem_194 ⟨fun q => absurd q (nI_pos (by omega)), fun _ => ?_⟩
    rw [e12, nI_clamp (show 12 * p + k < 2 ^ 31 by omega)]
    refine ⟨vp_in_nI (by omega) (by decide), fun V5 e5 => ⟨vp_in_nI (by omega) (by decide), ?_⟩⟩
    rw [show nI k + (-1 : Int32) = nI k - 1 by rw [Int32.sub_eq_add_neg]]
    have c5 : Fc W V5 (fun a f j => a = 6 ∧ (f = 17 ∧ 12 * p ≤ j ∧ j < 12 * p + 12 ∨ f = 33 ∧ j = p)) := by rw [e5]; exact Fc_wrI ⟨rfl, Or.inl ⟨rfl, by omega, by omega⟩⟩
    exact ih _ V5 (by omega) (fun W' fW' h33 => hK W' (c5.trans fW') (by rw [h33, e5, wrI_ne (fun y => by omega)]))
theorem m_readT {K : Int32 → VH → Prop} (hF : eFr E) (h0 : 220 < d) (hp : p < 5) (hn : n ≤ 20000) (hX : TxM V p t n) (hl : vI V 6 4 p = nI n) (hFl : 8 * 20000 + 7 < F)
    (he : ∀ e, rdx (tkT t n) F (n + 1) = .inl e → ∀ V', Fc V V' (rdM p) → Wrg V' e → vI V' 6 33 p = vI V 6 33 p + 1 → K 0 V')
    (hy : ∀ q, rdx (tkT t n) F (n + 1) = .inr q → ∀ V', Fc V V' (rdM p) → vI V' 6 33 p = vI V 6 33 p + 1 → vI V' 6 0 45 = 0 → NmM V' p (tcR q.2) (nmR q.2) → Kpt V' p (tkT t n) (MR q.2) 0 q.1 → MDt V' p q.2 → StP V' p q.2 → vI V' 6 9 p = nI q.1 → vI V' 6 29 p = 0 → (∀ v, v < tcR q.2 1 → vI V' 6 17 (12 * p + v) = nI (Tp (szR q.2) (tcR q.2 1) (v + 1))) → K 1 V') : vMI E d M_X12_readProblem [sl 6 0, wi (nI p)] V K := by
  obtain ⟨tl1, tl2, tl3⟩ := tln_ok t n
  have hT : TL (tkT t n) (tln t n) := ⟨tl2, tl3⟩
  have e4 : (4 : Int32) * nI p + 1 = nI (4 * p + 1) := by rw [show (4 : Int32) = nI 4 from rfl, nI_mul, show (1 : Int32) = nI 1 from rfl, nI_add]
  have g33 : ∀ {W : VH}, Fc V W (fun a f j => mtS p a f j ∨ rpS p a f j) → vI W 6 33 p = vI V 6 33 p := fun f => f.i (fun y => by
    rcases y with ⟨_, y⟩ | ⟨_, y⟩
    · omega
    · omega)
  have toM : ∀ {W W' : VH}, Fc V W (fun a f j => mtS p a f j ∨ rpS p a f j) → Fc W W' (fun a f j => a = 6 ∧ (f = 17 ∧ 12 * p ≤ j ∧ j < 12 * p + 12 ∨ f = 33 ∧ j = p)) → Fc V W' (rdM p) := fun f g => (f.mono (fun a f j y => by rcases y with y | y; exact Or.inl y; exact Or.inr (Or.inl y))).trans (g.mono (fun a f j y => Or.inr (Or.inr y)))
  -- something is wrong
  have dead179 : ∀ (W : VH) (e : Nat × Nat) (k : Nat) (x2 : Int32), rdx (tkT t n) F (n + 1) = .inl e → Fc V W (fun a f j => mtS p a f j ∨ rpS p a f j) → Wrg W e → vI W 6 14 (4 * p + 1) = nI k → k ≤ 12 → vwp E d M_X12_readProblem 179 [some (sl 6 0), some (wi (nI p)), some (wi x2), none] [] W (zi K) := by
    intro W e k x2 z fW w h14 hk
    refine w_X12_readProblem_179 ?_
    rw [e4, nI_clamp (show 4 * p + 1 < 2 ^ 31 by omega), h14]
    refine ⟨vp_in_nI (by omega) (by decide), rd_strideE hp k 1 W hk (fun W' c h33 => ?_)⟩
    have w' : Wrg W' e := ⟨by rw [c.i (fun y => by have := y.2; omega)]; exact w.1, w.2.1, w.2.2.1, by rw [c.i (fun y => by have := y.2; omega)]; exact w.2.2.2⟩
    exact ⟨fun _ => he e z W' (toM fW c) w' (by rw [h33, g33 fW]), fun q => absurd q w'.dead⟩
  have dead106 : ∀ (W : VH) (e : Nat × Nat) (k : Nat), rdx (tkT t n) F (n + 1) = .inl e → Fc V W (fun a f j => mtS p a f j ∨ rpS p a f j) → Wrg W e → vI W 6 14 (4 * p + 1) = nI k → k ≤ 12 → vwp E d M_X12_readProblem 106 [some (sl 6 0), some (wi (nI p)), some (wi (nI 4)), none] [] W (zi K) := fun W e k z fW w h14 hk => w_X12_readProblem_106 (by omega) ⟨fun _ => w_X12_readProblem_127 ⟨fun _ => dead179 W e k _ z fW w h14 hk, fun q => absurd q w.dead⟩, fun q => absurd q w.dead⟩
  -- behind a statement
  have go : ∀ (m : Nat) (R : List SR) (i : Nat) (W : VH), R ≠ [] → R.length + m = n + 1 → R.length ≤ i → WR (tkT t n) F (tln t n) R i → Fc V W (fun a f j => mtS p a f j ∨ rpS p a f j) → vI W 6 0 39 = nI n → vI W 6 29 p = 0 → MZ W p t n (tcR R) (nmR R) i 0 → Kpt W p (tkT t n) (MR R) 0 i → MDt W p R → StP W p R → rdl (tkT t n) F (n + 1) [] 0 = rdl (tkT t n) F m R i → vwp E d M_X12_readProblem 106 [some (sl 6 0), some (wi (nI p)), some (wi (nI 4)), none] [] W (zi K) := by
    intro m
    induction m with
    | zero =>
      intro R i W _ em ei hw
      have := hw.2.2.2.2.2.2.2
      omega
    | succ m ih =>
      intro R i W hne em ei hw fW h39 h29 sW kW dW mW hR
      have iL := hw.2.2.2.2.2.2.2
      have k0 := sW.is 0 (by decide)
      have n14 : vI W 6 14 (4 * p + 1) = nI (tcR R 1) := (sW.1.2.2.2.1 1 (by decide)).1
      have n12 : tcR R 1 ≤ 12 := hw.1 1 (by decide)
      refine w_X12_readProblem_106 (by omega) ⟨fun q => absurd sW.2.1 q, fun _ => ⟨fun q => ?_, fun q => ?_⟩⟩
      · have c0 := k0.mp q
        have eL : i = tln t n := by
          by_cases y : i < tln t n
          · exact absurd c0 (tl2 i y).1
          · omega
        have hR : rdl (tkT t n) F (n + 1) [] 0 = .inr (i, R) := by rw [hR, rdl, if_pos ⟨hne, c0⟩]
        have hx : rdx (tkT t n) F (n + 1) = if tcR R 1 = 0 ∨ 20000000 < plR R * i then .inl (6, (tkT t n i).f) else .inr (i, R) := by unfold rdx; rw [hR]
        have ef : (tkT t n i).f = n := ((tkT_ok t n i).2.2.2.2.2.1 c0).1
        have p20 := hw.2.2.2.1
        have pb : plR R * i ≤ 20000 * 20000 := Nat.mul_le_mul p20 (by omega)
        have bad : (tcR R 1 = 0 ∨ 20000000 < plR R * i) → vwp E d M_X12_readProblem 169 [some (sl 6 0), some (wi (nI p)), some (wi (nI 4)), none] [] W (zi K) := fun y => by
          rw [if_pos y, ef] at hx
          exact w_X12_readProblem_169 (by omega) (ms_fail sW rfl h39 (by decide) (by decide) (fun V7 m7 => dead179 V7 _ (tcR R 1) _ hx (fW.trans (m7.mt.mono (fun a f j y => Or.inl (mfS_mt y)))) m7.wrg (by rw [m7.1.i (fun y => by have := y.2; omega)]; exact n14) n12))
        have b22 : vI W 6 22 p = nI (plR R) := dW.2.1
        have b9 : vI W 6 9 p = nI i := sW.2.2.2.2.1
        refine w_X12_readProblem_127 ⟨fun q => absurd sW.2.1 q, fun _ => ?_⟩
        rw [e4, nI_clamp (show 4 * p + 1 < 2 ^ 31 by omega), n14, nI_clamp (show p < 2 ^ 31 by omega), b22, b9, i2l_nI (show plR R < 2 ^ 31 by omega), i2l_nI (show i < 2 ^ 31 by omega), nL_mul]
        refine ⟨vp_in_nI (by omega) (by decide), fun y => bad (Or.inl ((nI_eq (b := 0) (by omega) (by decide)).mp y)), fun y => ⟨vp_in_nI hp (by decide), vp_in_nI hp (by decide), fun u => ?_, fun u => bad (Or.inr ((nL_lt (a := 20000000) (by decide) (by omega)).mp (Int64.not_le.mp u)))⟩⟩
        have y0 : tcR R 1 ≠ 0 := fun w => y (by rw [w]; rfl)
        have u0 : ¬ 20000000 < plR R * i := fun w => absurd ((nL_lt (a := 20000000) (by decide) (by omega)).mpr w) (Int64.not_lt.mpr u)
        rw [if_neg (by omega)] at hx
        refine w_X12_readProblem_179 ?_
        rw [e4, nI_clamp (show 4 * p + 1 < 2 ^ 31 by omega), n14]
        refine ⟨vp_in_nI (by omega) (by decide), ?_⟩
        have e1 : (1 : Int32) = nI (Tp (szR R) (tcR R 1) (tcR R 1)) := by rw [Tp_nv (Nat.le_refl _)]; rfl
        rw [show wi 1 = wi (nI (Tp (szR R) (tcR R 1) (tcR R 1))) from congrArg wi e1]
        refine rd_strides (sz := szR R) hp n12 (fun v hv => hw.sz hv) p20 (tcR R 1) W (Nat.le_refl _) (fun v hv => (dW.1.2.1 v hv).1) (fun v h1 h2 => absurd h2 (by omega)) (fun W' c h17 h33 => ?_)
        have g : ∀ f j, f ≠ 17 → f ≠ 33 → vI W' 6 f j = vI W 6 f j := fun f j a b => c.i (fun y => by have := y.2; omega)
        have l45 : vI W' 6 0 45 = 0 := by rw [g 0 45 (by omega) (by omega)]; exact sW.2.1
        refine ⟨fun q => absurd l45 q, fun _ => hy (i, R) hx W' (toM fW c) (by rw [h33, g33 fW]) l45 (sW.1.2.2.2.fc c (fun f j hf y => by have := y.2; omega)) (kW.ex (fun f j hf _ _ => g f _ (by omega) (by omega))) ⟨?_, by rw [g 22 _ (by omega) (by omega)]; exact b22, by rw [g 23 _ (by omega) (by omega)]; exact dW.2.2⟩ ⟨by rw [g 11 _ (by omega) (by omega)]; exact mW.1, fun k hk => by rw [g 10 _ (by omega) (by omega)]; exact mW.2 k hk⟩ (by rw [g 9 _ (by omega) (by omega)]; exact b9) (by rw [g 29 _ (by omega) (by omega)]; exact h29) h17⟩
        exact dW.1.fx c (fun f j y => by have := y.2; unfold bhS; omega) (fun v hv => (hw.sz hv).2)
      · have c0 : ¬ (tkT t n i).1 = 0 := fun z => q (k0.mpr z)
        have hR : rdl (tkT t n) F (n + 1) [] 0 = nrB (stm (tkT t n) R F i) (fun i1 r => rdl (tkT t n) F m (R ++ [r]) i1) := by rw [hR, rdl, if_neg (fun z => c0 z.2)]
        have xW : TxM W p t n := hX.fc fW (fun j y => by
          rcases y with ⟨_, y⟩ | ⟨_, y⟩
          · omega
          · omega)
        refine ms_statement (F := F) hF (by omega) (sW.op (o' := 0) rfl (by decide)).1 hn xW kW dW mW hw (by omega) ⟨fun e z W' f' w' => ?_, fun i' r z W' f' s' k' d' m' => ?_⟩
        · exact dead106 W' e (tcR R 1) (by unfold rdx; rw [hR, z]; rfl) (fW.trans (f'.mono (fun a f j y => Or.inl (mfS_mt y)))) w' (by rw [f'.i (fun y => by have := y.2; omega)]; exact n14) n12
        · obtain ⟨w1, w2, w3, w4, w5⟩ := stm_wr hT (by omega) hw z
          exact ih (R ++ [r]) i' W' (fun y => by have := congrArg List.length y; rw [List.length_append] at this; exact absurd this (by show R.length + 1 ≠ 0; omega)) (by rw [List.length_append]; show R.length + 1 + m = n + 1; omega) (by rw [List.length_append]; show R.length + 1 ≤ i'; omega) w1 (fW.trans (f'.mono (fun a f j y => Or.inl y))) (by rw [f'.i (fun y => by obtain ⟨_, y⟩ := y; omega)]; exact h39) (by rw [f'.i (fun y => by obtain ⟨_, y⟩ := y; omega)]; exact h29) s' k' d' m' (by rw [hR, z]; rfl)
  refine c_rp_start (by omega) hp (fun V1 f1 r1 => ?_)
  obtain ⟨a1, a2, a3, a4, a5, a6, a7, a8, a9, a10, a11, a12⟩ := r1
  have x1 : TxM V1 p t n := hX.fc f1 (fun j y => by have := y.2; omega)
  have src : SrcM V1 t n := ⟨a4.trans hl, hn, Or.inl ⟨a2, 20000 * p, a3, by omega, x1⟩⟩
  refine c_next hF (by omega) src (i := 0) a5 (Nat.zero_le _) (fun V2 f2 r2 => ?_)
  have g2 : ∀ f j, f ≠ 0 ∨ j < 40 ∨ 44 < j → vI V2 6 f j = vI V1 6 f j := fun f j h => f2.i (fun y => by have := y.2; omega)
  have r2 : RT V2 (tkT t n 0) := r2
  have nm2 : NmM V2 p (tcR []) (nmR []) := ⟨fun s hs => ⟨by rw [g2 14 _ (by omega)]; exact a9 s hs, Nat.zero_le _⟩, fun s hs k hk => absurd hk (Nat.not_lt_zero k)⟩
  have src2 : SrcM V2 t n := src.fc f2 (fun f j z y => by have := y.2; omega)
  have z2 : MZ (wrI V2 6 0 48 (nI 0)) p t n (tcR []) (nmR []) 0 0 := by
    have c : Fc V2 (wrI V2 6 0 48 (nI 0)) (fun a f j => a = 6 ∧ f = 0 ∧ j = 48) := Fc_wrI ⟨rfl, rfl, rfl⟩
    refine ⟨⟨src2.fc c (fun f j z y => by have := y.2; omega), by rw [c.i (fun y => by have := y.2; omega), g2 0 47 (by omega)]; exact a1, hp, nm2.fc c (fun f j hf y => by have := y.2; omega)⟩, by rw [c.i (fun y => by have := y.2; omega), g2 0 45 (by omega)]; exact a6, ?_, Nat.zero_le _, by rw [c.i (fun y => by have := y.2; omega), g2 9 _ (by omega)]; exact a7, wrI_at, by decide⟩
    obtain ⟨c1, c2, c3, c4, c5⟩ := r2
    exact ⟨by rw [c.i (fun y => by have := y.2; omega)]; exact c1, by rw [c.i (fun y => by have := y.2; omega)]; exact c2, by rw [c.i (fun y => by have := y.2; omega)]; exact c3, by rw [c.i (fun y => by have := y.2; omega)]; exact c4, fun z => by rw [c.i (fun y => by have := y.2; omega)]; exact c5 z⟩
  have fV2 : Fc V V2 (fun a f j => mtS p a f j ∨ rpS p a f j) := (f1.mono (fun a f j y => Or.inr y)).trans (f2.mono (fun a f j y => Or.inl ⟨y.1, Or.inl ⟨y.2.1, by have := y.2; omega⟩⟩))
  have n0 : vI V2 6 14 (4 * p + 1) = nI 0 := by rw [g2 14 _ (by omega)]; exact a9 1 (by decide)
  have hR : rdl (tkT t n) F (n + 1) [] 0 = nrB (stm (tkT t n) [] F 0) (fun i1 r => rdl (tkT t n) F n ([] ++ [r]) i1) := by rw [rdl, if_neg (fun z => z.1 rfl)]
  have hw0 : WR (tkT t n) F (tln t n) [] 0 := WR_nil
  refine ms_statement (F := F) hF (by omega) z2 hn (x1.fc f2 (fun j y => by have := y.2; omega)) (fun j _ hj => absurd hj (Nat.not_lt_zero j)) ⟨⟨fun k hk => absurd hk (Nat.not_lt_zero k), fun k hk => absurd hk (Nat.not_lt_zero k), fun k hk => absurd hk (Nat.not_lt_zero k), fun k hk => absurd hk (Nat.not_lt_zero k)⟩, by rw [g2 22 _ (by omega)]; exact a10, by rw [g2 23 _ (by omega)]; exact a11⟩ ⟨by rw [g2 11 _ (by omega)]; exact a8, fun k hk => absurd hk (Nat.not_lt_zero k)⟩ hw0 (by omega) ⟨fun e z W' f' w' => ?_, fun i' r z W' f' s' k' d' m' => ?_⟩
  · exact dead106 W' e 0 (by unfold rdx; rw [hR, z]; rfl) (fV2.trans (f'.mono (fun a f j y => Or.inl (mfS_mt y)))) w' (by rw [f'.i (fun y => by have := y.2; omega)]; exact n0) (by decide)
  · obtain ⟨w1, w2, w3, w4, w5⟩ := stm_wr hT (by omega) hw0 z
    exact go n ([] ++ [r]) i' W' (fun y => nomatch y) (by show 1 + n = n + 1; omega) (by show 1 ≤ i'; omega) w1 (fV2.trans (f'.mono (fun a f j y => Or.inl y))) (by rw [f'.i (fun y => by obtain ⟨_, y⟩ := y; omega), g2 0 39 (by omega)]; exact a4.trans hl) (by rw [f'.i (fun y => by obtain ⟨_, y⟩ := y; omega), g2 29 _ (by omega)]; exact a12) s' k' d' m' (by rw [hR, z]; rfl)
end
