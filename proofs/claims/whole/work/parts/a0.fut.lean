/-! future, told -/
section
variable {E : EE} {d : Nat} {V V' : VH} {q B : Nat} {t : Nat → Int32} {n : Nat} {R : List SR} {nt fa : Nat → Int32} {h : Nat} {x : Int32} {cs : Nat → Int32}
def fuS (q a f j : Nat) : Prop := a = q + 1 ∧ (f = 0 ∧ j = 11 ∨ f = 25 ∨ f = 26 ∨ f = 29) ∨ a = 6 ∧ ofQ q f j ∧ 29 ≤ f ∧ f ≤ 32
theorem fuS_dy {a f j : Nat} (y : fuS q a f j) : dyS q a f j := by
  rcases y with ⟨y1, y2⟩ | ⟨y1, y2, y3, y4⟩
  · exact Or.inl ⟨y1, by omega⟩
  · exact Or.inr ⟨y1, y2, by omega⟩
theorem PbI.fu (hI : PbI V q t n R nt fa h x cs) (k : Fc V V' (fuS q)) (fu : FuJ V' q (tcR R 0)) : PbI V' q t n R nt fa h x cs := by
  have hq6 : q + 1 ≠ 6 := hI.2.1.1.2.2
  have c : ∀ f j, ¬ (f = 0 ∧ j = 11 ∨ f = 25 ∨ f = 26 ∨ f = 29) → vI V' (q + 1) f j = vI V (q + 1) f j := fun f j z => k.i (fun y => by rcases y with y | y; exact z y.2; exact hq6 y.1)
  have cj : ∀ f j, f = 3 ∨ f = 21 → vJ V' (q + 1) f j = vJ V (q + 1) f j := fun f j z => k.j (fun y => by rcases y with y | y; have := y.2; omega; exact hq6 y.1)
  have m : ∀ f j, f < 29 ∨ 32 < f → vI V' 6 f j = vI V 6 f j := fun f j z => k.i (fun y => by rcases y with y | y; exact hq6 y.1.symm; have := y.2; omega)
  have mj : ∀ f j, f < 29 ∨ 32 < f → vJ V' 6 f j = vJ V 6 f j := fun f j z => k.j (fun y => by rcases y with y | y; exact hq6 y.1.symm; have := y.2; omega)
  obtain ⟨hs, hc, hm, ⟨l1, l2⟩, _, tb, ch, px⟩ := hI
  refine ⟨hs, hc.fr (by rw [k.l]) (fun f z => by rw [k.n]) (fun f j z => c f j (by unfold kpC at z; omega)) (fun j => cj 3 j (by omega)), hm.fr hs (fun f j z l => m f j (by omega)), ⟨by rw [c 0 0 (by omega)]; exact l1, by rw [m 2 q (by omega)]; exact l2⟩, fu, ?_, fun e1 e2 => ?_, px⟩
  · rcases tb with w | ⟨w1, w2⟩
    · exact Or.inl (by rw [c 19 0 (by omega)]; exact w)
    · exact Or.inr ⟨w1.ex (fun f _ => by rw [k.n]) (fun j => c 22 j (by omega)) (fun j => cj 21 j (by omega)), by rw [c 19 1 (by omega)]; exact w2⟩
  · rw [m 0 62 (by omega)] at e1
    rw [m 0 63 (by omega), m 33 q (by omega)] at e2
    exact Wq.ex (ch e1 e2) (fun f j hf => m f j (by omega)) (fun j => mj 45 j (by omega))
theorem fut_go {u : Nat} {x2 : Int32} {K : Int32 → VH → Prop} (q5 : q < 5) (hu : u < 6) : ∀ (m f : Nat) (V : VH), f + m = 16 → vI V 6 29 q = nI u → (∀ V', Fc V V' (fun a b j => a = 6 ∧ (b = 29 ∧ j = q ∨ b = 31 ∧ 96 * q + 16 * u ≤ j ∧ j < 96 * q + 16 * u + 16)) → vI V' 6 29 q = nI (u + 1) → (∀ j, j < 16 → f ≤ j → vI V' 6 31 (96 * q + (16 * u + j)) = 0) → (∀ j, j < f → vI V' 6 31 (96 * q + (16 * u + j)) = vI V 6 31 (96 * q + (16 * u + j))) → K (nI u) V') → vwp E d M_X12_future 57 [some (sl 6 0), some (wi (nI q)), some (wi x2), some (wi (nI u)), some (wi (nI f))] [] V (zi K) := by
  intro m
  induction m with
  | zero =>
    intro f V e h29 hk
    have : f = 16 := by omega
    subst this
    refine w_X12_future_57 ⟨fun _ => ?_, fun z => absurd (by decide) z⟩
    rw [nI_clamp (show q < 2 ^ 31 by omega), h29, nI_1]
    have vp : vp_in (nI q) 5 := vp_in_nI q5 (by decide)
    exact ⟨vp, vp, fun V3 e3 => hk V3 (by rw [e3]; exact Fc_wrI ⟨rfl, Or.inl ⟨rfl, rfl⟩⟩) (by rw [e3]; exact wrI_at) (fun j h1 h2 => absurd h1 (by omega)) (fun j hj => by rw [e3, wrI_ne (fun z => by omega)])⟩
  | succ m ih =>
    intro f V e h29 hk
    have ei : (16 : Int32) * ((6 : Int32) * nI q + nI u) + nI f = nI (96 * q + (16 * u + f)) := by
      rw [show (16 : Int32) = nI 16 from rfl, show (6 : Int32) = nI 6 from rfl, nI_mul, nI_add, nI_mul, nI_add]; congr 1; omega
    refine w_X12_future_57 ⟨fun z => absurd z (nI_ge (b := 16) (show f < 16 by omega) (by decide)), fun _ => ?_⟩
    rw [ei, nI_clamp (show 96 * q + (16 * u + f) < 2 ^ 31 by omega)]
    refine ⟨vp_in_nI (by omega) (by decide), fun V5 e5 => ?_⟩
    rw [nI_1]
    have k5 : Fc V V5 (fun a b j => a = 6 ∧ (b = 29 ∧ j = q ∨ b = 31 ∧ 96 * q + 16 * u ≤ j ∧ j < 96 * q + 16 * u + 16)) := by rw [e5]; exact Fc_wrI ⟨rfl, Or.inr ⟨rfl, by omega, by omega⟩⟩
    refine ih (f + 1) V5 (by omega) (by rw [e5, wrI_ne (fun z => by omega)]; exact h29) (fun V' k' a b c => hk V' (k5.trans k') a (fun j h1 h2 => ?_) (fun j hj => ?_))
    · by_cases w : j = f
      · rw [w, c f (by omega), e5, wrI_at]; decide
      · exact b j h1 (by omega)
    · rw [c j (by omega), e5, wrI_ne (fun z => by omega)]
end
section
variable {E : EE} {d x B B' : Nat}
theorem o_future (h0 : 3 < d) (hB : B ≤ B') : VO_future E d (JA x B) (JA x B') := fun V a0 a1 hJ => liftI hJ (fun hW hS => by
  rcases hS.inQ a0 with ⟨hP, hM⟩ | ⟨q, t, n, R, nt, fa, h, px, cs, hq, rfl, hI⟩
  · exact nul_future (J := fun V2 => WF V2 → JS B' V2) (by omega) hW hP hM (fun _ => hS.mono hB)
  · have fin : ∀ (r : Int32), r = r ∧ (WF V → JS B' V) := fun r => ⟨rfl, fun _ => hS.mono hB⟩
    obtain ⟨u, u6, f11, f29, fu⟩ := hI.2.2.2.2.1
    have f16 := hI.f16
    have q5 : q < 5 := by omega
    have vp : vp_in (nI q) 5 := vp_in_nI q5 (by decide)
    refine w_X11_future_0 (by omega) (c_known_y hI hq ⟨fun z => absurd hI.2.1.1.1 z, fun _ => ⟨hI.2.1.1.2, fun z => ?_, fun z => ⟨fun y => ?_, fun y => ?_⟩⟩⟩)
    · exact w_X12_future_0 (by omega) (c_isProblem_y hI.mi hq ⟨fun w => absurd w (by decide), fun _ => ⟨fun _ => fin _, fun w => absurd z w⟩⟩)
    · rw [f11]
      refine ⟨fun w => w_X3_addFuture_0 hI.2.1.1 ?_, fun w => ?_⟩
      · have lt : u < 6 := by
          by_cases c : u < 6
          · exact c
          · exact absurd w (Int32.not_lt.mpr (nI_le (a := 6) (by omega) (by omega)))
        rw [f11, nI_clamp (show u < 2 ^ 31 by omega)]
        refine ⟨fun _ => ⟨vp_in_nI lt (by decide), fun V2 e2 => ?_⟩, fun c => absurd w c⟩
        have i2 : vI V2 (q + 1) 0 11 = nI u := by rw [e2, wrI_ne (fun z => by omega)]; exact f11
        rw [i2, nI_clamp (show u < 2 ^ 31 by omega)]
        refine ⟨vp_in_nI lt (by decide), fun V4 e4 V5 e5 => ?_⟩
        have i4 : vI V4 (q + 1) 0 11 = nI u := by rw [e4, wrI_ne (fun z => by omega)]; exact i2
        rw [i4] at e5 ⊢
        rw [nI_1] at e5
        have k5 : Fc V V5 (fun a f j => a = q + 1 ∧ (f = 0 ∧ j = 11 ∨ f = 25 ∧ j = u ∨ f = 29 ∧ j = u)) := by
          rw [e5, e4, e2]
          exact ((Fc_wrI ⟨rfl, by omega⟩).trans (Fc_wrI ⟨rfl, by omega⟩)).trans (Fc_wrI ⟨rfl, by omega⟩)
        have n6 : ∀ f j, ¬ (6 = q + 1 ∧ (f = 0 ∧ j = 11 ∨ f = 25 ∧ j = u ∨ f = 29 ∧ j = u)) := fun f j y => by omega
        have mi := hI.mi.fc hI.1 k5 (fun f j y => absurd y (n6 f j))
        refine w_X12_future_0 (by omega) (c_isProblem_y mi hq ⟨fun w => absurd w (by decide), fun _ => ⟨fun w => absurd w z, fun _ => ⟨fun _ => ?_, fun w => absurd y w⟩⟩⟩)
        have g29 : vI V5 6 29 q = nI u := by rw [k5.i (n6 _ _)]; exact f29
        have e6 : (6 : Int32) * nI q + nI u = nI (6 * q + u) := by rw [show (6 : Int32) = nI 6 from rfl, nI_mul, nI_add]
        rw [nI_clamp (show q < 2 ^ 31 by omega), g29, e6, nI_clamp (show 6 * q + u < 2 ^ 31 by omega)]
        refine ⟨vp, fun _ => ⟨vp, vp_in_nI (by omega) (by decide), fun V6 e6 => ?_⟩, fun c => ?_⟩
        · refine fut_go (x2 := a1) q5 lt 16 0 V6 (by omega) (by rw [e6, wrI_ne (fun z => by omega)]; exact g29) (fun V7 k7 a7 b7 _ => ⟨rfl, fun _ => ?_⟩)
          have k67 : Fc V5 V7 (fun a f j => a = 6 ∧ ofQ q f j ∧ 29 ≤ f ∧ f ≤ 32) := by
            refine Fc.trans (by rw [e6]; exact Fc_wrI ⟨rfl, ⟨by decide, by decide, by show 6 * q ≤ _; omega, by show _ < 6 * q + 6; omega⟩, by decide, by decide⟩) (k7.mono (fun a f j y => ⟨y.1, ?_⟩))
            rcases y.2 with ⟨rfl, rfl⟩ | ⟨rfl, y2, y3⟩
            · exact ⟨⟨by decide, by decide, by show 1 * j ≤ j; omega, by show j < 1 * j + 1; omega⟩, by decide, by decide⟩
            · exact ⟨⟨by decide, by decide, by show 96 * q ≤ j; omega, by show j < 96 * q + 96; omega⟩, by decide, by decide⟩
          have kk : Fc V V7 (fuS q) := (k5.mono (fun a f j y => Or.inl ⟨y.1, by have := y.2; omega⟩)).trans (k67.mono (fun a f j y => Or.inr y))
          have m57 : ∀ f j, vI V7 (q + 1) f j = vI V5 (q + 1) f j := fun f j => k67.i (fun y => by have := y.1; omega)
          have r30 : ∀ j, vI V7 6 30 j = if j = 6 * q + u then a1 else vI V 6 30 j := fun j => by
            rw [k7.i (fun y => by have := y.2; omega), e6]
            by_cases c : j = 6 * q + u
            · rw [if_pos c, c, wrI_at]
            · rw [if_neg c, wrI_ne (fun z => c z.2.2), k5.i (n6 _ _)]
          have fu7 : FuJ V7 q (tcR R 0) := by
            refine ⟨u + 1, by omega, by rw [m57, e5, wrI_at], a7, fun j hj => ?_⟩
            by_cases c : j = u
            · subst c
              refine ⟨?_, fun f hf => ?_⟩
              · obtain ⟨o, ho, eo⟩ := i_ex (n := 101) (fun c => z (Int32.lt_trans c (by decide))) (fun c => by
                  have c1 := Int32.le_iff_toInt_le.mp c
                  have c2 := Int32.le_iff_toInt_le.mp y
                  rw [show (nI 101).toInt = 101 from by decide] at c1
                  rw [show (100 : Int32).toInt = 100 from by decide] at c2
                  omega) (by decide)
                refine ⟨o, ?_, by rw [r30, if_pos rfl]; exact eo, ?_, by omega⟩
                · rw [m57, e5, wrI_ne (fun z => by omega), e4, wrI_ne (fun z => by omega), e2, wrI_at]; exact eo
                · by_cases c : 1 ≤ o
                  · exact c
                  · exact absurd (show a1 < 1 from by rw [eo, show o = 0 by omega]; decide) z
              · have b25 : vI V7 (q + 1) 25 j = 0 := by rw [m57, e5, wrI_ne (fun z => by omega), e4, wrI_at]
                rw [b25, tst_z, b7 f (by omega) (Nat.zero_le _)]
                exact ⟨⟨fun z => absurd z (by decide), fun z => absurd rfl z⟩, fun z => absurd z (by decide)⟩
            · obtain ⟨b1, b2⟩ := fu j (by omega)
              have i29 : vI V7 (q + 1) 29 j = vI V (q + 1) 29 j := by rw [m57, k5.i (fun y => by have := y.2; omega)]
              refine ⟨by rw [i29, r30, if_neg (by omega)]; exact b1, fun f hf => ?_⟩
              have i25 : vI V7 (q + 1) 25 j = vI V (q + 1) 25 j := by rw [m57, k5.i (fun y => by have := y.2; omega)]
              have i26 : vI V7 (q + 1) 26 (16 * j + f) = vI V (q + 1) 26 (16 * j + f) := by rw [m57, k5.i (fun y => by have := y.2; omega)]
              have i31 : vI V7 6 31 (96 * q + (16 * j + f)) = vI V 6 31 (96 * q + (16 * j + f)) := by rw [k7.i (fun y => by have := y.2; omega), e6, wrI_ne (fun z => by omega), k5.i (n6 _ _)]
              have i32 : vI V7 6 32 (96 * q + (16 * j + f)) = vI V 6 32 (96 * q + (16 * j + f)) := by rw [k7.i (fun y => by have := y.2; omega), e6, wrI_ne (fun z => by omega), k5.i (n6 _ _)]
              rw [i25, i26, i31, i32]
              exact b2 f hf
          exact hS.dy hB hq (kk.mono (fun a f j y => fuS_dy y)) ((hS.2.2.2.2.2.2.1.same kk (fun f j y => by
            rcases y with ⟨y, _⟩ | ⟨_, _, y⟩
            · omega
            · omega)).mono hB) (Or.inr ⟨t, n, R, nt, fa, h, px, cs, hI.fu kk fu7⟩)
        · have := (nI_eq (b := 6) (by omega) (by decide)).mp c
          omega
      · have e6 : u = 6 := by
          by_cases c : u < 6
          · exact absurd (nI_lt (b := 6) c (by decide)) w
          · omega
        refine w_X12_future_0 (by omega) (c_isProblem_y hI.mi hq ⟨fun w => absurd w (by decide), fun _ => ⟨fun w => absurd w z, fun _ => ⟨fun _ => ?_, fun w => absurd y w⟩⟩⟩)
        rw [nI_clamp (show q < 2 ^ 31 by omega), f29, e6]
        exact ⟨vp, fun c => absurd rfl c, fun _ => fin _⟩
    · exact w_X12_future_0 (by omega) (c_isProblem_y hI.mi hq ⟨fun w => absurd w (by decide), fun _ => ⟨fun w => absurd w z, fun _ => ⟨fun w => absurd w y, fun _ => fin _⟩⟩⟩))
theorem o_told (h0 : 3 < d) (hB : B ≤ B') : VO_told E d (JA x B) (JA x B') := fun V a0 a1 a2 a3 hJ => liftI hJ (fun hW hS => by
  rcases hS.inQ a0 with ⟨hP, hM⟩ | ⟨q, t, n, R, nt, fa, h, px, cs, hq, rfl, hI⟩
  · exact nul_told (J := fun V2 => WF V2 → JS B' V2) (by omega) hW hP hM (fun _ => hS.mono hB)
  · have fin : ∀ (r : Int32), r = r ∧ (WF V → JS B' V) := fun r => ⟨rfl, fun _ => hS.mono hB⟩
    obtain ⟨u, u6, f11, f29, fu⟩ := hI.2.2.2.2.1
    have f16 := hI.f16
    have q5 : q < 5 := by omega
    have vp : vp_in (nI q) 5 := vp_in_nI q5 (by decide)
    have ref0 : (a1 < 0 ∨ nI u ≤ a1 ∨ (∀ f, f < tcR R 0 → a2 ≠ nI f) ∨ a3 < -9999 ∨ ¬ a3 ≤ 9999) → vMI E d M_X12_told [sl 6 0, wi (nI q), wi a1, wi a2, wi a3] V (fun r' V2 => 0 = r' ∧ (WF V2 → JS B' V2)) := fun c => by
      refine w_X12_told_0 (by omega) (c_isFactM (by omega) hI.1 hI.mi hq (fun _ => ⟨fun _ => fin _, fun z => absurd rfl z⟩) (fun f hf e => ⟨fun z => absurd z (by decide), fun _ => ⟨fun _ => fin _, fun z1 => ?_⟩⟩))
      rw [nI_clamp (show q < 2 ^ 31 by omega), f29]
      refine ⟨vp, fun _ => fin _, fun z2 => ⟨fun _ => fin _, fun z3 => ⟨fun z4 => ?_, fun _ => fin _⟩⟩⟩
      rcases c with c | c | c | c | c
      · exact absurd c z1
      · exact absurd c z2
      · exact absurd e (c f hf)
      · exact absurd c z3
      · exact absurd z4 c
    refine w_X11_told_0 (by omega) (c_known_y hI hq ⟨fun z => absurd hI.2.1.1.1 z, fun _ => ⟨hI.2.1.1.2, fun z => ref0 (Or.inl z), fun z => ?_⟩⟩)
    rw [f11]
    refine ⟨fun y => ref0 (Or.inr (Or.inl y)), fun y => c_isFactC hI (fun hn => ⟨fun w => absurd rfl w, fun _ => ref0 (Or.inr (Or.inr (Or.inl hn)))⟩) (fun f hf e => ⟨fun _ => ⟨fun w => ref0 (Or.inr (Or.inr (Or.inr (Or.inl w)))), fun w => ⟨fun v => ?_, fun v => ref0 (Or.inr (Or.inr (Or.inr (Or.inr v))))⟩⟩, fun w => absurd w (by decide)⟩)⟩
    obtain ⟨j, hj, ej⟩ := i_ex z y (by omega)
    subst ej
    subst e
    have e26 : nI j * (16 : Int32) + nI f = nI (16 * j + f) := by rw [show (16 : Int32) = nI 16 from rfl, nI_mul, nI_add, Nat.mul_comm]
    rw [nI_clamp (show j < 2 ^ 31 by omega), e26, nI_clamp (show 16 * j + f < 2 ^ 31 by omega)]
    refine ⟨vp_in_nI (by omega) (by decide), vp_in_nI (by omega) (by decide), fun V10 e10 => ⟨vp_in_nI (by omega) (by decide), fun V12 e12 => ?_⟩⟩
    have k12 : Fc V V12 (fun a b i => a = q + 1 ∧ (b = 25 ∧ i = j ∨ b = 26 ∧ i = 16 * j + f)) := by
      rw [e12, e10]
      exact (Fc_wrI ⟨rfl, by omega⟩).trans (Fc_wrI ⟨rfl, by omega⟩)
    have n6 : ∀ b i, ¬ (6 = q + 1 ∧ (b = 25 ∧ i = j ∨ b = 26 ∧ i = 16 * j + f)) := fun b i y => by omega
    have mi := hI.mi.fc hI.1 k12 (fun b i y => absurd y (n6 b i))
    refine w_X12_told_0 (by omega) (c_isFactM (by omega) hI.1 mi hq (fun c => absurd rfl (c f hf)) (fun _ _ _ => ⟨fun c => absurd c (by decide), fun _ => ⟨fun c => absurd c z, fun _ => ?_⟩⟩))
    have g29 : vI V12 6 29 q = nI u := by rw [k12.i (n6 _ _)]; exact f29
    have ei : (16 : Int32) * ((6 : Int32) * nI q + nI j) + nI f = nI (96 * q + (16 * j + f)) := by
      rw [show (16 : Int32) = nI 16 from rfl, show (6 : Int32) = nI 6 from rfl, nI_mul, nI_add, nI_mul, nI_add]; congr 1; omega
    rw [nI_clamp (show q < 2 ^ 31 by omega), g29, ei, nI_clamp (show 96 * q + (16 * j + f) < 2 ^ 31 by omega)]
    refine ⟨vp, fun c => absurd c y, fun _ => ⟨fun c => absurd c w, fun _ => ⟨fun _ => ⟨vp_in_nI (by omega) (by decide), fun V5 e5 => ⟨vp_in_nI (by omega) (by decide), fun V7 e7 => ⟨rfl, fun _ => ?_⟩⟩⟩, fun c => absurd v c⟩⟩⟩
    have k7 : Fc V12 V7 (fun a b i => a = 6 ∧ (b = 31 ∨ b = 32) ∧ i = 96 * q + (16 * j + f)) := by
      rw [e7, e5]
      exact (Fc_wrI ⟨rfl, by omega, rfl⟩).trans (Fc_wrI ⟨rfl, by omega, rfl⟩)
    have kk : Fc V V7 (fuS q) := (k12.mono (fun a b i y => Or.inl ⟨y.1, by have := y.2; omega⟩)).trans (k7.mono (fun a b i y => Or.inr ⟨y.1, by
      obtain ⟨_, yb, yi⟩ := y
      rcases yb with rfl | rfl
      · exact ⟨⟨by decide, by decide, by show 96 * q ≤ i; omega, by show i < 96 * q + 96; omega⟩, by decide, by decide⟩
      · exact ⟨⟨by decide, by decide, by show 96 * q ≤ i; omega, by show i < 96 * q + 96; omega⟩, by decide, by decide⟩⟩))
    have m7 : ∀ b i, vI V7 (q + 1) b i = vI V12 (q + 1) b i := fun b i => k7.i (fun y => by have := y.1; omega)
    have fu7 : FuJ V7 q (tcR R 0) := by
      refine ⟨u, u6, by rw [m7, k12.i (fun y => by have := y.2; omega)]; exact f11, by rw [k7.i (fun y => by have := y.2; omega)]; exact g29, fun j' hj' => ?_⟩
      obtain ⟨b1, b2⟩ := fu j' hj'
      refine ⟨by rw [m7, k12.i (fun y => by have := y.2; omega), k7.i (fun y => by have := y.2; omega), k12.i (n6 _ _)]; exact b1, fun f' hf' => ?_⟩
      by_cases c : j' = j
      · subst c
        have b25 : vI V7 (q + 1) 25 j' = vI V (q + 1) 25 j' ||| (1 : Int32) <<< (nI f &&& 31) := by rw [m7, e12, wrI_ne (fun z => by omega), e10, wrI_at]
        rw [b25, tst_or, tst_one (by omega) (by omega)]
        by_cases c2 : f' = f
        · subst c2
          have i31 : vI V7 6 31 (96 * q + (16 * j' + f')) = 1 := by rw [e7, wrI_ne (fun z => by omega), e5, wrI_at]; decide
          have i32 : vI V7 6 32 (96 * q + (16 * j' + f')) = a3 := by rw [e7, wrI_at]
          have i26 : vI V7 (q + 1) 26 (16 * j' + f') = a3 := by rw [m7, e12, wrI_at]
          rw [i31, i32, i26, decide_eq_true rfl, Bool.or_true]
          exact ⟨⟨fun _ => by decide, fun _ => rfl⟩, fun _ => ⟨rfl, by
            have := Int32.le_iff_toInt_le.mp (Int32.not_lt.mp w)
            rw [show (-9999 : Int32).toInt = -9999 from by decide] at this
            exact this, by
            have := Int32.le_iff_toInt_le.mp v
            rw [show (9999 : Int32).toInt = 9999 from by decide] at this
            exact this⟩⟩
        · have i31 : vI V7 6 31 (96 * q + (16 * j' + f')) = vI V 6 31 (96 * q + (16 * j' + f')) := by rw [k7.i (fun y => by have := y.2.2; omega), k12.i (n6 _ _)]
          have i32 : vI V7 6 32 (96 * q + (16 * j' + f')) = vI V 6 32 (96 * q + (16 * j' + f')) := by rw [k7.i (fun y => by have := y.2.2; omega), k12.i (n6 _ _)]
          have i26 : vI V7 (q + 1) 26 (16 * j' + f') = vI V (q + 1) 26 (16 * j' + f') := by rw [m7, k12.i (fun y => by have := y.2; omega)]
          rw [i31, i32, i26, decide_eq_false c2, Bool.or_false]
          exact b2 f' hf'
      · have i25 : vI V7 (q + 1) 25 j' = vI V (q + 1) 25 j' := by rw [m7, k12.i (fun y => by have := y.2; omega)]
        have i31 : vI V7 6 31 (96 * q + (16 * j' + f')) = vI V 6 31 (96 * q + (16 * j' + f')) := by rw [k7.i (fun y => by have := y.2.2; omega), k12.i (n6 _ _)]
        have i32 : vI V7 6 32 (96 * q + (16 * j' + f')) = vI V 6 32 (96 * q + (16 * j' + f')) := by rw [k7.i (fun y => by have := y.2.2; omega), k12.i (n6 _ _)]
        have i26 : vI V7 (q + 1) 26 (16 * j' + f') = vI V (q + 1) 26 (16 * j' + f') := by rw [m7, k12.i (fun y => by have := y.2; omega)]
        rw [i25, i31, i32, i26]
        exact b2 f' hf'
    exact hS.dy hB hq (kk.mono (fun a f j y => fuS_dy y)) ((hS.2.2.2.2.2.2.1.same kk (fun f j y => by
      rcases y with ⟨y, _⟩ | ⟨_, _, y⟩
      · omega
      · omega)).mono hB) (Or.inr ⟨t, n, R, nt, fa, h, px, cs, hI.fu kk fu7⟩))
end
