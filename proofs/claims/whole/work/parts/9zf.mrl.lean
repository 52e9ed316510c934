/-! the reference reads rules -/
section
variable {E : EE} {d : Nat} {V V' : VH} {p : Nat} {t : Nat → Int32} {n : Nat} {tc : Nat → Nat} {nm : Nat → Nat → Int64} {i : Nat} {R : List SR} {r : SR} {F : Nat}
theorem ms_rule {K : VH → Prop} (hF : eFr E) (h0 : 200 < d) (h : MZ V p t n (tcR R) (nmR R) (i + 1) 0) (hn : n ≤ 20000) (hX : TxM V p t n) (hK : Kpt V p (tkT t n) (MR R) 0 (i + 1)) (hD : MDt V p R) (hw : WR (tkT t n) F (tln t n) R i) (hFl : 8 * tln t n + 7 < F) (hS : MStH V p t n R (stR (tkT t n) R F i) K) : vMV E d M_X12_ruleStatement [sl 6 0] V K := by
  obtain ⟨he, hy⟩ := hS
  have hp := h.1.2.2.1
  refine vM_wf (fun hW => ?_)
  have N23 : vN V 6 23 = 5 := hW.2.1 6 hW.1.2.1 (23, 5) (by decide)
  have L23 : SL (vL V) 6 23 14 := ⟨hW.1.2.1, by decide, by decide⟩
  have e47 : ∀ {W : VH}, Fc V W (mfS p) → vI W 6 0 47 = nI p := fun f => by rw [f.i (fun y => by obtain ⟨_, y⟩ := y; omega)]; exact h.1.2.1
  have vp47 : ∀ {W : VH}, Fc V W (mfS p) → vp_in (vI W 6 0 47) 5 := fun f => by rw [e47 f]; exact vp_in_nI hp (by decide)
  have dead60 : ∀ (W : VH) (e : Nat × Nat), stR (tkT t n) R F i = .inl e → Fc V W (mfS p) → Wrg W e → vwp E d M_X12_ruleStatement 60 [some (sl 6 0), none, none, none, none] [] W (zv K) := fun W e z f w => w_X12_ruleStatement_60 (by omega) (md_aNumber (by omega) w.dead (md_need (by omega) w.dead (md_aNumber (by omega) w.dead (md_need (by omega) w.dead ⟨vp47 f, md_test (by omega) w.dead (md_need (by omega) w.dead ⟨fun _ => he e z W f w, fun q => absurd q w.dead⟩)⟩))))
  refine w_X12_ruleStatement_0 (by omega) (ms_newName (s := 2) (most := 24) hF (by omega) h (by decide) (by decide) (hw.1 2 (by decide)) (fun e z V1 f1 w1 => md_need (by omega) w1.dead ⟨fun _ => dead60 V1 e (by unfold stR; rw [z]; rfl) f1 w1, fun q => absurd q w1.dead⟩) (fun z V1 m1 => ?_))
  have e1 : stR (tkT t n) R F i = (if (tkT t n (i + 1 + 1)).1 = 304 then nrB (nmr (tkT t n) false 0 2 (i + 1 + 1 + 1)) (fun i2 x => if x = 0 ∧ 12 ≤ hdR R then .inl (6, (tkT t n (i2 - 1)).f) else if (tkT t n i2).1 = 42 then nrB (nmr (tkT t n) false 1 1000 (i2 + 1)) (fun i3 w => stB (tkT t n) R F 2 0 i [x, w] i3) else .inl (rfe (tkT t n) i2)) else .inl (rfe (tkT t n) (i + 1 + 1))) := by unfold stR; rw [z]; rfl
  obtain ⟨_, q2, q3, q4⟩ := nwn_inr z
  have f1 := m1.1
  refine ms_need (c := 304) hF (by omega) m1.2.1 rfl (by decide) (by decide) (fun V3 m3 => ?_)
  unfold nee at m3
  by_cases c304 : (tkT t n (i + 1 + 1)).1 = 304
  rotate_left
  · rw [if_neg c304] at m3 e1
    exact ⟨fun _ => dead60 V3 _ e1 (f1.trans m3.mt) m3.wrg, fun q => absurd q m3.dead⟩
  rw [if_pos c304] at m3 e1
  have f3 := f1.trans m3.mt
  have s3 := m3.2.1
  have h12 := hw.2.2.2.2.1
  -- a level that may be
  have live60 : ¬ ((tkT t n (i + 1 + 1 + 1)).1 = 2 ∧ (tkT t n (i + 1 + 1 + 1)).2.2.1 = 0 ∧ 12 ≤ hdR R) → vwp E d M_X12_ruleStatement 60 [some (sl 6 0), none, none, none, none] [] V3 (zv K) := by
    intro ok
    refine w_X12_ruleStatement_60 (by omega) (ms_aNumber (lo := 0) (hi := 2) hF (by omega) s3 rfl rfl (by decide) (by decide) (fun V5 m5 => ?_))
    cases w5 : nmr (tkT t n) false 0 2 (i + 1 + 1 + 1) with
    | inl e =>
      rw [w5] at m5 e1
      have m5 : MO V3 V5 p t n (tcR R) (nmR R) 0 (i + 1 + 1 + 1) (.inl e) := m5
      exact md_need (by omega) m5.dead (md_aNumber (by omega) m5.dead (md_need (by omega) m5.dead ⟨vp47 (f3.trans m5.mt), md_test (by omega) m5.dead (md_need (by omega) m5.dead ⟨fun _ => he e e1 V5 (f3.trans m5.mt) m5.wrg, fun q => absurd q m5.dead⟩)⟩))
    | inr q =>
      obtain ⟨i2, x⟩ := q
      rw [w5] at m5 e1
      have m5 : MO V3 V5 p t n (tcR R) (nmR R) 0 (i + 1 + 1 + 1) (.inr i2) := m5
      obtain ⟨cN, ei2, ex, _, x2⟩ := nmr_num w5
      have x3 : vI V3 6 0 42 = x := (s3.tok.2.2.2 cN).trans ex.symm
      rw [x3]
      have e1 : stR (tkT t n) R F i = (if x = 0 ∧ 12 ≤ hdR R then .inl (6, (tkT t n (i2 - 1)).f) else if (tkT t n i2).1 = 42 then nrB (nmr (tkT t n) false 1 1000 (i2 + 1)) (fun i3 w => stB (tkT t n) R F 2 0 i [x, w] i3) else .inl (rfe (tkT t n) i2)) := e1
      rw [if_neg (fun y => ok ⟨cN, nI_0' (by omega) (ex.symm.trans y.1), y.2⟩)] at e1
      have f5 := f3.trans m5.mt
      refine ms_need (c := 42) hF (by omega) m5.2.1 rfl (by decide) (by decide) (fun V6 m6 => ?_)
      unfold nee at m6
      by_cases c42 : (tkT t n i2).1 = 42
      rotate_left
      · rw [if_neg c42] at m6 e1
        exact md_aNumber (by omega) m6.dead (md_need (by omega) m6.dead ⟨vp47 (f5.trans m6.mt), md_test (by omega) m6.dead (md_need (by omega) m6.dead ⟨fun _ => he _ e1 V6 (f5.trans m6.mt) m6.wrg, fun q => absurd q m6.dead⟩)⟩)
      rw [if_pos c42] at m6 e1
      have f6 := f5.trans m6.mt
      refine ms_aNumber (lo := 1) (hi := 1000) hF (by omega) m6.2.1 rfl rfl (by decide) (by decide) (fun V8 m8 => ?_)
      cases w8 : nmr (tkT t n) false 1 1000 (i2 + 1) with
      | inl e =>
        rw [w8] at m8 e1
        have m8 : MO V6 V8 p t n (tcR R) (nmR R) 0 (i2 + 1) (.inl e) := m8
        exact md_need (by omega) m8.dead ⟨vp47 (f6.trans m8.mt), md_test (by omega) m8.dead (md_need (by omega) m8.dead ⟨fun _ => he e e1 V8 (f6.trans m8.mt) m8.wrg, fun q => absurd q m8.dead⟩)⟩
      | inr q =>
        obtain ⟨i3, w⟩ := q
        rw [w8] at m8 e1
        have m8 : MO V6 V8 p t n (tcR R) (nmR R) 0 (i2 + 1) (.inr i3) := m8
        have e1 : stR (tkT t n) R F i = stB (tkT t n) R F 2 0 i [x, w] i3 := e1
        obtain ⟨cM, ei3, ew, _, _⟩ := nmr_num w8
        have w6 : vI V6 6 0 42 = w := (m6.2.1.tok.2.2.2 cM).trans ew.symm
        rw [w6]
        have f8 := f6.trans m8.mt
        refine ms_need (c := 58) hF (by omega) m8.2.1 rfl (by decide) (by decide) (fun V7 m7 => ?_)
        unfold nee at m7
        by_cases c58 : (tkT t n i3).1 = 58
        rotate_left
        · rw [if_neg c58] at m7
          exact ⟨vp47 (f8.trans m7.mt), md_test (by omega) m7.dead (md_need (by omega) m7.dead ⟨fun _ => he _ (by rw [e1]; unfold stB; rw [if_neg c58]) V7 (f8.trans m7.mt) m7.wrg, fun q => absurd q m7.dead⟩)⟩
        rw [if_pos c58] at m7
        have f7 := f8.trans m7.mt
        have s7 := m7.2.1
        have b7 : vI V7 6 9 p = nI (i3 + 1) := s7.2.2.2.2.1
        rw [e47 f7, nI_clamp (show p < 2 ^ 31 by omega), b7]
        refine ⟨vp_in_nI hp (by decide), ?_⟩
        have iL := s7.2.2.2.1
        refine prsM hF F 0 0 0 (Or.inl (by decide)) (fun _ => rfl) (fun y => absurd y (by decide)) (d - 1) (i3 + 1) (nbR R) V7 _ (by show 20 + 10 * 13 + 8 ≤ d - 1; omega) s7 (by have : rnk 0 = 7 := rfl; omega) (fun V10 m10 => ?_)
        cases w10 : prz (tkT t n) (lku (tcR R) (nmR R)) F 0 0 0 (i3 + 1) (nbR R) with
        | inl e =>
          rw [rsI_l w10] at m10
          exact md_need (by omega) m10.dead ⟨fun _ => he e (by rw [e1]; exact stB_e c58 w10) V10 (f7.trans m10.mt) m10.wrg, fun q => absurd q m10.dead⟩
        | inr q =>
          obtain ⟨i4, C, N⟩ := q
          rw [rsI_r w10] at m10
          have e1 := e1.trans (stB_n (i := i) (kd := 2) (vs := [x, w]) c58 w10)
          refine ms_need (c := 59) hF (by omega) m10.2.1 rfl (by decide) (by decide) (fun V12 m12 => ?_)
          unfold nee at m12
          by_cases c59 : (tkT t n i4).1 = 59
          rotate_left
          · have m12 := (if_neg (α := (Nat × Nat) ⊕ Nat) c59) ▸ m12
            rw [if_neg c59] at e1
            exact ⟨fun _ => he _ e1 V12 ((f7.trans m10.mt).trans m12.mt) m12.wrg, fun q => absurd q m12.dead⟩
          rw [if_pos c59] at e1
          have m12 : MO V10 V12 p t n (tcR R) (nmR R) 0 i4 (.inr (i4 + 1)) := by rw [if_pos c59] at m12; exact m12
          have s12 := m12.2.1
          have m112 : ML V1 V12 p t n (tcR R) (nmR R) (i + 1 + 1) (.inr (i4 + 1)) := (((((m3.tr m5).tr m6).tr m8).tr m7).tr (m10.tr m12)).ml
          obtain ⟨g12, h50, h51⟩ := m1.g m112
          have f12 := f1.trans m112.mt
          refine ⟨fun q => absurd s12.2.1 q, fun _ => ?_⟩
          obtain ⟨nl, nk, na⟩ := nm_end hX f12 hn q2
          have e24 : (24 : Int32) * nI p + nI (tcR R 2) = nI (24 * p + tcR R 2) := by rw [show (24 : Int32) = nI 24 from rfl, nI_mul, nI_add]
          refine c_tellM (s := 2) (tc' := tcR (R ++ [mkS 2 (tkT t n) R i [x, w] (i3 + 1) i4 (svx (tkT t n) (MR R) (i3 + 1) i4) C N])) (nm' := nmR (R ++ [mkS 2 (tkT t n) R i [x, w] (i3 + 1) i4 (svx (tkT t n) (MR R) (i3 + 1) i4) C N])) s12.1.2.1 hp s12.1.2.2.2 (by decide) (by omega) h50 h51 nl (by unfold nmR; rw [gtR_new (s := 2) rfl]; exact nk) na (tcR_same rfl) (fun u hu => tcR_ne (Ne.symm hu)) (fun u k hk => nmR_old hk) (fun V14 f14 n14 => ?_)
          rw [s12.1.2.1, e24, nI_clamp (show 24 * p + tcR R 2 < 2 ^ 31 by omega)]
          refine ⟨vp_in_nI (by omega) (by decide), fun V17 e17 => ⟨vp_in_nI (by omega) (by decide), fun V19 e19 => ⟨vp_in_nI (by omega) (by decide), fun V21 e21 => ?_⟩⟩⟩
          have s14 := s12.gen f14 (fun f j y => by have := y.2; omega) n14
          have p19 : vI V19 6 0 47 = nI p := by rw [e19, wrI_ne (fun y => by omega), e17, wrI_ne (fun y => by omega)]; exact s14.1.2.1
          rw [p19, i20k] at e21
          have f21 : Fc V14 V21 (fun a f j => a = 6 ∧ (f = 24 ∨ f = 25 ∨ f = 26) ∧ j = 24 * p + tcR R 2) := by rw [e21, e19, e17]; exact ((Fc_wrI ⟨rfl, Or.inl rfl, rfl⟩).trans (Fc_wrI ⟨rfl, Or.inr (Or.inl rfl), rfl⟩)).trans (Fc_wrI ⟨rfl, Or.inr (Or.inr rfl), rfl⟩)
          have p21 : vI V21 6 0 47 = nI p := by rw [f21.i (fun y => by have := y.2; omega)]; exact s14.1.2.1
          have h21 : vI V21 6 23 p = nI (hdR R) := by rw [f21.i (fun y => by have := y.2; omega), f14.i (fun y => by have := y.2; omega), g12 23 _ (by omega) (by omega)]; exact hD.2.2
          rw [p21, nI_clamp (show p < 2 ^ 31 by omega), h21]
          have n21 : vN V21 6 23 = 5 := by rw [f21.n, f14.n, f12.n]; exact N23
          have l21 : SL (vL V21) 6 23 14 := by rw [f21.l, f14.l, f12.l]; exact L23
          -- the end
          have fin : ∀ (c : Int32) (W : VH), W = wrI V21 6 23 p (nI (hdR R) + c) → (c = if x = 0 then 1 else 0) → K W := by
            intro c W eW ec
            have f22 : Fc V21 W (fun a f j => a = 6 ∧ f = 23 ∧ j = p) := by rw [eW]; exact Fc_wrI ⟨rfl, rfl, rfl⟩
            have c22 : Fc V14 W (fun a f j => a = 6 ∧ ((f = 24 ∨ f = 25 ∨ f = 26) ∧ j = 24 * p + tcR R 2 ∨ f = 23 ∧ j = p)) := (f21.mono (fun a f j y => ⟨y.1, Or.inl y.2⟩)).trans (f22.mono (fun a f j y => ⟨y.1, Or.inr y.2⟩))
            have n22 := n14.fc c22 (fun f j hf y => by have := y.2; omega)
            have s22 := s14.gen c22 (fun f j y => by have := y.2; omega) n22
            have b14 : MDb V14 p R := (hD.1.g (fun f j h1 h2 => g12 f j (by omega) (by omega))).fx f14 (fun f j y => by have := y.2; unfold bhS; omega) (fun v hv => (hw.sz hv).2)
            have k22 : ∀ f j, f ≠ 23 → vI W 6 f j = vI V21 6 f j := fun f j hf => f22.i (fun y => hf y.2.1)
            refine hy _ _ e1 W (((f12.mono (fun a f j y => mfS_mt y)).trans (f14.mono (fun a f j y => tlS_mt y))).trans (c22.mono (fun a f j y => by rcases y with ⟨rfl, ⟨h1, rfl⟩ | ⟨rfl, rfl⟩⟩; exact mt_r h1 (by omega) (by omega); exact mt_p (by omega)))) s22 (kpt_end hK m1 m112 (S := fun a f j => a = 6 ∧ 12 ≤ f) ((f14.mono (fun a f j y => ⟨y.1, by have := y.2; omega⟩)).trans (c22.mono (fun a f j y => ⟨y.1, by have := y.2; omega⟩))) (fun f j hf y => by omega) hw.2.1 q3 (by decide : (2 : Nat) < 4) rfl q2) ⟨?_, ?_, ?_⟩ (fun f j hf => ?_)
            · refine MDb.add (b14.fx c22 (fun f j y => by have := y.2; unfold bhS; omega) (fun v hv => (hw.sz hv).2)) (fun y => absurd y (by decide : (2 : Nat) ≠ 0)) (fun y => absurd y (by decide : (2 : Nat) ≠ 1)) (fun _ => ⟨?_, ?_, ?_⟩) (fun y => absurd y (by decide : (2 : Nat) ≠ 3))
              · rw [k22 24 _ (by omega), e21, wrI_ne (fun y => by omega), e19, wrI_ne (fun y => by omega), e17, wrI_at]; rfl
              · rw [k22 25 _ (by omega), e21, wrI_ne (fun y => by omega), e19, wrI_at]; rfl
              · rw [k22 26 _ (by omega), e21, wrI_at]; rfl
            · rw [c22.i (fun y => by have := y.2; omega), f14.i (fun y => by have := y.2; omega), g12 22 _ (by omega) (by omega), plR_ne (r := mkS 2 (tkT t n) R i [x, w] (i3 + 1) i4 (svx (tkT t n) (MR R) (i3 + 1) i4) C N) (by decide : (2 : Nat) ≠ 1)]; exact hD.2.1
            · rw [eW, wrI_at, hdR_add, ec]
              by_cases y : x = 0
              · rw [if_pos y, if_pos (show isH (mkS 2 (tkT t n) R i [x, w] (i3 + 1) i4 (svx (tkT t n) (MR R) (i3 + 1) i4) C N) = true from decide_eq_true ⟨rfl, y⟩), nI_1]
              · rw [if_neg y, if_neg (fun u => y (of_decide_eq_true u).2), Int32.add_zero]; rfl
            · rw [c22.i (fun y => by have := y.2; omega), f14.i (fun y => by have := y.2; omega), g12 f _ (by omega) (by omega)]
          refine ⟨vp_in_nI hp (by decide), fun y => w_X12_ruleStatement_182 l21 ⟨by rw [n21]; exact vp_in_nI hp (by decide), fun W eW => fin 0 W ?_ (by rw [if_neg y])⟩, fun y => w_X12_ruleStatement_182 l21 ⟨by rw [n21]; exact vp_in_nI hp (by decide), fun W eW => fin 1 W ?_ (by rw [if_pos y])⟩⟩
          · rw [nI_clamp (show p < 2 ^ 31 by omega)] at eW; exact eW
          · rw [nI_clamp (show p < 2 ^ 31 by omega)] at eW; exact eW
  have k2 := s3.is 2 (by decide)
  obtain ⟨t1, t2, t3, t4⟩ := s3.tok
  have hd3 : vI V3 6 23 p = nI (hdR R) := by
    rw [m3.1.i (fun y => by have := y.2; omega), m1.2.2.2.2.2.2 23 _ (by omega)]; exact hD.2.2
  refine ⟨fun q => absurd s3.2.1 q, fun _ => ⟨fun q => live60 (fun y => q (k2.mpr y.1)), fun q => ?_⟩⟩
  have c2 := k2.mp q
  have v9 := (tkT_ok t n (i + 1 + 1 + 1)).2.2.2.2.2.2.2 c2
  rw [t4 c2]
  refine ⟨fun q => live60 (fun y => q (by rw [y.2.1]; rfl)), fun q => ?_⟩
  have c0 : (tkT t n (i + 1 + 1 + 1)).2.2.1 = 0 := (nI_eq (b := 0) (by omega) (by decide)).mp q
  rw [s3.1.2.1, nI_clamp (show p < 2 ^ 31 by omega), hd3]
  refine ⟨vp_in_nI hp (by decide), fun q => live60 (fun y => q ?_), fun q => ?_⟩
  · rw [show hdR R = 12 by omega]; rfl
  · have c12 : hdR R = 12 := (nI_eq (b := 12) (by omega) (by decide)).mp q
    have w5 : nmr (tkT t n) false 0 2 (i + 1 + 1 + 1) = .inr (i + 1 + 1 + 1 + 1, nI (tkT t n (i + 1 + 1 + 1)).2.2.1) := by
      unfold nmr
      have e0 : nmj (tkT t n) false (i + 1 + 1 + 1) = i + 1 + 1 + 1 := by unfold nmj; rw [if_neg (fun z => absurd z.1 (by decide))]
      rw [e0, if_pos c2, if_neg (by omega), if_pos rfl]
    rw [w5] at e1
    have e1 : stR (tkT t n) R F i = (if nI (tkT t n (i + 1 + 1 + 1)).2.2.1 = 0 ∧ 12 ≤ hdR R then .inl (6, (tkT t n (i + 1 + 1 + 1 + 1 - 1)).f) else _) := e1
    rw [if_pos ⟨by rw [c0]; rfl, by omega⟩, Nat.add_sub_cancel] at e1
    exact ms_fail s3 rfl t2 (by decide) (by decide) (fun V6 m6 => dead60 V6 _ e1 (f3.trans m6.mt) m6.wrg)
end
