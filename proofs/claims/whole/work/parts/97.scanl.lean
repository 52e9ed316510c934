/-! all tokens of a text, class -/
def scR : Nat → Nat → Prop := fun a f => a = 0 ∧ (f = 2 ∨ f = 3 ∨ f = 4 ∨ f = 5 ∨ f = 6)
theorem tkA_E (t : Nat → Int32) (n j : Nat) : tps t n (j + 1) = (tkT t n j).e := rfl
section
variable {E : EE} {d : Nat} {V : VH} {b c n : Nat}
theorem bs_tok {L : Nat → Bool} (h : BS L b c) : ¬ scR b c ∧ ¬ scR b (c + 1) := by
  obtain ⟨_, ⟨h1, h2⟩ | ⟨h1, h2, h3⟩⟩ := h
  · exact ⟨fun z => by have := z.2; omega, fun z => by have := z.2; omega⟩
  · exact ⟨fun z => h1 z.1, fun z => h1 z.1⟩
theorem c_scan {cap : Nat} {K : VH → Prop} (h0 : 7 < d) (h : Byt V b c n) (hn : n ≤ 20000) (hN : TkN V cap)
    (hk : ∀ V' cap', Fr V V' scR → TkN V' cap' → vI V' 0 2 5 = nI (tcl (vI V b (c + 1)) n) → tcl (vI V b (c + 1)) n < cap' → vI V' 0 2 10 = 0 → vI V' 0 2 11 = 0 → (∀ j, j ≤ tln (vI V b (c + 1)) n → TkR V' j (tkT (vI V b (c + 1)) n j)) → TkA V' 0 → K V') : vMV E d M_X10_scan [sl 0 2, sl b c] V K := by
  obtain ⟨nb, nb1⟩ := bs_tok h.1
  generalize et : vI V b (c + 1) = t at *
  obtain ⟨tl1, tl2, tl3⟩ := tln_ok t n
  have cT : tcl t n ≤ n + 1 := by unfold tcl; split <;> omega
  have tt : ∀ {W : VH}, Fr V W scR → Byt W b c n ∧ vI W b (c + 1) = t := fun f => ⟨h.fr f nb nb1, by rw [f.i nb1]; exact et⟩
  -- the end
  have fin : ∀ (W : VH) (cp : Nat) (x2 x3 : Int32), Fr V W scR → TkN W cp → tcl t n ≤ cp → vI W 0 2 5 = nI (tcl t n) → vI W 0 2 10 = 0 → vI W 0 2 11 = 0 → (∀ j, j < tcl t n → TkR W j (tkT t n j)) → vwp E d M_X10_scan 125 [some (sl 0 2), some (sl b c), some (wi x2), some (wi x3), none] [] W (zv K) := fun W cp x2 x3 w wn wc wct w10 w11 wr => by
    obtain ⟨y, yt⟩ := tt w
    refine w_X10_scan_125 y.1 (by omega) ?_
    rw [y.2.1]
    refine c_write (by omega) wn wct (by omega) wc (fun V1 cap' a1 a2 a3 a4 a5 a6 a7 a8 V5 e5 => ?_)
    have f1 : Fr W V1 scR := a1.mono (fun a f z => ⟨z.1, by have := z.2; omega⟩)
    have f5 : Fr V1 V5 scR := by rw [e5]; exact Fr_wrI ⟨rfl, Or.inl rfl⟩
    have ct5 : vI V5 0 2 5 = nI (tcl t n) := by rw [e5, wrI_ne (fun z => by omega), a1.i (fun z => by have := z.2; omega)]; exact wct
    have n5 : TkN V5 cap' := by rw [e5]; exact a2
    refine c_step0 n5 ct5 a3 (by rw [e5]; exact wrI_at) (fun V6 f6 t6 => ?_)
    have f6' : Fr V5 V6 scR := f6.fr (fun a f i z => ⟨z.1, Or.inl z.2.1⟩)
    have i6 : ∀ f j, f ≠ 2 → vI V6 0 f j = vI V1 0 f j := fun f j hf => by rw [f6.i (fun z => hf z.2.1), e5, wrI_ne (fun z => hf z.2.1)]
    have j6 : ∀ f j, f ≠ 2 → vJ V6 0 f j = vJ V1 0 f j := fun f j hf => by rw [f6.j (fun z => hf z.2.1), e5]; rfl
    have o6 : ∀ k, k = 10 ∨ k = 11 ∨ k = 5 → vI V6 0 2 k = vI W 0 2 k := fun k hk2 => by
      rw [f6.i (fun z => by have := z.2.2; omega), e5, wrI_ne (fun z => by omega), a1.i (fun z => by have := z.2; omega)]
    refine hk V6 cap' (((w.trans f1).trans f5).trans f6') ⟨by rw [f6.n]; exact n5.1, by rw [f6.n]; exact n5.2.1, by rw [f6.n]; exact n5.2.2.1, by rw [f6.n]; exact n5.2.2.2.1, n5.2.2.2.2.1, n5.2.2.2.2.2⟩ (by rw [o6 5 (by omega)]; exact wct) a3 (by rw [o6 10 (by omega)]; exact w10) (by rw [o6 11 (by omega)]; exact w11) (fun j hj => ?_) t6
    have up : ∀ {T : TK}, TkR V1 j T → TkR V6 j T := fun q => ⟨by rw [i6 3 j (by omega)]; exact q.1, fun z => by rw [j6 4 j (by omega)]; exact q.2.1 z, by rw [i6 5 j (by omega)]; exact q.2.2.1, by rw [i6 6 j (by omega)]; exact q.2.2.2⟩
    apply up
    by_cases cj : j < tcl t n
    · exact (wr j cj).s a4 cj
    · -- the end itself
      have hj2 : j = tln t n ∧ tcl t n = tln t n := by
        unfold tcl at cj ⊢
        split at cj
        · omega
        · rename_i q; rw [if_neg q]; omega
      have c0 : (tkT t n j).1 = 0 := by
        rw [hj2.1]
        rcases tl3 with z | z
        · exact z
        · have := hj2.2
          unfold tcl at this
          rw [if_pos z] at this
          omega
      obtain ⟨_, _, _, _, _, e6, _⟩ := tkT_ok t n j
      obtain ⟨e61, e62⟩ := e6 c0
      have ej : j = tcl t n := by omega
      rw [ej] at c0 e61 e62 ⊢
      refine ⟨by rw [a5, c0]; rfl, fun _ => ?_, by rw [a7, e61], by rw [a8, e62]⟩
      rw [a6]
      unfold clX
      rw [c0]
      rfl
  have go : ∀ (m j : Nat) (W : VH) (cp : Nat), j + m = tln t n → Fr V W scR → TkN W cp → j ≤ cp → vI W 0 2 5 = nI j → vI W 0 2 10 = 0 → vI W 0 2 11 = 0 → (∀ i, i < j → TkR W i (tkT t n i)) → vwp E d M_X10_scan 19 [some (sl 0 2), some (sl b c), some (wi (nI (tps t n j))), some (wi (nI j)), none] [] W (zv K) := by
    intro m
    induction m with
    | zero =>
      intro j W cp ej w wn wc wct w10 w11 wr
      have hj : j = tln t n := by omega
      obtain ⟨y, yt⟩ := tt w
      refine w_X10_scan_19 y.1 (by omega) ⟨fun q => absurd q (by rw [y.2.1]; exact fun z => absurd (nI_le (a := j) (b := n) (by omega) (by omega)) (Int32.not_le.mpr z)), fun _ => ?_⟩
      have tp := tps_le t n j
      refine c_afterBlanks (by omega) y tp ?_
      rw [yt]
      obtain ⟨s1, s2⟩ := skb_in t (n - tps t n j) false (tps t n j)
      have okP := tkP_ok t (n := n) (p := skb t (n - tps t n j) false (tps t n j)) (by omega)
      have eT : tkT t n j = tkP t n (skb t (n - tps t n j) false (tps t n j)) := rfl
      generalize skb t (n - tps t n j) false (tps t n j) = p at *
      rw [← eT] at okP
      by_cases c0 : n ≤ p
      · -- the end
        have z : (tkT t n j).1 = 0 := okP.2.2.2.2.1.mpr c0
        have ec : tcl t n = j := by unfold tcl; rw [if_neg (by rw [← hj, z]; decide)]; exact hj.symm
        refine c_atn y c0 (by omega) ⟨fun z => absurd z (by decide), fun _ => fin W cp _ _ w wn (by omega) (by rw [ec]; exact wct) w10 w11 (fun i hi => wr i (by omega))⟩
      · -- a token that is none
        have nz : (tkT t n j).1 ≠ 0 := fun z => c0 (okP.2.2.2.2.1.mp z)
        have c3 : (tkT t n j).1 = 3 := by
          rw [hj] at nz ⊢
          rcases tl3 with z | z
          · exact absurd z nz
          · exact z
        have ec : tcl t n = j + 1 := by unfold tcl; rw [if_pos (by rw [← hj]; exact c3)]; omega
        have hb := bt_lt t p
        refine c_atb y (by omega) ?_
        rw [yt]
        have last : ∀ (V' : VH) (cap' : Nat) (x4 : Int32), Fr W V' tkR → TkN V' cap' → j < cap' → TkS W V' j → TkR V' j (tkT t n j) → vwp E d M_X10_scan 91 [some (sl 0 2), some (sl b c), some (wi (nI (tkT t n j).e)), some (wi (nI j)), some (wi x4)] [] V' (zv K) := fun V' cap' x4 a1 a2 a3 a4 a5 => by
          have f1 : Fr W V' scR := a1.mono (fun a f z => ⟨z.1, by have := z.2; omega⟩)
          obtain ⟨y', yt'⟩ := tt (w.trans f1)
          refine w_X10_scan_91 y'.1 (fun V1 e1 => ?_)
          have f2 : Fr V' V1 scR := by rw [e1]; exact Fr_wrI ⟨rfl, Or.inl rfl⟩
          have ct : vI V1 0 2 5 = nI (j + 1) := by rw [e1, wrI_at, a1.i (fun z => by have := z.2; omega), wct, nI_1]
          have k3 : vI V1 0 3 j = 1 := by rw [e1, wrI_ne (fun z => by omega), a5.1, c3]; rfl
          rw [ct, show nI (j + 1) - 1 = nI j from nI_pred j, nI_clamp (show j < 2 ^ 31 by omega), k3]
          have n1 : TkN V1 cap' := by rw [e1]; exact a2
          rw [n1.1]
          refine ⟨vp_in_nI a3 (by have := a2.2.2.2.2.2; omega), fun z => absurd rfl z, fun _ => ?_⟩
          refine fin V1 cap' _ _ ((w.trans f1).trans f2) n1 (by omega) (by rw [ec]; exact ct) ?_ ?_ (fun i hi => ?_)
          · rw [e1, wrI_ne (fun z => by omega), a1.i (fun z => by have := z.2; omega)]; exact w10
          · rw [e1, wrI_ne (fun z => by omega), a1.i (fun z => by have := z.2; omega)]; exact w11
          · have q : TkR V' i (tkT t n i) := by
              by_cases ci : i = j
              · rw [ci]; exact a5
              · exact (wr i (by omega)).s a4 (by omega)
            rw [e1]
            exact ⟨(wrI_ne (fun z => by omega)).trans q.1, fun z => q.2.1 z, (wrI_ne (fun z => by omega)).trans q.2.2.1, (wrI_ne (fun z => by omega)).trans q.2.2.2⟩
        refine ⟨fun _ => c_isLetter hb ?_, fun z => absurd (Int32.not_lt.mp (nI_pos (by omega))) z⟩
        cases ql : isL (bt t p) with
        | true =>
          have eN : tkT t n j = tkName t n p := by rw [eT]; unfold tkP; rw [if_neg c0, if_pos ql]
          refine ⟨fun z => absurd z (by decide), fun _ => c_readName (by omega) y (by omega) wn wct (by omega) wc (fun V' cap' a1 a2 a3 a4 a5 => ?_)⟩
          rw [yt, ← eN] at a5 ⊢
          exact last V' cap' _ a1 a2 a3 a4 a5
        | false =>
          refine ⟨fun _ => c_isFigure hb ?_, fun z => absurd rfl z⟩
          cases qf : isF (bt t p) with
          | true =>
            have eN : tkT t n j = tkNum t n p := by rw [eT]; unfold tkP; rw [if_neg c0, if_neg (by rw [ql]; decide), if_pos qf]
            refine ⟨fun z => absurd z (by decide), fun _ => c_readNumber (by omega) y (by omega) wn wct (by omega) wc (fun V' cap' a1 a2 a3 a4 a5 => ?_)⟩
            rw [yt, ← eN] at a5 ⊢
            exact last V' cap' _ a1 a2 a3 a4 a5
          | false =>
            have eN : tkT t n j = tkSign t n p := by rw [eT]; unfold tkP; rw [if_neg c0, if_neg (by rw [ql]; decide), if_neg (by rw [qf]; decide)]
            refine ⟨fun _ => c_readSign (by omega) y (by omega) wn wct (by omega) wc (fun V' cap' a1 a2 a3 a4 a5 => ?_), fun z => absurd rfl z⟩
            rw [yt, ← eN] at a5 ⊢
            exact last V' cap' _ a1 a2 a3 a4 a5
    | succ m ih =>
      intro j W cp ej w wn wc wct w10 w11 wr
      have hj : j < tln t n := by omega
      obtain ⟨nz, n3⟩ := tl2 j hj
      obtain ⟨y, yt⟩ := tt w
      refine w_X10_scan_19 y.1 (by omega) ⟨fun q => absurd q (by rw [y.2.1]; exact fun z => absurd (nI_le (a := j) (b := n) (by omega) (by omega)) (Int32.not_le.mpr z)), fun _ => ?_⟩
      have tp := tps_le t n j
      refine c_afterBlanks (by omega) y tp ?_
      rw [yt]
      obtain ⟨s1, s2⟩ := skb_in t (n - tps t n j) false (tps t n j)
      have okP := tkP_ok t (n := n) (p := skb t (n - tps t n j) false (tps t n j)) (by omega)
      have eT : tkT t n j = tkP t n (skb t (n - tps t n j) false (tps t n j)) := rfl
      have vc := (tkT_ok t n j).1
      generalize skb t (n - tps t n j) false (tps t n j) = p at *
      rw [← eT] at okP
      have c0 : ¬ n ≤ p := fun z => nz (okP.2.2.2.2.1.mpr z)
      have hb := bt_lt t p
      refine c_atb y (by omega) ?_
      rw [yt]
      have last : ∀ (V' : VH) (cap' : Nat) (x4 : Int32), Fr W V' tkR → TkN V' cap' → j < cap' → TkS W V' j → TkR V' j (tkT t n j) → vwp E d M_X10_scan 91 [some (sl 0 2), some (sl b c), some (wi (nI (tkT t n j).e)), some (wi (nI j)), some (wi x4)] [] V' (zv K) := fun V' cap' x4 a1 a2 a3 a4 a5 => by
        have f1 : Fr W V' scR := a1.mono (fun a f z => ⟨z.1, by have := z.2; omega⟩)
        obtain ⟨y', yt'⟩ := tt (w.trans f1)
        refine w_X10_scan_91 y'.1 (fun V1 e1 => ?_)
        have f2 : Fr V' V1 scR := by rw [e1]; exact Fr_wrI ⟨rfl, Or.inl rfl⟩
        have ct : vI V1 0 2 5 = nI (j + 1) := by rw [e1, wrI_at, a1.i (fun z => by have := z.2; omega), wct, nI_1]
        have k3 : vI V1 0 3 j = clK (tkT t n j).1 := by rw [e1, wrI_ne (fun z => by omega), a5.1]
        have k3n : ¬ clK (tkT t n j).1 = 1 := by
          unfold clK
          rw [if_neg nz]
          split
          · decide
          · split
            · decide
            · first | decide | (rw [if_neg n3]; decide)
        rw [ct, show nI (j + 1) - 1 = nI j from nI_pred j, nI_clamp (show j < 2 ^ 31 by omega), k3]
        have n1 : TkN V1 cap' := by rw [e1]; exact a2
        rw [n1.1]
        refine ⟨vp_in_nI a3 (by have := a2.2.2.2.2.2; omega), fun _ => ?_, fun z => absurd z k3n⟩
        rw [nI_1]
        refine ih (j + 1) V1 cap' (by omega) ((w.trans f1).trans f2) n1 (by omega) ct ?_ ?_ (fun i hi => ?_)
        · rw [e1, wrI_ne (fun z => by omega), a1.i (fun z => by have := z.2; omega)]; exact w10
        · rw [e1, wrI_ne (fun z => by omega), a1.i (fun z => by have := z.2; omega)]; exact w11
        · have q : TkR V' i (tkT t n i) := by
            by_cases ci : i = j
            · rw [ci]; exact a5
            · exact (wr i (by omega)).s a4 (by omega)
          rw [e1]
          exact ⟨(wrI_ne (fun z => by omega)).trans q.1, fun z => q.2.1 z, (wrI_ne (fun z => by omega)).trans q.2.2.1, (wrI_ne (fun z => by omega)).trans q.2.2.2⟩
      refine ⟨fun _ => c_isLetter hb ?_, fun z => absurd (Int32.not_lt.mp (nI_pos (by omega))) z⟩
      cases ql : isL (bt t p) with
      | true =>
        have eN : tkT t n j = tkName t n p := by rw [eT]; unfold tkP; rw [if_neg c0, if_pos ql]
        refine ⟨fun z => absurd z (by decide), fun _ => c_readName (by omega) y (by omega) wn wct (by omega) wc (fun V' cap' a1 a2 a3 a4 a5 => ?_)⟩
        rw [yt, ← eN] at a5 ⊢
        exact last V' cap' _ a1 a2 a3 a4 a5
      | false =>
        refine ⟨fun _ => c_isFigure hb ?_, fun z => absurd rfl z⟩
        cases qf : isF (bt t p) with
        | true =>
          have eN : tkT t n j = tkNum t n p := by rw [eT]; unfold tkP; rw [if_neg c0, if_neg (by rw [ql]; decide), if_pos qf]
          refine ⟨fun z => absurd z (by decide), fun _ => c_readNumber (by omega) y (by omega) wn wct (by omega) wc (fun V' cap' a1 a2 a3 a4 a5 => ?_)⟩
          rw [yt, ← eN] at a5 ⊢
          exact last V' cap' _ a1 a2 a3 a4 a5
        | false =>
          have eN : tkT t n j = tkSign t n p := by rw [eT]; unfold tkP; rw [if_neg c0, if_neg (by rw [ql]; decide), if_neg (by rw [qf]; decide)]
          refine ⟨fun _ => c_readSign (by omega) y (by omega) wn wct (by omega) wc (fun V' cap' a1 a2 a3 a4 a5 => ?_), fun z => absurd rfl z⟩
          rw [yt, ← eN] at a5 ⊢
          exact last V' cap' _ a1 a2 a3 a4 a5
  refine w_X10_scan_0 h.1 (fun V1 e1 V2 e2 V3 e3 => ?_)
  have f3 : Fr V V3 scR := by
    rw [e3, e2, e1]
    exact ((Fr_wrI ⟨rfl, Or.inl rfl⟩).trans (Fr_wrI ⟨rfl, Or.inl rfl⟩)).trans (Fr_wrI ⟨rfl, Or.inl rfl⟩)
  refine go (tln t n) 0 V3 cap (by omega) f3 (by rw [e3, e2, e1]; exact hN) (Nat.zero_le _) ?_ ?_ ?_ (fun i hi => absurd hi (Nat.not_lt_zero i))
  · rw [e3, wrI_ne (fun z => by omega), e2, wrI_ne (fun z => by omega), e1, wrI_at]; rfl
  · rw [e3, wrI_ne (fun z => by omega), e2, wrI_at]
  · rw [e3, wrI_at]
end
