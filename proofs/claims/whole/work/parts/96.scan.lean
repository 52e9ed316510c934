/-! the class finds all tokens -/
theorem isL_32 : ∀ b : Fin 256, isL b.val = true ↔ ¬ ((nI b.val ||| 32) < 97) ∧ ¬ (122 < (nI b.val ||| 32)) := by decide +kernel
theorem isF_32 : ∀ b : Fin 256, isF b.val = true ↔ ¬ (nI b.val < 48) ∧ ¬ (57 < nI b.val) := by decide +kernel
theorem bI_t : bI true = 1 := rfl
theorem bI_f : bI false = 0 := rfl
/-- row j of the class's tokens is T -/
def TkR (V : VH) (j : Nat) (T : TK) : Prop := vI V 0 3 j = clK T.1 ∧ (T.1 ≠ 3 → vJ V 0 4 j = clX T) ∧ vI V 0 5 j = nI T.f ∧ vI V 0 6 j = nI T.e
theorem TkR.s {V V' : VH} {j m : Nat} {T : TK} (h : TkR V j T) (k : TkS V V' m) (hj : j < m) : TkR V' j T := by
  obtain ⟨a, b, c, d⟩ := k j hj
  exact ⟨a.trans h.1, fun z => b.trans (h.2.1 z), c.trans h.2.2.1, d.trans h.2.2.2⟩
def tcl (t : Nat → Int32) (n : Nat) : Nat := if (tkT t n (tln t n)).1 = 3 then tln t n + 1 else tln t n
section
variable {E : EE} {d : Nat} {V : VH} {b c n : Nat}
theorem c_isLetter {x : Nat} {K : Int32 → VH → Prop} (hx : x < 256) (hk : K (bI (isL x)) V) : vMI E d M_X10_isLetter [wi (nI x)] V K := by
  have z := isL_32 ⟨x, hx⟩
  cases q : isL x with
  | true =>
    rw [q] at hk
    have y := z.mp q
    exact w_X10_isLetter_0 ⟨fun w => absurd w y.1, fun _ => ⟨fun w => absurd w y.2, fun _ => hk⟩⟩
  | false =>
    rw [q] at hk
    refine w_X10_isLetter_0 ⟨fun _ => hk, fun w => ⟨fun _ => hk, fun w2 => ?_⟩⟩
    have := z.mpr ⟨w, w2⟩
    rw [q] at this; cases this
theorem c_isFigure {x : Nat} {K : Int32 → VH → Prop} (hx : x < 256) (hk : K (bI (isF x)) V) : vMI E d M_X10_isFigure [wi (nI x)] V K := by
  have z := isF_32 ⟨x, hx⟩
  cases q : isF x with
  | true =>
    rw [q] at hk
    have y := z.mp q
    exact w_X10_isFigure_0 ⟨fun w => absurd w y.1, fun _ => ⟨fun w => absurd w y.2, fun _ => hk⟩⟩
  | false =>
    rw [q] at hk
    refine w_X10_isFigure_0 ⟨fun _ => hk, fun w => ⟨fun _ => hk, fun w2 => ?_⟩⟩
    have := z.mpr ⟨w, w2⟩
    rw [q] at this; cases this
theorem c_atb {j : Nat} {K : Int32 → VH → Prop} (h : Byt V b c n) (hj : j < n) (hk : K (nI (bt (vI V b (c + 1)) j)) V) : vMI E d M_X0_at [sl b c, wi (nI j)] V K :=
  c_at_in h hj (by rw [bt_nI]; exact hk)
theorem c_atn {j : Nat} {K : Int32 → VH → Prop} (h : Byt V b c n) (hj : n ≤ j) (hj2 : j < 2 ^ 31) (hk : K (-1) V) : vMI E d M_X0_at [sl b c, wi (nI j)] V K :=
  c_at_out h (fun i hi e => by have := (nI_eq (by omega) (by have := h.2.2.1; have := h.2.2.2.2; omega)).mp e; omega) hk
theorem nI_eqc {a : Nat} (m : Nat) (ha : a < 2 ^ 31) (hm : m < 2 ^ 31) : nI a = nI m ↔ a = m := nI_eq ha hm
theorem c_afterBlanks {i : Nat} {K : Int32 → VH → Prop} (h0 : 1 < d) (h : Byt V b c n) (hi : i ≤ n) (hk : K (nI (skb (vI V b (c + 1)) (n - i) false i)) V) : vMI E d M_X10_afterBlanks [sl b c, wi (nI i)] V K := by
  have hn : n ≤ 60000 := by have := h.2.2.1; have := h.2.2.2.2; omega
  have el : vI V b c 1 = nI n := h.2.1
  have go : ∀ (k j : Nat) (r : Bool) (x1 : Int32), j + k = n → K (nI (skb (vI V b (c + 1)) k r j)) V → vwp E d M_X10_afterBlanks 4 [some (sl b c), some (wi x1), some (wi (bI r)), some (wi (nI j)), none] [] V (zi K) := by
    intro k
    induction k with
    | zero =>
      intro j r x1 e hk
      refine w_X10_afterBlanks_4 h.1 (by omega) ⟨fun _ => ?_, fun q => absurd (by rw [el]; exact nI_le (by omega) (by omega)) q⟩
      rw [el, show n = j from by omega]
      exact hk
    | succ k ih =>
      intro j r x1 e hk
      have hb := bt_lt (vI V b (c + 1)) j
      have nx : ∀ (r' : Bool) (x4 : Int32), K (nI (skb (vI V b (c + 1)) k r' (j + 1))) V → vwp E d M_X10_afterBlanks 70 [some (sl b c), some (wi x1), some (wi (bI r')), some (wi (nI j)), some (wi x4)] [] V (zi K) := fun r' x4 q => by
        refine w_X10_afterBlanks_70 h.1 ?_
        rw [nI_1]
        exact ih (j + 1) r' x1 (by omega) q
      refine w_X10_afterBlanks_4 h.1 (by omega) ⟨fun q => absurd q (by rw [el]; exact nI_ge (by omega) (by omega)), fun _ => c_atb h (by omega) ?_⟩
      have d10 := nI_eqc (a := bt (vI V b (c + 1)) j) 10 (by omega) (by decide)
      have d37 := nI_eqc (a := bt (vI V b (c + 1)) j) 37 (by omega) (by decide)
      have d32 := nI_eqc (a := bt (vI V b (c + 1)) j) 32 (by omega) (by decide)
      have d9 := nI_eqc (a := bt (vI V b (c + 1)) j) 9 (by omega) (by decide)
      have d13 := nI_eqc (a := bt (vI V b (c + 1)) j) 13 (by omega) (by decide)
      rw [skb] at hk
      refine ⟨fun q10 => ⟨fun q37 => ⟨fun qr => ?_, fun qr => ⟨fun q => ?_, fun q32 => ⟨fun q => ?_, fun q9 => ⟨fun q => ?_, fun q13 => ?_⟩⟩⟩⟩, fun q37 => ?_⟩, fun q10 => ?_⟩
      · rw [if_neg (fun z => q10 (d10.mpr z)), if_neg (fun z => q37 (d37.mpr z))] at hk
        have er : r = true := by cases r; exact absurd rfl qr; rfl
        rw [if_pos (Or.inl er)] at hk
        exact nx r _ hk
      · rw [if_neg (fun z => q10 (d10.mpr z)), if_neg (fun z => q37 (d37.mpr z)), if_pos (Or.inr (Or.inl (d32.mp q)))] at hk
        exact nx r _ hk
      · rw [if_neg (fun z => q10 (d10.mpr z)), if_neg (fun z => q37 (d37.mpr z)), if_pos (Or.inr (Or.inr (Or.inl (d9.mp q))))] at hk
        exact nx r _ hk
      · rw [if_neg (fun z => q10 (d10.mpr z)), if_neg (fun z => q37 (d37.mpr z)), if_pos (Or.inr (Or.inr (Or.inr (d13.mp q))))] at hk
        exact nx r _ hk
      · rw [if_neg (fun z => q10 (d10.mpr z)), if_neg (fun z => q37 (d37.mpr z)), if_neg (fun z => by
          rcases z with z | z | z | z
          · rw [z] at qr; exact absurd qr (by decide)
          · exact q32 (d32.mpr z)
          · exact q9 (d9.mpr z)
          · exact q13 (d13.mpr z))] at hk
        exact hk
      · rw [if_neg (fun z => q10 (d10.mpr z)), if_pos (d37.mp q37)] at hk
        exact nx true _ hk
      · rw [if_pos (d10.mp q10)] at hk
        exact nx false _ hk
  exact w_X10_afterBlanks_0 h.1 (go (n - i) i false (nI i) (by omega) hk)
theorem fsb_ne {P : Nat → Bool} {n k : Nat} (hk : k < n) (h : ∀ j, j < k → P j = false) (hp : P k = true) : fsb P n = some k := fsb_some hp h hk
theorem c_readName {p cnt cap : Nat} {K : Int32 → VH → Prop} (h0 : 2 < d) (h : Byt V b c n) (hp : p < n) (hN : TkN V cap) (hc : vI V 0 2 5 = nI cnt) (hcnt : cnt ≤ 25000) (hcc : cnt ≤ cap)
    (hk : ∀ V' cap', Fr V V' tkR → TkN V' cap' → cnt < cap' → TkS V V' cnt → TkR V' cnt (tkName (vI V b (c + 1)) n p) → K (nI (tkName (vI V b (c + 1)) n p).e) V') : vMI E d M_X10_readName [sl 0 2, sl b c, wi (nI p)] V K := by
  have hn : n ≤ 60000 := by have := h.2.2.1; have := h.2.2.2.2; omega
  have el : vI V b c 1 = nI n := h.2.1
  obtain ⟨r1, r2, r3⟩ := rnw_in isA (vI V b (c + 1)) (n - p) p
  generalize et : vI V b (c + 1) = t at *
  have fin : ∀ e, e = rnw isA t (n - p) p → vwp E d M_X10_readName 56 [some (sl 0 2), some (sl b c), some (wi (nI p)), some (wj (nL (pkb (bf t p) (e - p)))), none, some (wi (nI e)), none] [] V (zi K) := fun e ee => by
    have es : nI e - nI p = nI (e - p) := nI_sub (by omega)
    unfold tkName at hk
    rw [← ee] at hk
    refine w_X10_readName_56 h.1 (by omega) ⟨fun q => ?_, fun q => ?_⟩
    · have q8 : ¬ 8 < e - p := by
        rw [es] at q
        have := (nI_leI (b := 8) (by omega) (by decide)).mp q
        omega
      rw [if_neg q8] at hk
      have go : ∀ (m w : Nat), w + m = 17 → (∀ j, j < w → decide (wordsF j = nL (pkb (bf t p) (e - p))) = false) → vwp E d M_X10_readName 78 [some (sl 0 2), some (sl b c), some (wi (nI p)), some (wj (nL (pkb (bf t p) (e - p)))), none, some (wi (nI e)), some (wi (nI w))] [] V (zi K) := by
        intro m
        induction m with
        | zero =>
          intro w ew hw
          rw [fsb_none (n := 17) (fun k hk2 => hw k (by omega))] at hk
          refine w_X10_readName_78 h.1 (by omega) ⟨fun _ => ?_, fun z => absurd (nI_le (a := 17) (by omega) (by omega)) z⟩
          exact c_write (by omega) hN hc hcnt hcc (fun V' cap' a1 a2 a3 a4 a5 a6 a7 a8 => hk V' cap' a1 a2 a3 a4 ⟨a5, fun _ => a6, a7, a8⟩)
        | succ m ih =>
          intro w ew hw
          refine w_X10_readName_78 h.1 (by omega) ⟨fun z => absurd z (nI_ge (b := 17) (by omega) (by decide)), fun _ => ⟨vp_in_nI (by omega) (by decide), fun z => ?_, fun z => ?_⟩⟩
          · rw [nI_clamp (show w < 2 ^ 31 by omega)] at z
            rw [nI_1]
            refine ih (w + 1) (by omega) (fun j hj => ?_)
            by_cases cj : j = w
            · rw [cj]; exact decide_eq_false z
            · exact hw j (by omega)
          · rw [nI_clamp (show w < 2 ^ 31 by omega)] at z
            rw [fsb_ne (n := 17) (k := w) (by omega) hw (decide_eq_true z)] at hk
            refine c_write (by omega) hN hc hcnt hcc (fun V' cap' a1 a2 a3 a4 a5 a6 a7 a8 => hk V' cap' a1 a2 a3 a4 ⟨?_, fun _ => ?_, a7, a8⟩)
            · rw [a5]
              show (4 : Int32) = clK (300 + w)
              unfold clK
              rw [if_neg (by omega), if_neg (by omega), if_neg (by omega), if_neg (by omega)]
            · rw [a6, i2l_nI (by omega)]
              show nL w = clX (300 + w, _)
              unfold clX
              rw [if_neg (show ¬ 300 + w = 1 by omega), if_neg (show ¬ 300 + w = 2 by omega)]
              show nL w = nL (clM (300 + w))
              unfold clM
              rw [if_pos (by omega), Nat.add_sub_cancel_left]
      exact go 17 0 (by omega) (fun j hj => absurd hj (Nat.not_lt_zero j))
    · have q8 : 8 < e - p := by
        rw [es] at q
        have : ¬ e - p ≤ 8 := fun z => q (nI_le (b := 8) z (by decide))
        omega
      rw [if_pos q8] at hk
      exact c_write (by omega) hN hc hcnt hcc (fun V' cap' a1 a2 a3 a4 a5 a6 a7 a8 => hk V' cap' a1 a2 a3 a4 ⟨a5, fun z => absurd rfl z, a7, a8⟩)
  have go : ∀ (m j : Nat), p ≤ j → j + m = n → rnw isA t m j = rnw isA t (n - p) p → vwp E d M_X10_readName 5 [some (sl 0 2), some (sl b c), some (wi (nI p)), some (wj (nL (pkb (bf t p) (j - p)))), none, some (wi (nI j)), none] [] V (zi K) := by
    intro m
    induction m with
    | zero =>
      intro j hj ej er
      rw [rnw] at er
      exact w_X10_readName_5 h.1 (by omega) ⟨fun _ => fin j er, fun q => absurd (by rw [el]; exact nI_le (by omega) (by omega)) q⟩
    | succ m ih =>
      intro j hj ej er
      rw [rnw] at er
      have hb := bt_lt t j
      have next : isA (bt t j) = true → vwp E d M_X10_readName 41 [some (sl 0 2), some (sl b c), some (wi (nI p)), some (wj (nL (pkb (bf t p) (j - p)))), none, some (wi (nI j)), some (wi (nI (bt t j)))] [] V (zi K) := fun ha => by
        rw [if_pos ha] at er
        refine w_X10_readName_41 h.1 ?_
        have := ih (j + 1) (by omega) (by omega) er
        rw [show j + 1 - p = (j - p) + 1 from by omega] at this
        rw [pkb_step hb, nI_1]
        have e2 : pkb (bf t p) (j - p) * 256 + bt t j = pkb (bf t p) ((j - p) + 1) := by
          rw [pkb]
          show _ = pkb (bf t p) (j - p) * 256 + bt t (p + (j - p))
          rw [show p + (j - p) = j from by omega]
        rw [e2]
        exact this
      refine w_X10_readName_5 h.1 (by omega) ⟨fun q => absurd q (by rw [el]; exact nI_ge (by omega) (by omega)), fun _ => c_atb h (by omega) ?_⟩
      rw [et]
      refine c_isLetter hb ?_
      cases ql : isL (bt t j) with
      | true => exact ⟨fun _ => next (by unfold isA; rw [ql]; rfl), fun z => absurd z (by decide)⟩
      | false =>
        refine ⟨fun z => absurd rfl z, fun _ => c_isFigure hb ?_⟩
        cases qf : isF (bt t j) with
        | true => exact ⟨fun _ => next (by unfold isA; rw [qf, Bool.or_true]), fun z => absurd z (by decide)⟩
        | false =>
          refine ⟨fun z => absurd rfl z, fun _ => fin j ?_⟩
          rw [if_neg (by unfold isA; rw [ql, qf]; decide)] at er
          exact er
  refine w_X10_readName_0 h.1 ?_
  have := go (n - p) p (Nat.le_refl _) (by omega) rfl
  rw [Nat.sub_self, pkb] at this
  exact this
theorem c_readNumber {p cnt cap : Nat} {K : Int32 → VH → Prop} (h0 : 2 < d) (h : Byt V b c n) (hp : p < n) (hN : TkN V cap) (hc : vI V 0 2 5 = nI cnt) (hcnt : cnt ≤ 25000) (hcc : cnt ≤ cap)
    (hk : ∀ V' cap', Fr V V' tkR → TkN V' cap' → cnt < cap' → TkS V V' cnt → TkR V' cnt (tkNum (vI V b (c + 1)) n p) → K (nI (tkNum (vI V b (c + 1)) n p).e) V') : vMI E d M_X10_readNumber [sl 0 2, sl b c, wi (nI p)] V K := by
  have hn : n ≤ 60000 := by have := h.2.2.1; have := h.2.2.2.2; omega
  have el : vI V b c 1 = nI n := h.2.1
  obtain ⟨r1, r2, r3⟩ := rnw_in isF (vI V b (c + 1)) (n - p) p
  generalize et : vI V b (c + 1) = t at *
  have fin : ∀ e, e = rnw isF t (n - p) p → vwp E d M_X10_readNumber 50 [some (sl 0 2), some (sl b c), some (wi (nI p)), some (wj (nL (dcn (bf t p) (e - p)))), none, some (wi (nI e))] [] V (zi K) := fun e ee => by
    have es : nI e - nI p = nI (e - p) := nI_sub (by omega)
    unfold tkNum at hk
    rw [← ee] at hk
    refine w_X10_readNumber_50 h.1 ⟨fun q => ?_, fun q => ?_⟩
    · have q8 : ¬ 4 < e - p := by
        rw [es] at q
        have := (nI_leI (b := 4) (by omega) (by decide)).mp q
        omega
      rw [if_neg q8] at hk
      exact w_X10_readNumber_64 h.1 (by omega) (c_write (by omega) hN hc hcnt hcc (fun V' cap' a1 a2 a3 a4 a5 a6 a7 a8 => hk V' cap' a1 a2 a3 a4 ⟨a5, fun _ => a6, a7, a8⟩))
    · have q8 : 4 < e - p := by
        rw [es] at q
        have : ¬ e - p ≤ 4 := fun z => q (nI_le (b := 4) z (by decide))
        omega
      rw [if_pos q8] at hk
      exact w_X10_readNumber_64 h.1 (by omega) (c_write (by omega) hN hc hcnt hcc (fun V' cap' a1 a2 a3 a4 a5 a6 a7 a8 => hk V' cap' a1 a2 a3 a4 ⟨a5, fun z => absurd rfl z, a7, a8⟩))
  have go : ∀ (m j : Nat), p ≤ j → j + m = n → rnw isF t m j = rnw isF t (n - p) p → vwp E d M_X10_readNumber 5 [some (sl 0 2), some (sl b c), some (wi (nI p)), some (wj (nL (dcn (bf t p) (j - p)))), none, some (wi (nI j))] [] V (zi K) := by
    intro m
    induction m with
    | zero =>
      intro j hj ej er
      rw [rnw] at er
      exact w_X10_readNumber_5 h.1 (by omega) ⟨fun _ => fin j er, fun q => absurd (by rw [el]; exact nI_le (by omega) (by omega)) q⟩
    | succ m ih =>
      intro j hj ej er
      rw [rnw] at er
      have hb := bt_lt t j
      refine w_X10_readNumber_5 h.1 (by omega) ⟨fun q => absurd q (by rw [el]; exact nI_ge (by omega) (by omega)), fun _ => c_atb h (by omega) ?_⟩
      rw [et]
      refine c_isFigure hb ?_
      cases qf : isF (bt t j) with
      | true =>
        refine ⟨fun z => absurd z (by decide), fun _ => c_atb h (by omega) ?_⟩
        rw [et]
        rw [if_pos qf] at er
        have := ih (j + 1) (by omega) (by omega) er
        rw [show j + 1 - p = (j - p) + 1 from by omega] at this
        rw [dcn_step hb (of_decide_eq_true qf).1, nI_1]
        have e2 : dcn (bf t p) (j - p) * 10 + (bt t j - 48) = dcn (bf t p) ((j - p) + 1) := by
          rw [dcn]
          show _ = dcn (bf t p) (j - p) * 10 + (bt t (p + (j - p)) - 48)
          rw [show p + (j - p) = j from by omega]
        rw [e2]
        exact this
      | false =>
        refine ⟨fun _ => fin j ?_, fun z => absurd rfl z⟩
        rw [if_neg (by rw [qf]; decide)] at er
        exact er
  refine w_X10_readNumber_0 h.1 ?_
  have := go (n - p) p (Nat.le_refl _) (by omega) rfl
  rw [Nat.sub_self, dcn] at this
  exact this
/-- two bytes as one number -/
theorem pair_nI {x y : Nat} (hx : x < 256) (hy : y < 256) : (nI x <<< ((8 : Int32) &&& 31)) ||| nI y = nI (x * 256 + y) := by
  apply Int32.toBitVec_inj.mp
  apply BitVec.eq_of_toNat_eq
  show (((BitVec.ofNat 32 x) <<< (((8 : Int32) &&& 31).toBitVec.smod 32#32)) ||| BitVec.ofNat 32 y).toNat = (BitVec.ofNat 32 (x * 256 + y)).toNat
  rw [show (((8 : Int32) &&& 31).toBitVec.smod 32#32) = 8#32 from by decide, BitVec.toNat_or, BitVec.shiftLeft_eq', BitVec.toNat_shiftLeft, BitVec.toNat_ofNat, BitVec.toNat_ofNat, BitVec.toNat_ofNat]
  rw [show 8 % 2 ^ 32 = 8 from rfl, BitVec.toNat_ofNat, Nat.mod_eq_of_lt (show y < 2 ^ 32 by omega), Nat.mod_eq_of_lt (show x < 2 ^ 32 by omega)]
  have e : x <<< 8 % 2 ^ 32 = x <<< 8 := by rw [Nat.shiftLeft_eq]; omega
  rw [e, ← Nat.shiftLeft_add_eq_or_of_lt (show y < 2 ^ 8 by omega), Nat.shiftLeft_eq]
  omega
theorem pair_code {x y : Nat} (hx : x < 256) (hy : y < 256) : (x * 256 + y = 15421 ↔ x = 60 ∧ y = 61) ∧ (x * 256 + y = 15933 ↔ x = 62 ∧ y = 61) ∧ (x * 256 + y = 11822 ↔ x = 46 ∧ y = 46) ∧ (x * 256 + y = 11582 ↔ x = 45 ∧ y = 62) := by
  refine ⟨⟨fun z => ?_, fun z => ?_⟩, ⟨fun z => ?_, fun z => ?_⟩, ⟨fun z => ?_, fun z => ?_⟩, ⟨fun z => ?_, fun z => ?_⟩⟩ <;> omega
theorem c_readSign {p cnt cap : Nat} {K : Int32 → VH → Prop} (h0 : 6 < d) (h : Byt V b c n) (hp : p < n) (hN : TkN V cap) (hc : vI V 0 2 5 = nI cnt) (hcnt : cnt ≤ 25000) (hcc : cnt ≤ cap)
    (hk : ∀ V' cap', Fr V V' tkR → TkN V' cap' → cnt < cap' → TkS V V' cnt → TkR V' cnt (tkSign (vI V b (c + 1)) n p) → K (nI (tkSign (vI V b (c + 1)) n p).e) V') : vMI E d M_X10_readSign [sl 0 2, sl b c, wi (nI p)] V K := by
  have hn : n ≤ 60000 := by have := h.2.2.1; have := h.2.2.2.2; omega
  generalize et : vI V b (c + 1) = t at *
  have hb := bt_lt t p
  -- the second byte: s0 as the class has it, s1 as it is told
  have main : ∀ (s : Nat) (r5 : Int32), s < 256 → r5 &&& 255 = nI s → (s = (if p + 1 < n then bt t (p + 1) else 0) ∨ (s = 255 ∧ ¬ p + 1 < n)) →
      ((((nI (bt t p) <<< ((8 : Int32) &&& 31)) ||| (r5 &&& 255)) = 15421 → vwp E d M_X10_readSign 56 [some (sl 0 2), some (sl b c), some (wi (nI p)), some (wi (nI (bt t p))), some (wi ((nI (bt t p) <<< ((8 : Int32) &&& 31)) ||| (r5 &&& 255)))] [] V (zi K)) ∧ (¬ ((nI (bt t p) <<< ((8 : Int32) &&& 31)) ||| (r5 &&& 255)) = 15421 → (((nI (bt t p) <<< ((8 : Int32) &&& 31)) ||| (r5 &&& 255)) = 15933 → vwp E d M_X10_readSign 56 [some (sl 0 2), some (sl b c), some (wi (nI p)), some (wi (nI (bt t p))), some (wi ((nI (bt t p) <<< ((8 : Int32) &&& 31)) ||| (r5 &&& 255)))] [] V (zi K)) ∧ (¬ ((nI (bt t p) <<< ((8 : Int32) &&& 31)) ||| (r5 &&& 255)) = 15933 → (((nI (bt t p) <<< ((8 : Int32) &&& 31)) ||| (r5 &&& 255)) = 11822 → vwp E d M_X10_readSign 56 [some (sl 0 2), some (sl b c), some (wi (nI p)), some (wi (nI (bt t p))), some (wi ((nI (bt t p) <<< ((8 : Int32) &&& 31)) ||| (r5 &&& 255)))] [] V (zi K)) ∧ (¬ ((nI (bt t p) <<< ((8 : Int32) &&& 31)) ||| (r5 &&& 255)) = 11822 → (¬ ((nI (bt t p) <<< ((8 : Int32) &&& 31)) ||| (r5 &&& 255)) = 11582 → vMI E (d - 1) M_J0_indexOf_0f7a4 [wt 4, wi (i2c (nI (bt t p)))] V (fun r9 V9 => (0 ≤ r9 → vwp E d M_X10_readSign 85 [some (sl 0 2), some (sl b c), some (wi (nI p)), some (wi (nI (bt t p))), some (wi ((nI (bt t p) <<< ((8 : Int32) &&& 31)) ||| (r5 &&& 255)))] [wi 4, sl 0 2] V9 (zi K)) ∧ (¬ (0 ≤ r9) → vwp E d M_X10_readSign 85 [some (sl 0 2), some (sl b c), some (wi (nI p)), some (wi (nI (bt t p))), some (wi ((nI (bt t p) <<< ((8 : Int32) &&& 31)) ||| (r5 &&& 255)))] [wi 1, sl 0 2] V9 (zi K)))) ∧ (((nI (bt t p) <<< ((8 : Int32) &&& 31)) ||| (r5 &&& 255)) = 11582 → vwp E d M_X10_readSign 56 [some (sl 0 2), some (sl b c), some (wi (nI p)), some (wi (nI (bt t p))), some (wi ((nI (bt t p) <<< ((8 : Int32) &&& 31)) ||| (r5 &&& 255)))] [] V (zi K)))))) := by
    intro s r5 hs er hs1
    rw [er, pair_nI hb hs]
    have hq : bt t p * 256 + s < 2 ^ 31 := by omega
    obtain ⟨c1, c2, c3, c4⟩ := pair_code hb hs
    have w : ∀ code : Nat, tkPair (bt t p) (if p + 1 < n then bt t (p + 1) else 0) = code → code ≠ 0 → clM code = bt t p * 256 + s → 200 ≤ code → code ≤ 203 → vwp E d M_X10_readSign 56 [some (sl 0 2), some (sl b c), some (wi (nI p)), some (wi (nI (bt t p))), some (wi (nI (bt t p * 256 + s)))] [] V (zi K) := fun code e1 e2 e3 e4 e5 => by
      unfold tkSign at hk
      rw [e1, if_pos e2] at hk
      refine w_X10_readSign_56 h.1 (by omega) ?_
      rw [show nI p + 2 = nI (p + 2) from nI_add p 2]
      refine c_write (by omega) hN hc hcnt hcc (fun V' cap' a1 a2 a3 a4 a5 a6 a7 a8 => hk V' cap' a1 a2 a3 a4 ⟨?_, fun _ => ?_, a7, a8⟩)
      · rw [a5]
        show (4 : Int32) = clK code
        unfold clK
        rw [if_neg (by omega), if_neg (by omega), if_neg (by omega), if_neg (by omega)]
      · rw [a6, i2l_nI (by omega)]
        show _ = clX (code, _)
        unfold clX
        rw [if_neg (show ¬ code = 1 by omega), if_neg (show ¬ code = 2 by omega)]
        show _ = nL (clM code)
        rw [e3]
    have es : ∀ k, s = k → k ≠ 255 → (if p + 1 < n then bt t (p + 1) else 0) = k := fun k e1 e2 => by
      rcases hs1 with z | z
      · rw [← z]; exact e1
      · omega
    refine ⟨fun q => ?_, fun q1 => ⟨fun q => ?_, fun q2 => ⟨fun q => ?_, fun q3 => ⟨fun q4 => ?_, fun q => ?_⟩⟩⟩⟩
    · have q := (nI_eqc 15421 hq (by decide)).mp q
      obtain ⟨z1, z2⟩ := c1.mp q
      refine w 200 ?_ (by decide) (by rw [q]; rfl) (by decide) (by decide)
      rw [es 61 z2 (by decide), z1]; rfl
    · have q := (nI_eqc 15933 hq (by decide)).mp q
      obtain ⟨z1, z2⟩ := c2.mp q
      refine w 201 ?_ (by decide) (by rw [q]; rfl) (by decide) (by decide)
      rw [es 61 z2 (by decide), z1]; rfl
    · have q := (nI_eqc 11822 hq (by decide)).mp q
      obtain ⟨z1, z2⟩ := c3.mp q
      refine w 202 ?_ (by decide) (by rw [q]; rfl) (by decide) (by decide)
      rw [es 46 z2 (by decide), z1]; rfl
    · have y1 : ¬ (bt t p = 60 ∧ s = 61) := fun z => q1 (by rw [c1.mpr z]; rfl)
      have y2 : ¬ (bt t p = 62 ∧ s = 61) := fun z => q2 (by rw [c2.mpr z]; rfl)
      have y3 : ¬ (bt t p = 46 ∧ s = 46) := fun z => q3 (by rw [c3.mpr z]; rfl)
      have y4 : ¬ (bt t p = 45 ∧ s = 62) := fun z => q4 (by rw [c4.mpr z]; rfl)
      have e0 : tkPair (bt t p) (if p + 1 < n then bt t (p + 1) else 0) = 0 := by
        unfold tkPair
        rcases hs1 with z | z
        · rw [← z, if_neg y1, if_neg y2, if_neg y3, if_neg y4]
        · rw [if_neg z.2, if_neg (fun z => by omega), if_neg (fun z => by omega), if_neg (fun z => by omega), if_neg (fun z => by omega)]
      unfold tkSign at hk
      rw [if_neg (fun z => z e0)] at hk
      refine c_indexOf hb (by omega) (fun j hj hS => ?_) (fun hS => ?_)
      · rw [if_pos hS] at hk
        have v := isS_v _ hS
        refine ⟨fun _ => w_X10_readSign_85 h.1 (by omega) ?_, fun z => absurd (Int32.not_lt.mp (nI_pos (by omega))) z⟩
        rw [nI_1]
        refine c_write (by omega) hN hc hcnt hcc (fun V' cap' a1 a2 a3 a4 a5 a6 a7 a8 => hk V' cap' a1 a2 a3 a4 ⟨?_, fun _ => ?_, a7, a8⟩)
        · rw [a5]
          show (4 : Int32) = clK (bt t p)
          unfold clK
          rw [if_neg (by omega), if_neg (by omega), if_neg (by omega), if_neg (by omega)]
        · rw [a6, i2l_nI (by omega)]
          show _ = clX (bt t p, _)
          unfold clX
          rw [if_neg (show ¬ bt t p = 1 by omega), if_neg (show ¬ bt t p = 2 by omega)]
          show _ = nL (clM (bt t p))
          unfold clM
          rw [if_neg (by omega), if_neg (by omega), if_neg (by omega), if_neg (by omega), if_neg (by omega)]
      · rw [if_neg (by rw [hS]; decide)] at hk
        refine ⟨fun z => absurd z (by decide), fun _ => w_X10_readSign_85 h.1 (by omega) ?_⟩
        rw [nI_1]
        exact c_write (by omega) hN hc hcnt hcc (fun V' cap' a1 a2 a3 a4 a5 a6 a7 a8 => hk V' cap' a1 a2 a3 a4 ⟨a5, fun z => absurd rfl z, a7, a8⟩)
    · have q := (nI_eqc 11582 hq (by decide)).mp q
      obtain ⟨z1, z2⟩ := c4.mp q
      refine w 203 ?_ (by decide) (by rw [q]; rfl) (by decide) (by decide)
      rw [es 62 z2 (by decide), z1]; rfl
  refine w_X10_readSign_0 h.1 (by omega) (c_atb h hp ?_)
  rw [et, nI_1]
  by_cases c1 : p + 1 < n
  · refine c_atb h c1 ?_
    rw [et]
    refine main (bt t (p + 1)) _ (bt_lt t _) ?_ (Or.inl (by rw [if_pos c1]))
    rw [← bt_nI, and255]
  · refine c_atn h (by omega) (by omega) ?_
    exact main 255 _ (by decide) (by decide) (Or.inr ⟨rfl, c1⟩)
end
