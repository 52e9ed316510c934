/-! automata -/
def afn (G : Nat → Nat → Int32) (s v : Int32) : Nat → Nat → Int32
  | 0, _ => -1
  | k + 1, r => if G r 0 = s ∧ G r 1 = v then G r 2 else afn G s v k (r + 1)
def arn (y : Nat → Int32) (G : Nat → Nat → Int32) (m : Nat) : Nat → Nat → Int32 → Int32
  | 0, _, s => s
  | k + 1, j, s => if 0 ≤ afn G s (y j) m 0 then arn y G m k (j + 1) (afn G s (y j) m 0) else -1
def afs (S : Nat → Int32) (s : Int32) : Nat → Nat → Int32
  | 0, _ => 1
  | k + 1, i => if S i = s then 0 else afs S s k (i + 1)
def auv (y : Nat → Int32) (G : Nat → Nat → Int32) (S : Nat → Int32) (n m k : Nat) : Int32 := if 0 ≤ arn y G m n 0 0 then afs S (arn y G m n 0 0) k 0 else 1
section
variable {E : EE} {d : Nat} {V : VH} {g nn : Nat} {nt : Nat → Int32} {K : Int32 → VH → Prop}
theorem c_astray {w n m k : Nat} {y : Nat → Int32} {G : Nat → Nat → Int32} {S : Nat → Int32} (h0 : 0 < d) (h : EV V g nn nt) (hy : Nmd V g nn nt w n y) (hz : Rwd nn nt w n 3 m G) (hG : ∀ r, r < m → 0 ≤ G r 2) (hk0 : k ≤ 10) (hk1 : w + 3 + n + 3 * m + k ≤ nn) (hk2 : nt (w + 2 + n + 3 * m) = nI k) (hS : ∀ i, i < k → nt (w + 3 + n + 3 * m + i) = S i) (K1 : K (auv y G S n m k) V) : vMI E d M_X2_astray [sl g 9, wi (nI w)] V K := by
  obtain ⟨hn, hw, en, hv⟩ := hy
  obtain ⟨hm, hw2, em, hr⟩ := hz
  have hl := h.lt
  -- the last states
  have go3 : ∀ (c i : Nat) (s : Int32), i + c = k → K (afs S s c i) V → vwp E d M_X2_astray 135 [some (sl g 9), some (wi (nI w)), some (wi (nI n)), some (wi (nI (w + 1 + n))), some (wi (nI m)), some (wi (nI (w + 2 + n + 3 * m))), some (wi s), some (wi (nI (i + 1))), none, none, none] [] V (zi K) := by
    intro c
    induction c with
    | zero =>
      intro i s ei kk
      refine w_X2_astray_135 h.1 h0 (c_noteAt h (by omega) ?_)
      rw [hk2]
      rw [afs] at kk
      exact ⟨fun _ => kk, fun q => absurd (nI_lt (by omega) (by omega)) q⟩
    | succ c ih =>
      intro i s ei kk
      refine w_X2_astray_135 h.1 h0 (c_noteAt h (by omega) ?_)
      rw [hk2, nI_add, show w + 2 + n + 3 * m + (i + 1) = w + 3 + n + 3 * m + i by omega]
      refine ⟨fun q => absurd q (nI_nlt (by omega) (by omega)), fun _ => c_noteAt h (by omega) ?_⟩
      rw [hS i (by omega)]
      rw [afs] at kk
      refine ⟨fun q => ?_, fun q => ?_⟩
      · rw [if_neg q] at kk
        rw [nI_1]
        exact ih (i + 1) s (by omega) kk
      · rw [if_pos q] at kk; exact kk
  have go1 : ∀ (c j : Nat) (s : Int32), j + c = n → K (if 0 ≤ arn y G m c j s then afs S (arn y G m c j s) k 0 else 1) V → 0 ≤ s → vwp E d M_X2_astray 35 [some (sl g 9), some (wi (nI w)), some (wi (nI n)), some (wi (nI (w + 1 + n))), some (wi (nI m)), some (wi (nI (w + 2 + n + 3 * m))), some (wi s), some (wi (nI (j + 1))), none, none, none] [] V (zi K) := by
    intro c
    induction c with
    | zero =>
      intro j s ej kk s0
      rw [arn, if_pos s0] at kk
      exact w_X2_astray_35 h.1 ⟨fun _ => go3 k 0 s (by omega) kk, fun q => absurd (nI_lt (by omega) (by omega)) q⟩
    | succ c ih =>
      intro j s ej kk s0
      obtain ⟨v1, l1, a1, b1⟩ := hv j (by omega)
      rw [arn] at kk
      refine w_X2_astray_35 h.1 ⟨fun q => absurd q (nI_nlt (by omega) (by omega)), fun _ => ?_⟩
      -- found, or all looked at
      have fin : ∀ (r : Nat) (t : Int32), t = afn G s (y j) m 0 → vwp E d M_X2_astray 115 [some (sl g 9), some (wi (nI w)), some (wi (nI n)), some (wi (nI (w + 1 + n))), some (wi (nI m)), some (wi (nI (w + 2 + n + 3 * m))), some (wi s), some (wi (nI (j + 1))), some (wi t), some (wi (nI r)), none] [] V (zi K) := by
        intro r t et
        rw [← et] at kk
        refine w_X2_astray_115 h.1 ⟨fun q => ?_, fun q => ?_⟩
        · rw [if_pos q] at kk
          rw [nI_1]
          exact ih (j + 1) t (by omega) kk q
        · rw [if_neg q, if_neg (by decide)] at kk
          exact kk
      have go2 : ∀ (e r : Nat), r + e = m → afn G s (y j) e r = afn G s (y j) m 0 → vwp E d M_X2_astray 47 [some (sl g 9), some (wi (nI w)), some (wi (nI n)), some (wi (nI (w + 1 + n))), some (wi (nI m)), some (wi (nI (w + 2 + n + 3 * m))), some (wi s), some (wi (nI (j + 1))), some (wi (-1)), some (wi (nI r)), none] [] V (zi K) := by
        intro e
        induction e with
        | zero =>
          intro r er ea
          exact w_X2_astray_47 h.1 h0 ⟨fun _ => fin r (-1) (by rw [← ea, afn]), fun q => absurd (nI_le (by omega) (by omega)) q⟩
        | succ e ihe =>
          intro r er ea
          have g0 := hr r (by omega) 0 (by omega)
          have g1 := hr r (by omega) 1 (by omega)
          have g2 := hr r (by omega) 2 (by omega)
          rw [afn] at ea
          have e1 : nI (w + 1 + n) + 1 + 3 * nI r = nI (w + 2 + n + r * 3) := by
            rw [show (3 : Int32) = nI 3 from rfl, nI_mul, nI_1, nI_add]
            exact congrArg nI (by omega)
          have no : vwp E d M_X2_astray 109 [some (sl g 9), some (wi (nI w)), some (wi (nI n)), some (wi (nI (w + 1 + n))), some (wi (nI m)), some (wi (nI (w + 2 + n + 3 * m))), some (wi s), some (wi (nI (j + 1))), some (wi (-1)), some (wi (nI r)), some (wi (nI (w + 2 + n + r * 3)))] [] V (zi K) ∨ (G r 0 = s ∧ G r 1 = y j) := by
            by_cases c : G r 0 = s ∧ G r 1 = y j
            · exact Or.inr c
            · rw [if_neg c] at ea
              refine Or.inl (w_X2_astray_109 h.1 ?_)
              rw [nI_1]
              exact ihe (r + 1) (by omega) ea
          refine w_X2_astray_47 h.1 h0 ⟨fun q => absurd q (nI_ge (by omega) (by omega)), fun _ => ⟨fun q => absurd q (by decide), fun _ => ?_⟩⟩
          rw [e1]
          refine c_noteAt h (by omega) ?_
          rw [show nt (w + 2 + n + r * 3) = G r 0 from g0]
          refine ⟨fun q => no.resolve_right (fun z => q z.1), fun q => ?_⟩
          rw [nI_1]
          refine c_noteAt h (by omega) ?_
          rw [show nt (w + 2 + n + r * 3 + 1) = G r 1 from g1, nI_add, show w + (j + 1) = w + 1 + j by omega]
          refine c_valueAt h (by omega) a1 l1 ?_
          rw [b1]
          refine ⟨fun q1 => no.resolve_right (fun z => q1 z.2), fun q1 => ?_⟩
          rw [show nI (w + 2 + n + r * 3) + 2 = nI (w + 2 + n + r * 3 + 2) from nI_add _ 2]
          refine c_noteAt h (by omega) ?_
          rw [show nt (w + 2 + n + r * 3 + 2) = G r 2 from g2]
          rw [if_pos ⟨q, q1⟩] at ea
          refine w_X2_astray_109 h.1 ?_
          rw [nI_1]
          exact w_X2_astray_47 h.1 h0 ⟨fun _ => fin _ _ ea, fun _ => ⟨fun _ => fin _ _ ea, fun z => absurd (hG r (by omega)) z⟩⟩
      exact go2 m 0 (by omega) rfl
  refine w_X2_astray_0 h.1 h0 (c_noteAt h (by omega) ?_)
  rw [en, show nI w + 1 = nI (w + 1) from nI_add w 1, nI_add]
  refine c_noteAt h (by omega) ?_
  rw [em, show (3 : Int32) = nI 3 from rfl, nI_mul, nI_1, nI_add, show w + 1 + n + 1 + 3 * m = w + 2 + n + 3 * m by omega]
  exact go1 n 0 0 (by omega) K1 (by decide)
end
