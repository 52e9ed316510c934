/-! what a step says: notes and values, the class -/
/-- nn notes are there, nt says which -/
def EV (V : VH) (g nn : Nat) (nt : Nat → Int32) : Prop := PG (vL V) g ∧ vI V g 9 3 = nI nn ∧ nn ≤ vN V g 16 ∧ vN V g 16 < 2 ^ 31 ∧ ∀ k, k < nn → vI V g 16 k = nt k
section
variable {E : EE} {d : Nat} {V : VH} {g nn : Nat} {nt : Nat → Int32} {K : Int32 → VH → Prop}
theorem EV.lt (h : EV V g nn nt) : nn < 2 ^ 31 := by have := h.2.2.1; have := h.2.2.2.1; omega
theorem c_noteAt {k : Nat} (h : EV V g nn nt) (hk : k < nn) (K1 : K (nt k) V) : vMI E d M_X2_noteAt [sl g 9, wi (nI k)] V K := by
  obtain ⟨hg, e3, h1, h2, hn⟩ := h
  refine w_X2_noteAt_0 hg ⟨fun q => absurd q (nI_pos (by omega)), fun _ => ⟨fun q => absurd q (by rw [e3]; exact nI_ge hk (by omega)), fun _ => ⟨fun q => absurd q (nI_ge (by omega) (by omega)), fun _ => ⟨vp_in_nI (by omega) (by omega), ?_⟩⟩⟩⟩
  rw [nI_clamp (show k < 2 ^ 31 by omega), hn k hk]
  exact K1
theorem c_valueAt {k v : Nat} (h : EV V g nn nt) (hk : k < nn) (ev : nt k = nI v) (hv : v < 12) (K1 : K (vI V g 18 v) V) : vMI E d M_X2_valueAt [sl g 9, wi (nI k)] V K := by
  obtain ⟨hg, e3, h1, h2, hn⟩ := h
  refine w_X2_valueAt_0 hg ⟨fun q => absurd q (nI_pos (by omega)), fun _ => ⟨fun q => absurd q (by rw [e3]; exact nI_ge hk (by omega)), fun _ => ⟨fun _ => ⟨vp_in_nI (by omega) (by omega), ?_⟩, fun q => absurd (nI_lt (by omega) (by omega)) q⟩⟩⟩
  rw [nI_clamp (show k < 2 ^ 31 by omega), hn k hk, ev, nI_clamp (show v < 2 ^ 31 by omega)]
  exact ⟨fun q => absurd q (nI_pos (by omega)), fun _ => ⟨fun q => absurd q (nI_ge hv (by decide)), fun _ => ⟨vp_in_nI (by omega) (by decide), K1⟩⟩⟩
end
theorem bI_or (a b : Bool) : bI a ||| bI b = bI (a || b) := by cases a <;> cases b <;> decide
/-- n names stand in the notes from w + 1 on; y their values -/
def Nmd (V : VH) (g nn : Nat) (nt : Nat → Int32) (w n : Nat) (y : Nat → Int32) : Prop := n ≤ 12 ∧ w + 1 + n ≤ nn ∧ nt w = nI n ∧ ∀ j, j < n → ∃ v, v < 12 ∧ nt (w + 1 + j) = nI v ∧ vI V g 18 v = y j
/-- all different? -/
def erl (y : Nat → Int32) (j : Nat) : Nat → Bool
  | 0 => false
  | m + 1 => erl y j m || decide (y m = y j)
def dup (y : Nat → Int32) : Nat → Nat
  | 0 => 0
  | j + 1 => dup y j + (if erl y j j = true then 1 else 0)
theorem dup_le (y : Nat → Int32) (n : Nat) : dup y n ≤ n := by
  induction n with
  | zero => exact Nat.le_refl 0
  | succ n ih => rw [dup]; split <;> omega
section
variable {E : EE} {d : Nat} {V : VH} {g nn : Nat} {nt : Nat → Int32} {K : Int32 → VH → Prop}
theorem c_repeated {w n : Nat} {y : Nat → Int32} (h0 : 0 < d) (h : EV V g nn nt) (hy : Nmd V g nn nt w n y) (K1 : K (nI (dup y n)) V) : vMI E d M_X2_repeated [sl g 9, wi (nI w)] V K := by
  obtain ⟨hn, hw, en, hv⟩ := hy
  have hl := h.lt
  have go1 : ∀ (m j : Nat), j + m = n → vwp E d M_X2_repeated 11 [some (sl g 9), some (wi (nI w)), some (wi (nI n)), some (wi (nI (dup y j))), some (wi (nI (j + 1))), none, none] [] V (zi K) := by
    intro m
    induction m with
    | zero =>
      intro j ej
      have : j = n := by omega
      subst this
      exact w_X2_repeated_11 h.1 ⟨fun _ => K1, fun q => absurd (nI_lt (by omega) (by omega)) q⟩
    | succ m ih =>
      intro j ej
      refine w_X2_repeated_11 h.1 ⟨fun q => absurd q (nI_nlt (by omega) (by omega)), fun _ => ?_⟩
      have go2 : ∀ (k i : Nat), i + k = j → vwp E d M_X2_repeated 23 [some (sl g 9), some (wi (nI w)), some (wi (nI n)), some (wi (nI (dup y j))), some (wi (nI (j + 1))), some (wi (bI (erl y j i))), some (wi (nI (i + 1)))] [] V (zi K) := by
        intro k
        induction k with
        | zero =>
          intro i ei
          have : i = j := by omega
          subst this
          have nx : ∀ c : Nat, c = dup y (i + 1) → vwp E d M_X2_repeated 73 [some (sl g 9), some (wi (nI w)), some (wi (nI n)), some (wi (nI c)), some (wi (nI (i + 1))), some (wi (bI (erl y i i))), some (wi (nI (i + 1)))] [] V (zi K) := by
            intro c ec
            subst ec
            refine w_X2_repeated_73 h.1 ?_
            rw [nI_1]
            exact ih (i + 1) (by omega)
          refine w_X2_repeated_23 h.1 h0 ⟨fun _ => ⟨fun q => nx _ ?_, fun q => ?_⟩, fun q => absurd (nI_le (Nat.le_refl _) (by omega)) q⟩
          · rw [dup, bI_0.mp q]; rfl
          · rw [nI_1]
            refine nx _ ?_
            have : erl y i i = true := by cases hb : erl y i i with
              | true => rfl
              | false => rw [hb] at q; exact absurd rfl q
            rw [dup, this]; rfl
        | succ k ihk =>
          intro i ei
          obtain ⟨v1, l1, a1, b1⟩ := hv i (by omega)
          obtain ⟨v2, l2, a2, b2⟩ := hv j (by omega)
          refine w_X2_repeated_23 h.1 h0 ⟨fun q => absurd q (nI_ge (by omega) (by omega)), fun _ => ?_⟩
          rw [nI_add, nI_add, show w + (i + 1) = w + 1 + i by omega, show w + (j + 1) = w + 1 + j by omega]
          refine c_valueAt h (by omega) a1 l1 (c_valueAt h (by omega) a2 l2 ?_)
          rw [b1, b2]
          have nx : ∀ b : Bool, decide (y i = y j) = b → vwp E d M_X2_repeated 56 [some (sl g 9), some (wi (nI w)), some (wi (nI n)), some (wi (nI (dup y j))), some (wi (nI (j + 1))), some (wi (bI (erl y j i))), some (wi (nI (i + 1)))] [wi (bI b), wi (bI (erl y j i))] V (zi K) := by
            intro b hb
            refine w_X2_repeated_56 h.1 ?_
            rw [bI_or, nI_1, ← hb]
            exact ihk (i + 1) (by omega)
          exact ⟨fun q => nx false (decide_eq_false q), fun q => nx true (decide_eq_true q)⟩
      exact go2 j 0 (by omega)
  refine w_X2_repeated_0 h.1 h0 (c_noteAt h (by omega) ?_)
  rw [en]
  exact go1 n 0 (by omega)
end
