/-! a fraction in least terms -/
theorem j_rem (x y : Int64) : x - x / y * y = x % y := by
  apply Int64.toInt_inj.mp
  rw [Int64.toInt_sub, Int64.toInt_mul, Int64.toInt_div, Int.bmod_mul_bmod, Int.sub_bmod_bmod]
  have e : x.toInt - x.toInt.tdiv y.toInt * y.toInt = (x % y).toInt := by
    have := Int.mul_tdiv_add_tmod x.toInt y.toInt
    rw [Int64.toInt_mod, Int.mul_comm]
    omega
  rw [e]
  have h1 := Int64.le_toInt (x % y)
  have h2 := Int64.toInt_lt (x % y)
  exact Int.bmod_eq_of_le (by omega) (by omega)
/-- from (a, b), in at most n steps, the second is 0 -/
def rch : Nat → Int64 → Int64 → Prop
  | 0, _, b => b = 0
  | n + 1, a, b => b = 0 ∨ rch n b (a - a / b * b)
def eug : Nat → Int64 → Int64 → Int64
  | 0, a, _ => a
  | n + 1, a, b => if b = 0 then a else eug n b (a - a / b * b)
theorem j_abs0 {b : Int64} (h : b.toInt.natAbs = 0) : b = 0 := by
  apply Int64.toInt_inj.mp
  rw [Int.natAbs_eq_zero.mp h]; rfl
theorem rch_of : ∀ (k : Nat) (a b : Int64), b.toInt.natAbs < 2 ^ k → rch (2 * k) a b
  | 0, a, b, h => j_abs0 (by simpa using h)
  | k + 1, a, b, h => by
    show b = 0 ∨ (a - a / b * b = 0 ∨ rch (2 * k) (a - a / b * b) (b - b / (a - a / b * b) * (a - a / b * b)))
    by_cases c : b = 0
    · exact Or.inl c
    · refine Or.inr ?_
      by_cases c2 : a - a / b * b = 0
      · exact Or.inl c2
      · refine Or.inr (rch_of k _ _ ?_)
        have e1 : (a - a / b * b).toInt.natAbs = a.toInt.natAbs % b.toInt.natAbs := by rw [j_rem, Int64.toInt_mod, Int.natAbs_tmod]
        rw [j_rem, Int64.toInt_mod, Int.natAbs_tmod]
        have p1 : 0 < b.toInt.natAbs := Nat.pos_of_ne_zero (fun z => c (j_abs0 z))
        have p2 : 0 < (a - a / b * b).toInt.natAbs := Nat.pos_of_ne_zero (fun z => c2 (j_abs0 z))
        have l1 : (a - a / b * b).toInt.natAbs < b.toInt.natAbs := by rw [e1]; exact Nat.mod_lt _ p1
        generalize (a - a / b * b).toInt.natAbs = r at p2 l1
        generalize b.toInt.natAbs = m at h p1 l1
        have l2 := Nat.mod_lt m p2
        have l3 : r + m % r ≤ m := by
          have := Nat.mod_add_div m r
          have q : 1 ≤ m / r := Nat.div_pos (by omega) p2
          have q2 : r * 1 ≤ r * (m / r) := Nat.mul_le_mul_left r q
          omega
        rw [Nat.pow_succ] at h
        omega
theorem rch_all (a b : Int64) : rch 128 a b := rch_of 64 a b (by
  have h1 := Int64.le_toInt b
  have h2 := Int64.toInt_lt b
  omega)
theorem eug_ne : ∀ (n : Nat) (a b : Int64), rch n a b → (a ≠ 0 ∨ b ≠ 0) → eug n a b ≠ 0
  | 0, a, b, h, q => by
    have h' : b = 0 := h
    exact q.resolve_right (fun z => z h')
  | n + 1, a, b, h, q => by
    unfold eug
    by_cases c : b = 0
    · rw [if_pos c]; exact q.resolve_right (fun z => z c)
    · rw [if_neg c]
      exact eug_ne n _ _ (h.resolve_left c) (Or.inl c)
def gcj (part all : Int64) : Int64 := eug 128 (labs part) all
section
variable {E : EE} {d : Nat} {V : VH}
theorem c_show {x1 x3 : Int64} {K : VH → Prop} (h0 : 0 < d) (h3 : x3 ≠ 0) (hk : K (wrJ (wrJ V 0 28 10 (x1 / gcj x1 x3)) 0 28 11 (x3 / gcj x1 x3))) : vMV E d M_X11_show [sl 0 28, wj x1, wj x3] V K := by
  have ne : gcj x1 x3 ≠ 0 := eug_ne 128 _ _ (rch_all _ _) (Or.inr h3)
  have fin : ∀ (b : Int64) (i : Int32), vwp E d M_X11_show 48 [some (sl 0 28), some (wj x1), none, some (wj x3), none, some (wj (gcj x1 x3)), none, some (wj b), none, some (wi i), none, none] [] V (zv K) := fun b i => by
    refine w_X11_show_48 ⟨fun z => absurd z h3, fun _ => ⟨fun _ => ⟨ne, ?_⟩, fun z => absurd z ne⟩⟩
    refine w_X11_show_70 (fun V1 e1 => ⟨fun z => absurd z h3, fun _ => ⟨fun _ => ⟨ne, ?_⟩, fun z => absurd z ne⟩⟩)
    exact w_X11_show_95 (fun V2 e2 => by rw [e2, e1]; exact hk)
  have go : ∀ (n i : Nat) (a b : Int64), i + n ≤ 128 → rch n a b → eug n a b = gcj x1 x3 → vwp E d M_X11_show 12 [some (sl 0 28), some (wj x1), none, some (wj x3), none, some (wj a), none, some (wj b), none, some (wi (nI i)), none, none] [] V (zv K) := by
    intro n
    induction n with
    | zero =>
      intro i a b hi hr he
      have hb : b = 0 := hr
      have ha : a = gcj x1 x3 := he
      refine w_X11_show_12 ⟨fun z => absurd z (nI_ge (show i < 200 by omega) (by decide)), fun _ => ⟨fun _ => ?_, fun z => absurd hb z⟩⟩
      rw [ha]; exact fin _ _
    | succ n ih =>
      intro i a b hi hr he
      refine w_X11_show_12 ⟨fun z => absurd z (nI_ge (show i < 200 by omega) (by decide)), fun _ => ⟨fun z => ?_, fun z => ⟨z, ?_⟩⟩⟩
      · have ha : a = gcj x1 x3 := by rw [← he]; unfold eug; rw [if_pos z]
        rw [ha]; exact fin _ _
      · rw [nI_1]
        refine ih (i + 1) _ _ (by omega) (hr.resolve_left z) ?_
        rw [← he]
        show _ = (if b = 0 then a else eug n b (a - a / b * b))
        rw [if_neg z]
  exact w_X11_show_0 h0 (go 128 0 _ _ (by omega) (rch_all _ _) rfl)
theorem c_showM {x1 x3 : Int64} {K : VH → Prop} (h3 : x3 ≠ 0) (hk : K (wrJ (wrJ V 6 0 2 (x1 / gcj x1 x3)) 6 0 3 (x3 / gcj x1 x3))) : vMV E d M_X12_show [sl 6 0, wj x1, wj x3] V K := by
  have ne : gcj x1 x3 ≠ 0 := eug_ne 128 _ _ (rch_all _ _) (Or.inr h3)
  have go : ∀ (n : Nat) (a b : Int64), rch n a b → eug n a b = gcj x1 x3 → vwp E d M_X12_show 17 [some (sl 6 0), some (wj x1), none, some (wj x3), none, some (wj a), none, some (wj b), none, none, none] [] V (zv K) := by
    intro n
    induction n with
    | zero =>
      intro a b hr he
      have hb : b = 0 := hr
      have ha : a = gcj x1 x3 := he
      refine w_X12_show_17 ⟨fun _ => ⟨by rw [ha]; exact ne, fun V2 e2 => ⟨by rw [ha]; exact ne, fun V4 e4 => ?_⟩⟩, fun z => absurd hb z⟩
      rw [e4, e2, ha]; exact hk
    | succ n ih =>
      intro a b hr he
      refine w_X12_show_17 ⟨fun z => ?_, fun z => ⟨z, ?_⟩⟩
      · have ha : a = gcj x1 x3 := by rw [← he]; unfold eug; rw [if_pos z]
        rw [ha]
        exact ⟨ne, fun V2 e2 => ⟨ne, fun V4 e4 => by rw [e4, e2]; exact hk⟩⟩
      · refine ih _ _ (hr.resolve_left z) ?_
        rw [← he]
        show _ = (if b = 0 then a else eug n b (a - a / b * b))
        rw [if_neg z]
  have start : ∀ t, t = labs x1 → vwp E d M_X12_show 12 [some (sl 6 0), some (wj x1), none, some (wj x3), none, none, none, none, none, none, none] [wj t] V (zv K) := fun t et => by
    refine w_X12_show_12 (go 128 _ _ (rch_all _ _) ?_)
    rw [et]; rfl
  refine w_X12_show_0 ⟨fun z => start _ ?_, fun z => start _ ?_⟩
  · unfold labs
    by_cases c : 0 < x1
    · rw [if_pos c]
    · have : x1 = 0 := by
        have a := Int64.le_iff_toInt_le.mp z
        have b : ¬ (0 : Int64).toInt < x1.toInt := fun y => c (Int64.lt_iff_toInt_lt.mpr y)
        exact Int64.toInt_inj.mp (by omega)
      rw [if_neg c, this]; rfl
  · unfold labs
    have : ¬ 0 < x1 := fun y => z (Int64.le_of_lt y)
    rw [if_neg this]
end
