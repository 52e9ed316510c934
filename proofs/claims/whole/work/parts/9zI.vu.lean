/-! special tests of the reference: busy, its value -/
section
variable {E : EE} {d : Nat} {p : Nat} {T : Nat → TK} {M : MN} {L nf nv : Nat} {fa se nt : Nat → Int32}
theorem bsa_b {s du us : Nat → Int32} {t : Int32} : ∀ (m : Nat), m ≤ 40 → (∀ r, r < m → Bn 9999 (us r)) → Bn (9999 * m) (bsa s du us t m) := by
  intro m
  induction m with
  | zero => intro _ _; rw [bsa]; exact ⟨by rw [t_0]; omega, by rw [t_0]; omega⟩
  | succ m ih =>
    intro hm hu
    have h1 := ih (by omega) (fun r hr => hu r (by omega))
    rw [bsa]
    by_cases c : s m ≤ t ∧ t < s m + du m
    · rw [if_pos c]
      have h2 := hu m (by omega)
      have := (j_add (B := 1000000) (h1.mono (by omega)) (h2.mono (by omega)) (by decide)).2
      obtain ⟨a1, a2⟩ := h1
      obtain ⟨b1, b2⟩ := h2
      exact ⟨by rw [this]; omega, by rw [this]; omega⟩
    · rw [if_neg c]; exact h1.mono (by omega)
theorem bmx_b {s du us : Nat → Int32} {m : Nat} (hm : m ≤ 40) (hu : ∀ r, r < m → Bn 9999 (us r)) : ∀ (i : Nat), 0 ≤ (bmx s du us m i).toInt ∧ (bmx s du us m i).toInt ≤ 399960 := by
  intro i
  induction i with
  | zero => rw [bmx, t_0]; omega
  | succ i ih =>
    rw [bmx]
    have b := bsa_b (s := s) (du := du) (t := s i) m hm hu
    by_cases c : bsa s du us (s i) m ≤ bmx s du us m i
    · rw [imax_l c]; exact ih
    · rw [imax_r c]
      have : ¬ (bsa s du us (s i) m).toInt ≤ (bmx s du us m i).toInt := fun z => c (i_le.mpr z)
      have := b.2
      omega
theorem ev_busyV {V : VH} {K : Int64 → VH → Prop} {m : Nat} {c : Int32} {s du us : Nat → Int32} (hm : m ≤ 40) (hc : 0 ≤ c.toInt ∧ c.toInt ≤ 9999) (hb : BY V m s du us) (hk : K (Int32.toInt64 (bsv c s du us m)) V) : vwp E d M_X12_busyValue 131 [some (sl 6 0), some (wj (Int32.toInt64 c)), none, some (wi (nI m)), some (wj 0), none, some (wi 0), none, none, none, none] [] V (zj K) := by
  have hu : ∀ r, r < m → Bn 9999 (us r) := fun r hr => (hb r hr).2.2.2.2.2
  have go1 : ∀ (k i : Nat), i + k = m → vwp E d M_X12_busyValue 131 [some (sl 6 0), some (wj (Int32.toInt64 c)), none, some (wi (nI m)), some (wj (Int32.toInt64 (bmx s du us m i))), none, some (wi (nI i)), none, none, none, none] [] V (zj K) := by
    intro k
    induction k with
    | zero =>
      intro i ei
      have : i = m := by omega
      subst this
      obtain ⟨b1, b2⟩ := bmx_b (s := s) (du := du) hm hu i
      have sb := j_sub (B := 400000) (x := bmx s du us i i) (y := c) ⟨by omega, by omega⟩ ⟨by omega, by omega⟩ (by decide)
      unfold bsv at hk
      refine w_X12_busyValue_131 ⟨fun _ => ⟨fun q => ?_, fun q => ?_⟩, fun q => absurd (nI_le (Nat.le_refl _) (by omega)) q⟩
      · have := i_le.mp (j_le.mp q)
        rw [imax_0, if_neg (fun z => by have := i_lt.mp z; rw [t_0] at this; omega), j_0] at hk
        exact hk
      · have : ¬ (bmx s du us i i).toInt ≤ c.toInt := fun z => q (j_le.mpr (i_le.mpr z))
        rw [imax_0, if_pos (i_lt.mpr (by rw [t_0]; omega)), sb.1] at hk
        exact hk
    | succ k ih =>
      intro i ei
      have pi : vp_in (nI i) 40 := vp_in_nI (by omega) (by decide)
      refine w_X12_busyValue_131 ⟨fun q => absurd q (nI_ge (by omega) (by omega)), fun _ => ?_⟩
      obtain ⟨si, _, _, bi, _, _⟩ := hb i (by omega)
      have go2 : ∀ (f r : Nat), r + f = m → vwp E d M_X12_busyValue 143 [some (sl 6 0), some (wj (Int32.toInt64 c)), none, some (wi (nI m)), some (wj (Int32.toInt64 (bmx s du us m i))), none, some (wi (nI i)), some (wj (Int32.toInt64 (bsa s du us (s i) r))), none, some (wi (nI r)), none] [] V (zj K) := by
        intro f
        induction f with
        | zero =>
          intro r er
          have : r = m := by omega
          subst this
          have nx : ∀ x : Int32, x = bmx s du us r (i + 1) → vwp E d M_X12_busyValue 242 [some (sl 6 0), some (wj (Int32.toInt64 c)), none, some (wi (nI r)), some (wj (Int32.toInt64 (bmx s du us r i))), none, some (wi (nI i)), some (wj (Int32.toInt64 (bsa s du us (s i) r))), none, some (wi (nI r)), none] [wj (Int32.toInt64 x)] V (zj K) := by
            intro x ex
            subst ex
            refine w_X12_busyValue_242 ?_
            rw [nI_1]
            exact ih (i + 1) (by omega)
          refine w_X12_busyValue_143 ⟨fun _ => ⟨fun q => nx _ ?_, fun q => nx _ ?_⟩, fun q => absurd (nI_le (Nat.le_refl _) (by omega)) q⟩
          · rw [bmx, imax_l (j_le.mp q)]
          · rw [bmx, imax_r (fun z => q (j_le.mpr z))]
        | succ f ihf =>
          intro r er
          have pr : vp_in (nI r) 40 := vp_in_nI (by omega) (by decide)
          obtain ⟨sr, dr, ur, b1, b2, b3⟩ := hb r (by omega)
          have no : ¬ (s r ≤ s i ∧ s i < s r + du r) → vwp E d M_X12_busyValue 197 [some (sl 6 0), some (wj (Int32.toInt64 c)), none, some (wi (nI m)), some (wj (Int32.toInt64 (bmx s du us m i))), none, some (wi (nI i)), some (wj (Int32.toInt64 (bsa s du us (s i) r))), none, some (wi (nI r)), none] [] V (zj K) := by
            intro z
            refine w_X12_busyValue_197 (w_X12_busyValue_198 ⟨fun _ => w_X12_busyValue_218 ?_, fun q => absurd rfl q⟩)
            have nx := ihf (r + 1) (by omega)
            rw [bsa, if_neg z] at nx
            rw [nI_1, Int64.add_zero]
            exact nx
          have sm := j_add (B := 10000) (b1.mono (by decide)) (b2.mono (by decide)) (by decide)
          refine w_X12_busyValue_143 ⟨fun q => absurd q (nI_ge (by omega) (by omega)), fun _ => ⟨pr, pi, ?_⟩⟩
          rw [nI_clamp (show i < 2 ^ 31 by omega), nI_clamp (show r < 2 ^ 31 by omega), si, sr, dr]
          refine ⟨fun q => no (fun z => Int32.not_le.mpr (j_lt.mp q) z.1), fun q => ⟨pi, pr, pr, ?_⟩⟩
          rw [← sm.1]
          refine ⟨fun q1 => no (fun z => Int32.not_lt.mpr (j_le.mp q1) z.2), fun q1 => ?_⟩
          have yes : s r ≤ s i ∧ s i < s r + du r := ⟨Int32.not_lt.mp (fun z => q (j_lt.mpr z)), Int32.not_le.mp (fun z => q1 (j_le.mpr z))⟩
          refine w_X12_busyValue_198 ⟨fun z => absurd z (by decide), fun _ => ⟨pr, w_X12_busyValue_218 ?_⟩⟩
          have nx := ihf (r + 1) (by omega)
          have bb := bsa_b (s := s) (du := du) (t := s i) r (by omega) (fun k hk => hu k (by omega))
          rw [bsa, if_pos yes, (j_add (B := 1000000) (bb.mono (by omega)) (b3.mono (by decide)) (by decide)).1] at nx
          rw [nI_1, nI_clamp (show r < 2 ^ 31 by omega), ur]
          exact nx
      exact go2 m 0 (by omega)
  exact go1 m 0 (by omega)
theorem spx_27 {w : Nat} : spx nt se 27 w = bsv (nt w) (fun r => ntv nt se (w + 2 + 3 * r)) (fun r => nt (w + 2 + 3 * r + 1)) (fun r => nt (w + 2 + 3 * r + 2)) (ntn nt (w + 1)) := by unfold spx; rw [if_neg (by decide), if_neg (by decide), if_neg (by decide), if_neg (by decide), if_neg (by decide), if_pos rfl]
end
