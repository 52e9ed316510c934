/-! without -/
section
variable {E : EE} {d : Nat} {V V' V1 V2 : VH} {q B : Nat} {t : Nat → Int32} {n : Nat} {R : List SR} {nt fa : Nat → Int32} {h h' : Nat} {x b : Int32} {cs : Nat → Int32}
theorem c_isLess {a0 f0 a1 f1 p c : Nat} {sc : Nat → Nat → Int64} {K : Int32 → VH → Prop} (s0 : SL (vL V) a0 f0 15) (s1 : SL (vL V) a1 f1 15) (n0 : vN V a0 f0 = 3) (n1 : vN V a1 f1 = 3) (hA : ∀ l, l < 3 → vJ V a0 f0 l = sc p l) (hB : ∀ l, l < 3 → vJ V a1 f1 l = sc c l) (hk : K (bI (btr sc p c)) V) : vMI E d M_X3_isLess [sl a0 f0, sl a1 f1] V K := by
  have step : ∀ l, l < 3 → (sc p l = sc c l → vwp E d M_X3_isLess 2 [some (sl a0 f0), some (sl a1 f1), some (wi (nI (l + 1)))] [] V (zi K)) → (sc p l ≠ sc c l → K (bI (decide (sc p l < sc c l))) V) → vwp E d M_X3_isLess 2 [some (sl a0 f0), some (sl a1 f1), some (wi (nI l))] [] V (zi K) := fun l hl k1 k2 => by
    refine w_X3_isLess_2 s0 s1 ⟨fun z => absurd z (nI_ge (b := 3) hl (by decide)), fun _ => ?_⟩
    rw [n0, n1, nI_clamp (show l < 2 ^ 31 by omega), hA l hl, hB l hl]
    have v : vp_in (nI l) 3 := vp_in_nI hl (by decide)
    refine ⟨v, v, fun e => ?_, fun e => ⟨v, v, fun z => ?_, fun z => ?_⟩⟩
    · rw [nI_1]; exact k1 e
    · have := k2 e
      rw [decide_eq_false (Int64.not_lt.mpr z)] at this
      exact this
    · have := k2 e
      rw [decide_eq_true (Int64.not_le.mp z)] at this
      exact this
  refine w_X3_isLess_0 s0 s1 (step 0 (by omega) (fun e0 => step 1 (by omega) (fun e1 => step 2 (by omega) (fun e2 => ?_) (fun n2 => ?_)) (fun n1 => ?_)) (fun n0 => ?_))
  · refine w_X3_isLess_2 s0 s1 ⟨fun _ => ?_, fun z => absurd (nI_le (a := 3) (b := 3) (Nat.le_refl _) (by decide)) z⟩
    unfold btr at hk
    rw [if_neg (fun z => z e0), if_neg (fun z => z e1), e2, decide_eq_false (fun z => Int64.lt_irrefl z)] at hk
    exact hk
  · unfold btr at hk
    rw [if_neg (fun z => z e0), if_neg (fun z => z e1)] at hk
    exact hk
  · unfold btr at hk
    rw [if_neg (fun z => z e0), if_pos n1] at hk
    exact hk
  · unfold btr at hk
    rw [if_pos n0] at hk
    exact hk
theorem cpy3 {a0 f0 a1 f1 l : Nat} (hl : l < 3) : vJ (cpyJ V a0 f0 a1 f1 0 0 3) a1 f1 l = vJ V a0 f0 l := by
  show (r2 V.2.2.2.2.2 a1 f1 (va_cpy (vJ V a0 f0) (vJ V a1 f1) 0 0 3)) a1 f1 l = _
  simp [r2, va_cpy, hl]
theorem Fc_cpyJ {S : Nat → Nat → Nat → Prop} {a0 f0 a1 f1 : Nat} (h : ∀ i, S a1 f1 i) : Fc V (cpyJ V a0 f0 a1 f1 0 0 3) S := by
  have k := Fr_cpyJ (V := V) (S := fun a f => a = a1 ∧ f = f1) (g := a1) (f := f1) (a := a0) (b := f0) (sp := 0) (dp := 0) (n := 3) ⟨rfl, rfl⟩
  refine ⟨rfl, rfl, rfl, rfl, fun a f i z => ?_⟩
  have := k.2.2.2 a f (fun y => z (by rw [y.1, y.2]; exact h i))
  exact ⟨by rw [this.2.1], by rw [this.2.2]⟩
/-- scores without rule r -/
def scW (R : List SR) (nt fa : Nat → Int32) (r p l : Nat) : Int64 := if l = lvn R r then scQ R nt fa p l - Int32.toInt64 (wtR R r) * Int32.toInt64 (DR R nt r fa (sn (szR R) (tcR R 1) (vlR R) p)) else scQ R nt fa p l
/-- the score of level 0 without rule r -/
theorem wsR_wo (E : EE) {se : Nat → Int32} (hs : PrS t n R nt) (b1 : Bds (tcR R 0) fa) (b2 : Bds (tcR R 1) se) {r : Nat} (hr : r < tcR R 2) (h0 : lvn R r = 0) : ∀ m, m ≤ tcR R 2 → (m ≤ r → 0 ≤ (wsR (lvn R) (wtR R) (DR R nt) fa se m 0).toInt ∧ (wsR (lvn R) (wtR R) (DR R nt) fa se m 0).toInt ≤ m * 2000001000 ∧ ((wsR (lvn R) (wtR R) (DR R nt) fa se m 0).toInt = 0 ↔ ∀ j, j < m → j ≠ r → lvn R j = 0 → DR R nt j fa se ≤ 0)) ∧ (r < m → 0 ≤ (wsR (lvn R) (wtR R) (DR R nt) fa se m 0).toInt - (wtR R r).toInt * (DR R nt r fa se).toInt ∧ (wsR (lvn R) (wtR R) (DR R nt) fa se m 0).toInt ≤ m * 2000001000 ∧ ((wsR (lvn R) (wtR R) (DR R nt) fa se m 0).toInt - (wtR R r).toInt * (DR R nt r fa se).toInt = 0 ↔ ∀ j, j < m → j ≠ r → lvn R j = 0 → DR R nt j fa se ≤ 0)) := by
  intro m
  induction m with
  | zero => intro _; exact ⟨fun _ => by rw [wsR_0]; exact ⟨by decide, by decide, fun _ j hj => absurd hj (Nat.not_lt_zero j), fun _ => by decide⟩, fun z => absurd z (Nat.not_lt_zero r)⟩
  | succ m ih =>
    intro hm
    obtain ⟨i1, i2⟩ := ih (by omega)
    have r24 : tcR R 2 ≤ 24 := hs.2.2.2.1.1 2 (by decide)
    obtain ⟨l3, _, ⟨w, ew, w1, w2⟩, _⟩ := hs.rule (show m < tcR R 2 by omega)
    obtain ⟨t1, t2⟩ := DR_tv E hs b1 b2 (show m < tcR R 2 by omega)
    have z0 : DR R nt m fa se ≤ 0 ↔ (DR R nt m fa se).toInt = 0 := by rw [Int32.le_iff_toInt_le, show (0 : Int32).toInt = 0 from by decide]; omega
    by_cases c : lvn R m = 0
    · have e : wsR (lvn R) (wtR R) (DR R nt) fa se (m + 1) 0 = wsR (lvn R) (wtR R) (DR R nt) fa se m 0 + Int32.toInt64 (wtR R m) * Int32.toInt64 (DR R nt m fa se) := by
        have := wsR_at (lv := lvn R) (wt := wtR R) (D := DR R nt) (fa := fa) (se := se) (r := m)
        rw [c] at this; exact this
      have ewi : (wtR R m).toInt = (w : Int) := by rw [ew]; exact Int32.toInt_ofNat_of_lt (by omega)
      have pb : 0 ≤ (w : Int) * (DR R nt m fa se).toInt ∧ (w : Int) * (DR R nt m fa se).toInt ≤ 2000001000 := ⟨Int.mul_nonneg (by omega) t1, by
        have := Int.mul_le_mul (show (w : Int) ≤ 1000 by omega) t2 t1 (by decide)
        omega⟩
      have em : (Int32.toInt64 (wtR R m) * Int32.toInt64 (DR R nt m fa se)).toInt = (w : Int) * (DR R nt m fa se).toInt := by
        rw [Int64.toInt_mul, Int32.toInt_toInt64, Int32.toInt_toInt64, ewi]
        exact Int.bmod_eq_of_le (by omega) (by omega)
      have low : 0 ≤ (wsR (lvn R) (wtR R) (DR R nt) fa se m 0).toInt ∧ (wsR (lvn R) (wtR R) (DR R nt) fa se m 0).toInt ≤ m * 2000001000 := by
        obtain ⟨y1, y2, _⟩ := wsR_0s E hs b1 b2 m (by omega)
        exact ⟨y1, y2⟩
      have es : (wsR (lvn R) (wtR R) (DR R nt) fa se (m + 1) 0).toInt = (wsR (lvn R) (wtR R) (DR R nt) fa se m 0).toInt + (w : Int) * (DR R nt m fa se).toInt := by
        rw [e, Int64.toInt_add, em]
        exact Int.bmod_eq_of_le (by omega) (by omega)
      have pz : (w : Int) * (DR R nt m fa se).toInt = 0 ↔ (DR R nt m fa se).toInt = 0 := ⟨fun y => (Int.mul_eq_zero.mp y).resolve_left (by omega), fun y => by rw [y, Int.mul_zero]⟩
      refine ⟨fun hmr => ?_, fun hmr => ?_⟩
      · obtain ⟨j1, j2, j3⟩ := i1 (by omega)
        refine ⟨by omega, by omega, ⟨fun y j hj hne hl => ?_, fun y => ?_⟩⟩
        · by_cases u : j = m
          · subst u; exact z0.mpr (pz.mp (by omega))
          · exact j3.mp (by omega) j (by omega) hne hl
        · have a := j3.mpr (fun j hj hne hl => y j (by omega) hne hl)
          have b := pz.mpr (z0.mp (y m (by omega) (by omega) c))
          omega
      · by_cases u : r = m
        · subst u
          obtain ⟨j1, j2, j3⟩ := i1 (Nat.le_refl r)
          rw [es, ewi]
          refine ⟨by omega, by omega, ⟨fun y j hj hne hl => j3.mp (by omega) j (by omega) hne hl, fun y => ?_⟩⟩
          have a := j3.mpr (fun j hj hne hl => y j (by omega) hne hl)
          omega
        · obtain ⟨j1, j2, j3⟩ := i2 (by omega)
          refine ⟨by omega, by omega, ⟨fun y j hj hne hl => ?_, fun y => ?_⟩⟩
          · by_cases u : j = m
            · subst u; exact z0.mpr (pz.mp (by omega))
            · exact j3.mp (by omega) j (by omega) hne hl
          · have a := j3.mpr (fun j hj hne hl => y j (by omega) hne hl)
            have b := pz.mpr (z0.mp (y m (by omega) (by omega) c))
            omega
    · have e : wsR (lvn R) (wtR R) (DR R nt) fa se (m + 1) 0 = wsR (lvn R) (wtR R) (DR R nt) fa se m 0 := wsR_ne (fun z => c z.symm)
      rw [e]
      have rm : r ≠ m := fun z => c (by rw [← z]; exact h0)
      have ext : (∀ j, j < m → j ≠ r → lvn R j = 0 → DR R nt j fa se ≤ 0) ↔ ∀ j, j < m + 1 → j ≠ r → lvn R j = 0 → DR R nt j fa se ≤ 0 := ⟨fun y j hj hne hl => by
        by_cases u : j = m
        · subst u; exact absurd hl c
        · exact y j (by omega) hne hl, fun y j hj hne hl => y j (by omega) hne hl⟩
      refine ⟨fun hmr => ?_, fun hmr => ?_⟩
      · obtain ⟨j1, j2, j3⟩ := i1 (by omega)
        exact ⟨j1, by omega, j3.trans ext⟩
      · obtain ⟨j1, j2, j3⟩ := i2 (by omega)
        exact ⟨j1, by omega, j3.trans ext⟩
/-- feasible but for rule r, in both -/
theorem fea_wo (E : EE) (hs : PrS t n R nt) (b1 : Bds (tcR R 0) fa) {hd : Int32} (hh : HsC hd R) {r : Nat} (hr : r < tcR R 2) (p : Nat) : (stQ R nt fa p &&& (hd &&& (((1 : Int32) <<< (nI r &&& 31)) ^^^ (-1))) = 0) ↔ scW R nt fa r p 0 = 0 := by
  have r24 : tcR R 2 ≤ 24 := hs.2.2.2.1.1 2 (by decide)
  have b2 := sn_bd hs p
  have bits : (stQ R nt fa p &&& (hd &&& (((1 : Int32) <<< (nI r &&& 31)) ^^^ (-1))) = 0) ↔ ∀ j, j < tcR R 2 → j ≠ r → lvn R j = 0 → DR R nt j fa (sn (szR R) (tcR R 1) (vlR R) p) ≤ 0 := by
    rw [and_eq0]
    unfold stQ stP
    refine ⟨fun y j hj hne hl => ?_, fun y v hv hw => ?_⟩
    · by_cases c : DR R nt j fa (sn (szR R) (tcR R 1) (vlR R) p) ≤ 0
      · exact c
      · have := y j (by omega) (by rw [tst_wst _ _ (by omega) (by omega)]; exact decide_eq_true ⟨hj, c⟩)
        have h2 := (hh.1 j (by omega)).mpr ⟨hj, by obtain ⟨_, el, _⟩ := hs.rule hj; rw [el, hl]; rfl⟩
        rw [tst_and, h2, tst_xor, tst_one (by omega) (by omega), tst_n1 (by omega), decide_eq_false hne] at this
        exact absurd this (by decide)
    · rw [tst_wst _ _ (by omega) hv] at hw
      obtain ⟨w1, w2⟩ := of_decide_eq_true hw
      cases u : tst (hd &&& (((1 : Int32) <<< (nI r &&& 31)) ^^^ (-1))) v with
      | false => rfl
      | true =>
        rw [tst_and, Bool.and_eq_true, tst_xor, tst_one (by omega) hv, tst_n1 hv] at u
        obtain ⟨u1, u2⟩ := u
        obtain ⟨_, u3⟩ := (hh.1 v hv).mp u1
        obtain ⟨ul, el, _⟩ := hs.rule w1
        have hne : v ≠ r := fun z => by rw [decide_eq_true z] at u2; exact absurd u2 (by decide)
        exact absurd (y v w1 hne (nI_0' ul (by rw [← el]; exact u3))) w2
  rw [bits]
  have e0 : ∀ y : Int64, y = 0 ↔ y.toInt = 0 := fun y => ⟨fun z => by rw [z]; decide, fun z => Int64.toInt_inj.mp (z.trans (by decide))⟩
  have sA : scQ R nt fa p 0 = wsR (lvn R) (wtR R) (DR R nt) fa (sn (szR R) (tcR R 1) (vlR R) p) (tcR R 2) 0 := by
    unfold scQ scP
    exact wsA_0s hs _ (Nat.le_refl _)
  unfold scW
  by_cases c : lvn R r = 0
  · rw [if_pos c.symm, sA, e0]
    obtain ⟨_, i2⟩ := wsR_wo E hs b1 b2 hr c (tcR R 2) (Nat.le_refl _)
    obtain ⟨j1, j2, j3⟩ := i2 hr
    obtain ⟨_, _, ⟨w, ew, w1, w2⟩, _⟩ := hs.rule hr
    obtain ⟨t1, t2⟩ := DR_tv E hs b1 b2 hr
    have ewi : (wtR R r).toInt = (w : Int) := by rw [ew]; exact Int32.toInt_ofNat_of_lt (by omega)
    have pb : 0 ≤ (w : Int) * (DR R nt r fa (sn (szR R) (tcR R 1) (vlR R) p)).toInt ∧ (w : Int) * (DR R nt r fa (sn (szR R) (tcR R 1) (vlR R) p)).toInt ≤ 2000001000 := ⟨Int.mul_nonneg (by omega) t1, by
      have := Int.mul_le_mul (show (w : Int) ≤ 1000 by omega) t2 t1 (by decide)
      omega⟩
    have em : (Int32.toInt64 (wtR R r) * Int32.toInt64 (DR R nt r fa (sn (szR R) (tcR R 1) (vlR R) p))).toInt = (w : Int) * (DR R nt r fa (sn (szR R) (tcR R 1) (vlR R) p)).toInt := by
      rw [Int64.toInt_mul, Int32.toInt_toInt64, Int32.toInt_toInt64, ewi]
      exact Int.bmod_eq_of_le (by omega) (by omega)
    rw [ewi] at j1 j3
    have es : (wsR (lvn R) (wtR R) (DR R nt) fa (sn (szR R) (tcR R 1) (vlR R) p) (tcR R 2) 0 - Int32.toInt64 (wtR R r) * Int32.toInt64 (DR R nt r fa (sn (szR R) (tcR R 1) (vlR R) p))).toInt = (wsR (lvn R) (wtR R) (DR R nt) fa (sn (szR R) (tcR R 1) (vlR R) p) (tcR R 2) 0).toInt - (w : Int) * (DR R nt r fa (sn (szR R) (tcR R 1) (vlR R) p)).toInt := by
      rw [Int64.toInt_sub, em]
      exact Int.bmod_eq_of_le (by omega) (by omega)
    rw [es]
    exact j3.symm
  · rw [if_neg (fun z => c z.symm), sA, e0]
    obtain ⟨_, _, i3⟩ := wsR_0s E hs b1 b2 _ (Nat.le_refl (tcR R 2))
    rw [i3]
    exact ⟨fun y j hj hl => y j hj (fun z => c (by rw [← z]; exact hl)) hl, fun y j hj _ hl => y j hj hl⟩
end
