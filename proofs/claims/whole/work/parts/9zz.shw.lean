/-! shown -/
/-- a statement from token a up to b: its last token alone is a ; -/
def st59 (T : Nat → TK) (a b : Nat) : Prop := a < b ∧ (T (b - 1)).1 = 59 ∧ ∀ j, a ≤ j → j < b - 1 → (T j).1 ≠ 59
section
variable {T : Nat → TK} {F L : Nat}
theorem rng_nk {M : MN} {i : Nat} : Nk T M i (rng T i) := by
  unfold rng
  exact Nk.nb nmr_nk (fun i1 x => Nk.ite (fun z => Nk.tok (nk_c z (by decide) (by decide)) (Nk.nb nmr_nk (fun i2 y => Nk.ite (fun _ => Nk.e) (fun _ => Nk.o)))) (fun _ => Nk.e))
theorem vst_nk {M : MN} : ∀ (m : Nat) (A : List Int32) (i : Nat), Nk T M i (vst T m A i) := by
  intro m
  induction m with
  | zero => intro A i; exact Nk.e
  | succ m ih =>
    intro A i
    rw [vst]
    exact Nk.nb nmr_nk (fun i1 x => Nk.ite (fun _ => Nk.e) (fun _ => Nk.ite (fun z => Nk.tok (nk_c z (by decide) (by decide)) (ih _ _)) (fun _ => Nk.ite (fun z => Nk.tok (nk_c z (by decide) (by decide)) Nk.o) (fun _ => Nk.e))))
theorem vls_nk {M : MN} {i : Nat} : Nk T M i (vls T i) := by
  unfold vls
  exact Nk.ite (fun z => Nk.tok (nk_c z (by decide) (by decide)) (vst_nk _ _ _)) (fun _ => rng_nk)
theorem nwn_nk {R : List SR} {s m i i1 : Nat} (h : nwn T R s m i = .inr i1) : i1 = i + 1 ∧ (T i).1 = 1 := by
  unfold nwn at h
  by_cases c : (T i).1 = 1
  · rw [if_pos c] at h
    by_cases c2 : MR R (T i).2.1 = none
    · rw [if_pos c2] at h
      by_cases c3 : m ≤ tcR R s
      · rw [if_pos c3] at h; exact nomatch h
      · rw [if_neg c3] at h; exact ⟨(Sum.inr.inj h).symm, c⟩
    · rw [if_neg c2] at h; exact nomatch h
  · rw [if_neg c] at h; exact nomatch h
/-- tokens a .. b - 1 are none -/
def sg59 (T : Nat → TK) (a b : Nat) : Prop := a ≤ b ∧ ∀ j, a ≤ j → j < b → (T j).1 ≠ 59
theorem sg59.tr {a b c : Nat} (h : sg59 T a b) (k : sg59 T b c) : sg59 T a c := ⟨Nat.le_trans h.1 k.1, fun j h1 h2 => by
  by_cases u : j < b
  · exact h.2 j h1 u
  · exact k.2 j (by omega) h2⟩
theorem sg59.one {a c : Nat} (h : (T a).1 = c) (hc : c ≠ 59) : sg59 T a (a + 1) := ⟨Nat.le_succ a, fun j h1 h2 => by
  have : j = a := by omega
  rw [this, h]; exact hc⟩
theorem sg59.st {a b : Nat} (h : sg59 T a b) (k : (T b).1 = 59) : st59 T a (b + 1) := ⟨Nat.lt_succ_of_le h.1, k, fun j h1 h2 => h.2 j h1 h2⟩
theorem Nk.sg {α : Type} {M : MN} {i : Nat} {r : NR α} {q : Nat × α} (h : Nk T M i r) (e : r = .inr q) : sg59 T i q.1 := ⟨(h q e).1, fun j h1 h2 => ((h q e).2 j h1 h2).2⟩
theorem stB_59 {R : List SR} {kd tag i : Nat} {vs : List Int32} {i3 : Nat} {q : Nat × SR} (h : stB T R F kd tag i vs i3 = .inr q) : st59 T i3 q.1 := by
  unfold stB at h
  by_cases c : (T i3).1 = 58
  · rw [if_pos c] at h
    cases e : prz T (MR R) F tag 0 0 (i3 + 1) (nbR R) with
    | inl y => rw [e] at h; exact nomatch h
    | inr y =>
      rw [e] at h
      dsimp only at h
      by_cases c2 : (T y.1).1 = 59
      · rw [if_pos c2] at h
        have := Sum.inr.inj h
        rw [← this]
        exact ((sg59.one c (by decide)).tr ((prz_nk _ _ _ _ _ _).sg e)).st c2
      · rw [if_neg c2] at h; exact nomatch h
  · rw [if_neg c] at h; exact nomatch h
theorem st59.pre {a b c : Nat} (h : sg59 T a b) (k : st59 T b c) : st59 T a c := ⟨Nat.lt_of_le_of_lt h.1 k.1, k.2.1, fun j h1 h2 => by
  by_cases u : j < b
  · exact h.2 j h1 u
  · exact k.2.2 j (by omega) h2⟩
theorem stm_59 {R : List SR} {i : Nat} {q : Nat × SR} (h : stm T R F i = .inr q) : st59 T i q.1 := by
  unfold stm at h
  by_cases c0 : (T i).1 = 300
  · rw [if_pos c0] at h
    obtain ⟨i1, e1, h⟩ := nxB_inr h
    obtain ⟨rfl, n1⟩ := nwn_nk e1
    have pre := (sg59.one c0 (by decide)).tr (sg59.one n1 (by decide))
    by_cases c : (T (i + 1 + 1)).1 = 61
    · rw [if_pos c] at h
      obtain ⟨i2, x, e2, h⟩ := nrB_inr h
      by_cases c2 : (T i2).1 = 59
      · rw [if_pos c2] at h
        have := Sum.inr.inj h
        rw [← this]
        exact ((pre.tr (sg59.one c (by decide))).tr ((nmr_nk (M := fun _ => none)).sg e2)).st c2
      · rw [if_neg c2] at h; exact nomatch h
    · rw [if_neg c] at h; exact nomatch h
  · rw [if_neg c0] at h
    by_cases c1 : (T i).1 = 301
    · rw [if_pos c1] at h
      obtain ⟨i1, e1, h⟩ := nxB_inr h
      obtain ⟨rfl, n1⟩ := nwn_nk e1
      have pre := (sg59.one c1 (by decide)).tr (sg59.one n1 (by decide))
      by_cases c : (T (i + 1 + 1)).1 = 302
      · rw [if_pos c] at h
        obtain ⟨i2, vs, e2, h⟩ := nrB_inr h
        by_cases c2 : (T i2).1 = 59
        · rw [if_pos c2] at h
          by_cases c3 : 20 < vs.length ∨ 20000 < plR R * vs.length
          · rw [if_pos c3] at h; exact nomatch h
          · rw [if_neg c3] at h
            have := Sum.inr.inj h
            rw [← this]
            exact ((pre.tr (sg59.one c (by decide))).tr ((vls_nk (M := fun _ => none)).sg e2)).st c2
        · rw [if_neg c2] at h; exact nomatch h
      · rw [if_neg c] at h; exact nomatch h
    · rw [if_neg c1] at h
      by_cases c3 : (T i).1 = 303
      · rw [if_pos c3] at h
        obtain ⟨i1, e1, h⟩ := nxB_inr h
        obtain ⟨rfl, n1⟩ := nwn_nk e1
        have pre := (sg59.one c3 (by decide)).tr (sg59.one n1 (by decide))
        by_cases c : (T (i + 1 + 1)).1 = 304
        · rw [if_pos c] at h
          obtain ⟨i2, x, e2, h⟩ := nrB_inr h
          by_cases c4 : x = 0 ∧ 12 ≤ hdR R
          · rw [if_pos c4] at h; exact nomatch h
          · rw [if_neg c4] at h
            by_cases c5 : (T i2).1 = 42
            · rw [if_pos c5] at h
              obtain ⟨i3, w, e3, h⟩ := nrB_inr h
              exact st59.pre ((((pre.tr (sg59.one c (by decide))).tr ((nmr_nk (M := fun _ => none)).sg e2)).tr (sg59.one c5 (by decide))).tr ((nmr_nk (M := fun _ => none)).sg e3)) (stB_59 h)
            · rw [if_neg c5] at h; exact nomatch h
        · rw [if_neg c] at h; exact nomatch h
      · rw [if_neg c3] at h
        by_cases c5 : (T i).1 = 305
        · rw [if_pos c5] at h
          obtain ⟨i1, e1, h⟩ := nxB_inr h
          obtain ⟨rfl, n1⟩ := nwn_nk e1
          have pre := (sg59.one c5 (by decide)).tr (sg59.one n1 (by decide))
          by_cases c : (T (i + 1 + 1)).1 = 304
          · rw [if_pos c] at h
            obtain ⟨i2, x, e2, h⟩ := nrB_inr h
            exact st59.pre ((pre.tr (sg59.one c (by decide))).tr ((nmr_nk (M := fun _ => none)).sg e2)) (stB_59 h)
          · rw [if_neg c] at h; exact nomatch h
        · rw [if_neg c5] at h; exact nomatch h
/-- where statement s begins; where it ends -/
def smB (R : List SR) (i s : Nat) : Nat := if s < R.length then (R.getD s sr0).i0 else i
def SgR (T : Nat → TK) (R : List SR) (i : Nat) : Prop := smB R i 0 = 0 ∧ ∀ s, s < R.length → st59 T (smB R i s) (smB R i (s + 1))
theorem smB_old {R : List SR} {r : SR} {i i' s : Nat} (hr : r.i0 = i) (hs : s ≤ R.length) : smB (R ++ [r]) i' s = smB R i s := by
  unfold smB
  rw [if_pos (by rw [List.length_append]; show s < R.length + 1; omega)]
  by_cases c : s < R.length
  · rw [if_pos c, List.getD_eq_getElem?_getD, List.getElem?_append_left c, ← List.getD_eq_getElem?_getD]
  · rw [if_neg c, List.getD_eq_getElem?_getD, List.getElem?_append_right (by omega), show s - R.length = 0 by omega]
    exact hr
theorem smB_new {R : List SR} {r : SR} {i' s : Nat} (hs : s = R.length + 1) : smB (R ++ [r]) i' s = i' := by
  unfold smB
  rw [if_neg (by rw [List.length_append]; show ¬ s < R.length + 1; omega)]
theorem rdl_59 (hT : TL T L) (hF : 8 * L + 7 < F) : ∀ (m : Nat) (R : List SR) (i : Nat) (q : Nat × List SR), SgR T R i → WR T F L R i → rdl T F m R i = .inr q → SgR T q.2 q.1 := by
  intro m
  induction m with
  | zero => intro R i q _ _ h; exact nomatch h
  | succ m ih =>
    intro R i q hR hW h
    rw [rdl] at h
    by_cases c : R ≠ [] ∧ (T i).1 = 0
    · rw [if_pos c] at h
      have := Sum.inr.inj h
      rw [← this]
      exact hR
    · rw [if_neg c] at h
      obtain ⟨i1, r, e, h⟩ := nrB_inr h
      obtain ⟨w1, _, _, _, w5⟩ := stm_wr hT hF hW e
      refine ih (R ++ [r]) i1 q ⟨?_, fun s hs => ?_⟩ w1 h
      · rw [smB_old w5 (Nat.zero_le _)]; exact hR.1
      · rw [List.length_append] at hs
        have hs : s < R.length + 1 := hs
        by_cases u : s < R.length
        · rw [smB_old w5 (by omega), smB_old w5 (by omega)]; exact hR.2 s u
        · have : s = R.length := by omega
          rw [smB_old w5 (by omega), smB_new (by omega)]
          have e2 : smB R i s = i := by unfold smB; rw [if_neg (by omega)]
          rw [e2]
          exact stm_59 e
theorem PrS.sg {t : Nat → Int32} {n : Nat} {R : List SR} {nt : Nat → Int32} (hs : PrS t n R nt) : SgR (tkT t n) R (tln t n) := by
  obtain ⟨hT, hL⟩ := hs.L
  have ff : FF = 160008 := rfl
  have e := hs.2.1
  unfold rdx at e
  cases w : rdl (tkT t n) FF (n + 1) [] 0 with
  | inl y => rw [w] at e; exact nomatch e
  | inr y =>
    rw [w] at e
    dsimp only at e
    by_cases c : tcR y.2 1 = 0 ∨ 20000000 < plR y.2 * y.1
    · rw [if_pos c] at e; exact nomatch e
    · rw [if_neg c] at e
      have ey := Sum.inr.inj e
      have := rdl_59 hT (by omega) _ _ _ _ (show SgR (tkT t n) [] 0 from ⟨rfl, fun s hs => absurd hs (Nat.not_lt_zero s)⟩) WR_nil w
      rw [ey] at this
      exact this
/-- how many ; before token j -/
def c59 (T : Nat → TK) (j : Nat) : Nat := cnL (fun i => decide ((T i).1 = 59)) j
theorem c59_s (j : Nat) : c59 T (j + 1) = c59 T j + (if (T j).1 = 59 then 1 else 0) := by
  unfold c59
  rw [cnL_s]
  by_cases c : (T j).1 = 59
  · rw [if_pos c, if_pos (decide_eq_true c)]
  · rw [if_neg c, if_neg (by rw [decide_eq_false c]; decide)]
theorem c59_in {a b : Nat} (h : st59 T a b) : ∀ m j, j = a + m → j < b → c59 T j = c59 T a := by
  intro m
  induction m with
  | zero => intro j e _; rw [e]; rfl
  | succ m ih =>
    intro j e hj
    have : j = (a + m) + 1 := by omega
    rw [this, c59_s, if_neg (h.2.2 (a + m) (by omega) (by omega))]
    exact ih (a + m) rfl (by omega)
theorem c59_end {a b : Nat} (h : st59 T a b) : c59 T b = c59 T a + 1 := by
  have e : b = (b - 1) + 1 := by have := h.1; omega
  have := c59_in h (b - 1 - a) (b - 1) (by have := h.1; omega) (by have := h.1; omega)
  rw [e, c59_s, this, if_pos h.2.1]
theorem c59_sB {R : List SR} {i : Nat} (h : SgR T R i) : ∀ s, s ≤ R.length → c59 T (smB R i s) = s := by
  intro s
  induction s with
  | zero => intro _; rw [h.1]; rfl
  | succ s ih => intro hs; rw [c59_end (h.2 s (by omega)), ih (by omega)]
theorem c59_mono {a b : Nat} (h : a ≤ b) : c59 T a ≤ c59 T b := cnL_mono _ h
/-- what letter i of a statement from token j on (m tokens) is -/
def shf (t : Nat → Int32) (T : Nat → TK) : Nat → Nat → Nat → Int32
  | 0, _, _ => -1
  | m + 1, j, y => if y < (T j).e - (T j).f then nI (bt t ((T j).f + y)) else if y = (T j).e - (T j).f then (if m = 0 then -1 else 32) else shf t T m (j + 1) (y - ((T j).e - (T j).f) - 1)
end
section
variable {E : EE} {d : Nat} {V V' : VH} {q B : Nat} {t : Nat → Int32} {n : Nat} {R : List SR} {nt fa : Nat → Int32} {h : Nat} {x : Int32} {cs : Nat → Int32}
/-- the class has scanned text t -/
def Scn (V : VH) (g : Nat) (t : Nat → Int32) (n cap : Nat) : Prop := PG (vL V) g ∧ TkN V cap ∧ vI V 0 2 5 = nI (tln t n) ∧ tln t n < cap ∧ (∀ j, j ≤ tln t n → TkR V j (tkT t n j)) ∧ Byt V g 1 n ∧ vI V g 2 = t
theorem Scn.fc {g cap : Nat} (hs : Scn V g t n cap) (k : Fc V V' stS) : Scn V' g t n cap := by
  obtain ⟨a1, a2, a3, a4, a5, a6, a7⟩ := hs
  have g0 : g ≠ 0 := a1.2.1
  refine ⟨by rw [k.l]; exact a1, a2.fc k, by rw [k.i (fun y => by have := y.2; omega)]; exact a3, a4, fun j hj => ?_, a6.fc2 k (fun y => g0 y.1), by rw [← a7]; exact funext fun i => k.i (fun y => g0 y.1)⟩
  obtain ⟨r1, r2, r3, r4⟩ := a5 j hj
  exact ⟨by rw [k.i (fun y => by have := y.2; omega)]; exact r1, fun z => by rw [k.j (fun y => by have := y.2; omega)]; exact r2 z, by rw [k.i (fun y => by have := y.2; omega)]; exact r3, by rw [k.i (fun y => by have := y.2; omega)]; exact r4⟩
theorem Scn.is {g cap j : Nat} (hs : Scn V g t n cap) (hj : j ≤ tln t n) (ta : TkA V j) {K : Int32 → VH → Prop} (hk : K (bI (decide ((tkT t n j).1 = 59))) V) : vMI E d M_X10_is [sl 0 2, wi 59] V K := by
  obtain ⟨r1, r2, _, _⟩ := hs.2.2.2.2.1 j hj
  obtain ⟨_, b1, b2, _, _⟩ := ta
  obtain ⟨vc, _⟩ := tkT_ok t n j
  refine c_is ?_
  have q : (vI V 0 2 6 = 4 ∧ vJ V 0 2 7 = Int32.toInt64 59) ↔ (tkT t n j).1 = 59 := by
    rw [b1, b2, r1, clK_4]
    constructor
    · rintro ⟨h4, e⟩
      have r2 := r2 (by omega)
      rw [clX_m h4] at r2
      have e2 : nL (clM (tkT t n j).1) = nL 59 := r2.symm.trans e
      have l := clM_lt (tkT t n j).1 (vcd_lt vc)
      exact clM_inj vc (by decide) h4 (by decide) (nL_inj (by omega) (by decide) e2)
    · intro e
      refine ⟨by omega, ?_⟩
      rw [r2 (by omega), clX_m (by omega), e]
      rfl
  by_cases z : (tkT t n j).1 = 59
  · rw [decide_eq_true z] at hk; rw [if_pos (q.mpr z)]; exact hk
  · rw [decide_eq_false z] at hk; rw [if_neg (fun y => z (q.mp y))]; exact hk
/-- the class's loop -/
theorem shC_go {s i g cap : Nat} {V0 : VH} {K : Int32 → VH → Prop} (h0 : 2 < d) (hP : PrS t n R nt) (hs : s < 2 ^ 31) (hi : i < 2 ^ 31) (hk : ∀ V', Fc V0 V' stS → K (if s < R.length then shf t (tkT t n) (smB R (tln t n) (s + 1) - smB R (tln t n) s) (smB R (tln t n) s) i else -1) V') : ∀ (m j y : Nat) (V : VH), j + m = tln t n → Fc V0 V stS → Scn V g t n cap → TkA V j → y ≤ i → (c59 (tkT t n) j < s → y = i) → (c59 (tkT t n) j = s → s < R.length → smB R (tln t n) s ≤ j ∧ j < smB R (tln t n) (s + 1) ∧ shf t (tkT t n) (smB R (tln t n) (s + 1) - j) j y = shf t (tkT t n) (smB R (tln t n) (s + 1) - smB R (tln t n) s) (smB R (tln t n) s) i) → (s < c59 (tkT t n) j → s < R.length → shf t (tkT t n) (smB R (tln t n) (s + 1) - smB R (tln t n) s) (smB R (tln t n) s) i = -1) → ∀ x1 : Int32, vwp E d M_X11_shown 43 [some (sl 0 28), some (wi x1), some (wi (nI s)), some (wi (nI i)), some (sl g 0), some (wi (nI (c59 (tkT t n) j))), some (wi (nI y)), some (wi (nI j)), none, none] [] V (zi K) := by
  have sg := hP.sg
  have hL := hP.L.2
  have n20 := hP.1
  have c59L : ∀ j, c59 (tkT t n) j ≤ j := fun j => cnL_le _ j
  have lR : ∀ j, j < tln t n → c59 (tkT t n) j < R.length ∧ smB R (tln t n) (c59 (tkT t n) j) ≤ j ∧ j < smB R (tln t n) (c59 (tkT t n) j + 1) := by
    have ex : ∀ k, k ≤ R.length → ∀ j, j < smB R (tln t n) k → ∃ s, s < k ∧ smB R (tln t n) s ≤ j ∧ j < smB R (tln t n) (s + 1) := by
      intro k
      induction k with
      | zero => intro _ j hj; rw [sg.1] at hj; exact absurd hj (Nat.not_lt_zero j)
      | succ k ih =>
        intro hk' j hj
        by_cases u : j < smB R (tln t n) k
        · obtain ⟨s, a, b, c⟩ := ih (by omega) j u
          exact ⟨s, by omega, b, c⟩
        · exact ⟨k, by omega, by omega, hj⟩
    intro j hj
    have e : smB R (tln t n) R.length = tln t n := by unfold smB; rw [if_neg (by omega)]
    obtain ⟨s', a, b, c⟩ := ex R.length (Nat.le_refl _) j (by rw [e]; exact hj)
    have : c59 (tkT t n) j = s' := by rw [c59_in (sg.2 s' a) (j - smB R (tln t n) s') j (by omega) c, c59_sB sg s' (by omega)]
    rw [this]
    exact ⟨a, b, c⟩
  intro m
  induction m with
  | zero =>
    intro j y V ej f0 sc ta hy c1 c2 c3 x1
    have hj : j = tln t n := by omega
    subst hj
    refine w_X11_shown_43 sc.1 (by omega) ⟨fun _ => ?_, fun z => absurd (by rw [sc.2.2.1]; exact nI_le (Nat.le_refl _) (by omega)) z⟩
    have := hk V f0
    by_cases u : s < R.length
    · rw [if_pos u] at this
      have e : smB R (tln t n) R.length = tln t n := by unfold smB; rw [if_neg (by omega)]
      have eR : c59 (tkT t n) (tln t n) = R.length := by rw [← e, c59_sB sg R.length (Nat.le_refl _)]
      rw [c3 (by omega) u] at this
      exact this
    · rw [if_neg u] at this; exact this
  | succ m ih =>
    intro j y V ej f0 sc ta hy c1 c2 c3 x1
    have hj : j < tln t n := by omega
    obtain ⟨l1, l2, l3⟩ := lR j hj
    have cl := c59L j
    obtain ⟨_, _, fe, en, _⟩ := tkT_ok t n j
    obtain ⟨r1, r2, r3, r4⟩ := sc.2.2.2.2.1 j (by omega)
    obtain ⟨b0, b1, b2, b3, b4⟩ := id ta
    have nx : ∀ (y' : Nat) (x8 : Int32), y' ≤ i → x8 = bI (decide ((tkT t n j).1 = 59)) → (c59 (tkT t n) (j + 1) < s → y' = i) → (c59 (tkT t n) (j + 1) = s → s < R.length → smB R (tln t n) s ≤ j + 1 ∧ j + 1 < smB R (tln t n) (s + 1) ∧ shf t (tkT t n) (smB R (tln t n) (s + 1) - (j + 1)) (j + 1) y' = shf t (tkT t n) (smB R (tln t n) (s + 1) - smB R (tln t n) s) (smB R (tln t n) s) i) → (s < c59 (tkT t n) (j + 1) → s < R.length → shf t (tkT t n) (smB R (tln t n) (s + 1) - smB R (tln t n) s) (smB R (tln t n) s) i = -1) → vwp E d M_X11_shown 149 [some (sl 0 28), some (wi x1), some (wi (nI s)), some (wi (nI i)), some (sl g 0), some (wi (nI (c59 (tkT t n) j))), some (wi (nI y')), some (wi (nI j)), some (wi x8), none] [] V (zi K) := fun y' x8 hy' e8 k1 k2 k3 => by
      have st : ∀ (x5 : Int32), x5 = nI (c59 (tkT t n) (j + 1)) → vwp E d M_X11_shown 157 [some (sl 0 28), some (wi x1), some (wi (nI s)), some (wi (nI i)), some (sl g 0), some (wi x5), some (wi (nI y')), some (wi (nI j)), some (wi x8), none] [] V (zi K) := fun x5 e5 => by
        refine w_X11_shown_157 sc.1 (by omega) (c_step sc.2.1 sc.2.2.1 sc.2.2.2.1 b0 (by omega) (fun V1 k1' ta1 => ?_))
        rw [nI_1, e5]
        rw [show min (j + 1) (tln t n) = j + 1 by omega] at ta1
        exact ih (j + 1) y' V1 (by omega) (f0.trans k1') (sc.fc k1') ta1 hy' k1 k2 k3 x1
      refine w_X11_shown_149 sc.1 ⟨fun z => st _ ?_, fun z => ?_⟩
      · rw [e8, bI_0] at z
        rw [c59_s, if_neg (of_decide_eq_false z)]; rfl
      · rw [e8, bI_1] at z
        rw [nI_1]
        exact st _ (by rw [c59_s, if_pos (of_decide_eq_true z)])
    refine w_X11_shown_43 sc.1 (by omega) ⟨fun z => absurd z (by rw [sc.2.2.1]; exact nI_ge hj (by omega)), fun _ => ⟨fun z => ?_, fun z => sc.is (by omega) ta ⟨fun w => ?_, fun w => ?_⟩⟩⟩
    · have lt : s < c59 (tkT t n) j := by
        by_cases u : s < c59 (tkT t n) j
        · exact u
        · exact absurd z (Int32.not_lt.mpr (nI_le (by omega) hs))
      have := hk V f0
      rw [if_pos (by omega), c3 lt (by omega)] at this
      exact this
    · have ne : c59 (tkT t n) j ≠ s := fun e => w (by rw [e])
      have lt : c59 (tkT t n) j < s := by
        by_cases u : s < c59 (tkT t n) j
        · exact absurd (nI_lt u (by omega)) z
        · omega
      have le := c59_s (T := tkT t n) j
      refine nx y _ hy rfl (fun _ => c1 lt) (fun e u => ?_) (fun e _ => ?_)
      · have e9 : (tkT t n j).1 = 59 := by
          by_cases c : (tkT t n j).1 = 59
          · exact c
          · rw [if_neg c] at le; omega
        rw [if_pos e9] at le
        have es : c59 (tkT t n) j + 1 = s := by omega
        rw [es] at l3
        have st := sg.2 (c59 (tkT t n) j) l1
        rw [es] at st
        have jl : j + 1 = smB R (tln t n) s := by
          by_cases c : j < smB R (tln t n) s - 1
          · exact absurd e9 (st.2.2 j l2 c)
          · omega
        have nxt := (sg.2 s u).1
        rw [c1 lt, jl]
        exact ⟨Nat.le_refl _, nxt, rfl⟩
      · split at le <;> omega
    · have es : c59 (tkT t n) j = s := (nI_eq (by omega) hs).mp w
      rw [es] at l1 l2 l3
      obtain ⟨q1, q2, q3⟩ := c2 es l1
      have st := sg.2 s l1
      have i9 : (tkT t n j).1 = 59 ↔ j + 1 = smB R (tln t n) (s + 1) := by
        constructor
        · intro e
          by_cases c : j < smB R (tln t n) (s + 1) - 1
          · exact absurd e (st.2.2 j l2 c)
          · omega
        · intro e
          have := st.2.1
          rw [← e] at this
          exact this
      have em : smB R (tln t n) (s + 1) - j = (smB R (tln t n) (s + 1) - (j + 1)) + 1 := by omega
      rw [em, shf] at q3
      have hk' := hk
      rw [if_pos l1, ← q3] at hk'
      rw [b3, b4, r3, r4, nI_sub fe]
      refine ⟨fun z => ⟨fun v => ?_, fun v => ⟨fun r0 => ?_, fun r0 => ?_⟩⟩, fun z => ?_⟩
      · have le : (tkT t n j).e - (tkT t n j).f ≤ y := by
          by_cases u : (tkT t n j).e - (tkT t n j).f ≤ y
          · exact u
          · exact absurd z (nI_ge (by omega) (by omega))
        have ne : y ≠ (tkT t n j).e - (tkT t n j).f := fun e => v (by rw [e])
        rw [if_neg (by omega), if_neg ne] at q3
        rw [nI_1, nI_sub (by omega), show y - ((tkT t n j).e - (tkT t n j).f + 1) = y - ((tkT t n j).e - (tkT t n j).f) - 1 by omega]
        have le2 := c59_s (T := tkT t n) j
        refine nx _ _ (by omega) rfl (fun u => by split at le2 <;> omega) (fun e _ => ?_) (fun e _ => ?_)
        · have n9 : ¬ (tkT t n j).1 = 59 := fun c => by rw [if_pos c] at le2; omega
          have : ¬ j + 1 = smB R (tln t n) (s + 1) := fun c => n9 (i9.mpr c)
          exact ⟨by omega, by omega, q3⟩
        · have e9 : (tkT t n j).1 = 59 := by
            by_cases c : (tkT t n j).1 = 59
            · exact c
            · rw [if_neg c] at le2; omega
          rw [← i9.mp e9, Nat.sub_self] at q3
          rw [← i9.mp e9] at *
          rw [← q3]; rfl
      · have e : y = (tkT t n j).e - (tkT t n j).f := (nI_eq (by omega) (by omega)).mp v
        rw [bI_0] at r0
        have := hk' V f0
        rw [if_neg (by omega), if_pos e, if_neg (fun c => of_decide_eq_false r0 (i9.mpr (by omega)))] at this
        exact this
      · have e : y = (tkT t n j).e - (tkT t n j).f := (nI_eq (by omega) (by omega)).mp v
        rw [bI_1] at r0
        have := i9.mp (of_decide_eq_true r0)
        have h := hk' V f0
        rw [if_neg (by omega), if_pos e, if_pos (by omega)] at h
        exact h
      · have lt : y < (tkT t n j).e - (tkT t n j).f := by
          by_cases u : (tkT t n j).e - (tkT t n j).f ≤ y
          · exact absurd (nI_le u (by omega)) z
          · omega
        rw [nI_add]
        refine c_at_in sc.2.2.2.2.2.1 (show (tkT t n j).f + y < n by omega) ?_
        have h := hk' V f0
        rw [if_pos lt] at h
        rw [show vI V g (1 + 1) = t from sc.2.2.2.2.2.2, bt_nI]
        exact h
/-- the reference's loop -/
theorem shM_go {s : Nat} {x3 : Int32} {K : Int32 → VH → Prop} (hm : MiQ V q t n R fa h x cs) (hL : tln t n ≤ 20000) (n20 : n ≤ 20000) (e : Nat) (he : e ≤ tln t n) : ∀ (m j y : Nat) (x4 : Int32), j + m = e → y < 2 ^ 31 → K (shf t (tkT t n) m j y) V → vwp E d M_X12_shown 84 [some (sl 6 0), some (wi (nI q)), some (wi (nI s)), some (wi x3), some (wi x4), some (wi (nI e)), some (wi (nI y)), some (wi (nI j)), none, none] [] V (zi K) := by
  have q5 : q < 5 := hm.1.1
  obtain ⟨kp, _⟩ := hm.1.2.2.2.1
  have tx := hm.1.2.1.1
  intro m
  induction m with
  | zero =>
    intro j y x4 ej _ hk
    exact w_X12_shown_84 ⟨fun _ => hk, fun z => absurd (nI_le (by omega) (by omega)) z⟩
  | succ m ih =>
    intro j y x4 ej hy hk
    have hj : j < e := by omega
    obtain ⟨_, _, y3, y4, _⟩ := kp j (by omega) (by omega)
    obtain ⟨_, _, fe, en, _⟩ := tkT_ok t n j
    rw [shf] at hk
    refine w_X12_shown_84 ⟨fun z => absurd z (nI_ge hj (by omega)), fun _ => ?_⟩
    have vp : vp_in (nI (20000 * q + j)) 100000 := vp_in_nI (by omega) (by decide)
    rw [i20k, nI_clamp (show 20000 * q + j < 2 ^ 31 by omega), y3, y4, nI_sub fe]
    refine ⟨vp, vp, fun z => ⟨fun v => w_X12_shown_175 ?_, fun v => ⟨fun w => w_X12_shown_175 ?_, fun w => ?_⟩⟩, fun z => ⟨vp, ?_⟩⟩
    · have le : (tkT t n j).e - (tkT t n j).f ≤ y := by
        by_cases u : (tkT t n j).e - (tkT t n j).f ≤ y
        · exact u
        · exact absurd z (nI_ge (by omega) (by omega))
      rw [nI_sub le] at v ⊢
      have ne : y ≠ (tkT t n j).e - (tkT t n j).f := fun e => v (by rw [e, Nat.sub_self]; rfl)
      rw [if_neg (by omega), if_neg ne] at hk
      rw [nI_dec (by omega), nI_1]
      exact ih (j + 1) _ x4 (by omega) (by omega) hk
    · have le : (tkT t n j).e - (tkT t n j).f ≤ y := by
        by_cases u : (tkT t n j).e - (tkT t n j).f ≤ y
        · exact u
        · exact absurd z (nI_ge (by omega) (by omega))
      rw [nI_sub le] at v ⊢
      have e0 : y - ((tkT t n j).e - (tkT t n j).f) = 0 := (nI_eq (b := 0) (by omega) (by decide)).mp v
      have m0 : m = 0 := by
        rw [nI_1] at w
        by_cases u : e ≤ j + 1
        · omega
        · exact absurd w (nI_ge (by omega) (by omega))
      rw [if_neg (by omega), if_pos (by omega), if_pos m0] at hk
      rw [nI_1]
      refine w_X12_shown_84 ⟨fun _ => hk, fun u => absurd (nI_le (by omega) (by omega)) u⟩
    · have le : (tkT t n j).e - (tkT t n j).f ≤ y := by
        by_cases u : (tkT t n j).e - (tkT t n j).f ≤ y
        · exact u
        · exact absurd z (nI_ge (by omega) (by omega))
      rw [nI_sub le] at v
      have e0 : y - ((tkT t n j).e - (tkT t n j).f) = 0 := (nI_eq (b := 0) (by omega) (by decide)).mp v
      have m0 : m ≠ 0 := fun c => w (by rw [nI_1]; exact nI_le (by omega) (by omega))
      rw [if_neg (by omega), if_pos (by omega), if_neg m0] at hk
      exact hk
    · have lt : y < (tkT t n j).e - (tkT t n j).f := by
        by_cases u : (tkT t n j).e - (tkT t n j).f ≤ y
        · exact absurd (nI_le u (by omega)) z
        · omega
      rw [if_pos lt] at hk
      rw [i20k, nI_add, nI_clamp (show 20000 * q + (tkT t n j).f + y < 2 ^ 31 by omega), bt_nI]
      refine ⟨vp_in_nI (by omega) (by decide), ?_⟩
      rw [show 20000 * q + (tkT t n j).f + y = 20000 * q + ((tkT t n j).f + y) by omega, tx _ (by omega)]
      exact hk
end
section
variable {E : EE} {d x B B' : Nat}
theorem o_shown (h0 : 190 < d) (hB : B ≤ B') : VO_shown E d (JA x B) (JA x B') := fun V a0 a1 a2 hJ => liftI hJ (fun hW hS => by
  rcases hS.inQ a0 with ⟨hP, hM⟩ | ⟨q, t, n, R, nt, fa, h, px, cs, hq, rfl, hI⟩
  · exact nul_shown (J := fun V2 => WF V2 → JS B' V2) (by omega) hW hP hM (fun _ => hS.mono hB)
  · obtain ⟨cap, tk, _⟩ := hS.2.2.1
    have fin : ∀ (r : Int32), r = r ∧ (WF V → JS B' V) := fun r => ⟨rfl, fun _ => hS.mono hB⟩
    have len := hI.1.2.2.2.1.len
    have hL := hI.1.L.2
    have sg := hI.1.sg
    have q5 : q < 5 := by omega
    refine w_X11_shown_0 (by omega) (c_known_y hI hq ⟨fun z => absurd hI.2.1.1.1 z, fun _ => ⟨hI.2.1.1.2, fun z => ?_, fun z => ⟨fun y => c_scan (by omega) hI.2.1.2.1.1 hI.1.1 tk (fun V4 cap' f4 tk4 w5 wc _ _ tr ta => ?_), fun y => ?_⟩⟩⟩)
    · exact w_X12_shown_0 (by omega) (c_isProblem_y hI.mi hq ⟨fun w => absurd w (by decide), fun _ => ⟨fun _ => fin _, fun w => absurd z w⟩⟩)
    · have f4 : Fr V V4 scR := f4
      have et : vI V (q + 1) (1 + 1) = t := funext fun i => hI.2.1.2.1.2 i
      rw [et] at w5 wc tr
      have ec : tcl t n = tln t n := by
        unfold tcl
        rw [if_neg (by rw [hI.1.2.2.1]; decide)]
      rw [ec] at w5 wc
      have hI4 := hI.ft f4 (fun a f y => y.1)
      have sc : Scn V4 (q + 1) t n cap' := ⟨hI4.2.1.1, tk4, w5, wc, tr, hI4.2.1.2.1.1, funext fun i => hI4.2.1.2.1.2 i⟩
      have ex : ∀ a : Int32, ¬ a < 0 → ∃ i, i < 2 ^ 31 ∧ a = nI i := fun a z1 => by
        refine ⟨a.toInt.toNat, ?_, ?_⟩
        · have := a.toInt_lt; omega
        · have p : 0 ≤ a.toInt := by have := mt Int32.lt_iff_toInt_lt.mpr z1; rw [show (0 : Int32).toInt = 0 from by decide] at this; omega
          refine Int32.toInt_inj.mp ?_
          rw [show (nI a.toInt.toNat).toInt = (a.toInt.toNat : Int) from Int32.toInt_ofNat_of_lt (by have := a.toInt_lt; omega)]
          omega
      obtain ⟨s, hs, rfl⟩ := ex a1 z
      obtain ⟨i, hi, rfl⟩ := ex a2 (Int32.not_lt.mpr y)
      have e0 : smB R (tln t n) 0 = 0 := sg.1
      have go := shC_go (E := E) (d := d) (s := s) (i := i) (g := q + 1) (cap := cap') (V0 := V4) (R := R) (K := fun r V1 => vMI E d M_X12_shown [sl 6 0, wi (nI q), wi (nI s), wi (nI i)] V1 (fun r' V2 => r = r' ∧ (WF V2 → JS B' V2))) (by omega) hI.1 hs hi (fun V8 k8 => ?_) (tln t n) 0 i V4 (Nat.zero_add _) Fc.refl sc ta (Nat.le_refl _) (fun _ => rfl) (fun e u => ?_) (fun e => absurd e (Nat.not_lt_zero s)) (nI q)
      · exact go
      · have hm : MiQ V8 q t n R fa h px cs := hI4.mi.fc hI4.1 k8 (fun f j y => absurd y.1 (by decide))
        have f8 : Fr V V8 scR := f4.trans (k8.fr (fun a f j y => ⟨y.1, Or.inl y.2.1⟩))
        have fin8 : WF V8 → JS B' V8 := fun w8 => (hS.ft f8 (tk4.fc k8) w8.n02).mono hB
        obtain ⟨_, m9, m11, m10⟩ := hm.1.2.2.2.1
        refine w_X12_shown_0 (by omega) (c_isProblem_y hm hq ⟨fun w => absurd w (by decide), fun _ => ⟨fun w => absurd w z, fun _ => ?_⟩⟩)
        have vp : vp_in (nI q) 5 := vp_in_nI q5 (by decide)
        rw [nI_clamp (show q < 2 ^ 31 by omega), m11, m9]
        have e64 : (64 : Int32) * nI q + nI s = nI (64 * q + s) := by rw [show (64 : Int32) = nI 64 from rfl, nI_mul, nI_add]
        refine ⟨vp, fun w => ?_, fun w => ⟨fun _ => ?_, fun u => absurd y u⟩⟩
        · have : ¬ s < R.length := fun u => absurd w (nI_ge u (by omega))
          rw [if_neg this]
          exact ⟨rfl, fin8⟩
        · have hsR : s < R.length := by
            by_cases u : s < R.length
            · exact u
            · exact absurd (nI_le (by omega) (by omega)) w
          rw [if_pos hsR, e64, nI_1, nI_clamp (show 64 * q + s < 2 ^ 31 by omega), m10 s hsR]
          have b0 : (R.getD s sr0).i0 = smB R (tln t n) s := by unfold smB; rw [if_pos hsR]
          have st := sg.2 s hsR
          have eL : smB R (tln t n) (s + 1) ≤ tln t n := by
            by_cases u : s + 1 < R.length
            · have : ∀ k, s + 1 + k ≤ R.length → smB R (tln t n) (s + 1) ≤ smB R (tln t n) (s + 1 + k) := by
                intro k
                induction k with
                | zero => intro _; exact Nat.le_refl _
                | succ k ih => intro hk; have := (sg.2 (s + 1 + k) (by omega)).1; have := ih (by omega); exact Nat.le_trans this (Nat.le_of_lt (sg.2 (s + 1 + k) (by omega)).1)
              have := this (R.length - (s + 1)) (by omega)
              rw [show s + 1 + (R.length - (s + 1)) = R.length by omega] at this
              rw [show smB R (tln t n) R.length = tln t n by unfold smB; rw [if_neg (by omega)]] at this
              exact this
            · unfold smB; rw [if_neg u]; exact Nat.le_refl _
          have run : ∀ (m : Nat), m = smB R (tln t n) (s + 1) → vwp E d M_X12_shown 75 [some (sl 6 0), some (wi (nI q)), some (wi (nI s)), some (wi (nI i)), some (wi (nI (R.getD s sr0).i0)), none, none, none, none, none] [wi (nI m)] V8 (zi (fun r' V2 => shf t (tkT t n) (smB R (tln t n) (s + 1) - smB R (tln t n) s) (smB R (tln t n) s) i = r' ∧ (WF V2 → JS B' V2))) := fun m em => by
            refine w_X12_shown_75 ?_
            rw [b0, em]
            exact shM_go hm hL hI.1.1 _ eL _ _ i _ (by have := st.1; omega) hi ⟨rfl, fin8⟩
          refine ⟨vp_in_nI (by omega) (by decide), vp, fun u => ⟨vp, run _ ?_⟩, fun u => ?_⟩
          · have : ¬ s + 1 < R.length := fun c => absurd u (nI_ge c (by omega))
            unfold smB; rw [if_neg this]
          · have c : s + 1 < R.length := by
              by_cases c : s + 1 < R.length
              · exact c
              · exact absurd (nI_le (by omega) (by omega)) u
            rw [show nI (64 * q + s) + 1 = nI (64 * q + (s + 1)) from nI_1 _, nI_clamp (show 64 * q + (s + 1) < 2 ^ 31 by omega), m10 (s + 1) c]
            exact ⟨vp_in_nI (by omega) (by decide), run _ (by unfold smB; rw [if_pos c])⟩
      · have e : 0 = s := e
        subst e
        have := (sg.2 0 u).1
        rw [e0] at this ⊢
        exact ⟨Nat.le_refl _, this, rfl⟩
    · refine w_X12_shown_0 (by omega) (c_isProblem_y hI.mi hq ⟨fun w => absurd w (by decide), fun _ => ⟨fun w => absurd w z, fun _ => ?_⟩⟩)
      have vp : vp_in (nI q) 5 := vp_in_nI q5 (by decide)
      exact ⟨vp, fun _ => fin _, fun _ => ⟨fun w => absurd w y, fun _ => fin _⟩⟩)
end
