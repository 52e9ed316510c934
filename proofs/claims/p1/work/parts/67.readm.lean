/-! the reference begins to read -/
section
variable {E : EE} {d : Nat} {V : VH} {p : Nat}
def rpS (p : Nat) : Nat → Nat → Nat → Prop := fun a f i => a = 6 ∧ (f = 0 ∧ (i = 47 ∨ i = 37 ∨ i = 38 ∨ i = 39 ∨ i = 40 ∨ i = 45) ∨ (f = 9 ∨ f = 11 ∨ f = 22 ∨ f = 23 ∨ f = 29) ∧ i = p ∨ f = 14 ∧ 4 * p ≤ i ∧ i < 4 * p + 4)
/-- the reference, before the first token of problem p's text is come to -/
def Rm0 (V : VH) (p : Nat) (n : Int32) : Prop := vI V 6 0 47 = nI p ∧ vI V 6 0 37 = 0 ∧ vI V 6 0 38 = nI (20000 * p) ∧ vI V 6 0 39 = n ∧ vI V 6 0 40 = 0 ∧ vI V 6 0 45 = 0 ∧ vI V 6 9 p = 0 ∧ vI V 6 11 p = 0 ∧ (∀ j, j < 4 → vI V 6 14 (4 * p + j) = 0) ∧ vI V 6 22 p = 1 ∧ vI V 6 23 p = 0 ∧ vI V 6 29 p = 0
theorem c_rp_loop {n : Int32} {K : Int32 → VH → Prop} (h0 : 0 < d) (hp : p < 5) : ∀ (k i : Nat) (V : VH), i + k = 4 → vI V 6 0 47 = nI p → vI V 6 0 37 = 0 → vI V 6 0 38 = nI (20000 * p) → vI V 6 0 39 = n → vI V 6 0 40 = 0 → vI V 6 0 45 = 0 → vI V 6 9 p = 0 → vI V 6 11 p = 0 → (∀ j, j < i → vI V 6 14 (4 * p + j) = 0) →
    (∀ V', Fc V V' (rpS p) → Rm0 V' p n → vMV E (d - 1) M_X12_next [sl 6 0] V' (fun V7 => vMV E (d - 1) M_X12_statement [sl 6 0] V7 (fun V9 => vwp E d M_X12_readProblem 106 [some (sl 6 0), some (wi (nI p)), some (wi (nI 4)), none] [] V9 (zi K)))) →
    vwp E d M_X12_readProblem 55 [some (sl 6 0), some (wi (nI p)), some (wi (nI i)), none] [] V (zi K) := by
  intro k
  induction k with
  | zero =>
    intro i V e a1 a2 a3 a4 a5 a6 a7 a8 a9 hk
    have : i = 4 := by omega
    subst this
    refine w_X12_readProblem_55 h0 ⟨fun _ => ?_, fun q => absurd (by decide) q⟩
    rw [nI_clamp (show p < 2 ^ 31 by omega)]
    refine ⟨vp_in_nI hp (by decide), fun V2 e2 => ⟨vp_in_nI hp (by decide), fun V4 e4 => ⟨vp_in_nI hp (by decide), fun V6 e6 => ?_⟩⟩⟩
    have f6 : Fc V V6 (fun a f i => a = 6 ∧ (f = 22 ∨ f = 23 ∨ f = 29) ∧ i = p) := by
      rw [e6, e4, e2]; exact ((Fc_wrI ⟨rfl, by omega, rfl⟩).trans (Fc_wrI ⟨rfl, by omega, rfl⟩)).trans (Fc_wrI ⟨rfl, by omega, rfl⟩)
    have r : ∀ f i, f ≠ 22 → f ≠ 23 → f ≠ 29 → vI V6 6 f i = vI V 6 f i := fun f i h1 h2 h3 => f6.i (fun z => by omega)
    refine hk V6 (f6.mono (fun a f i z => ⟨z.1, by omega⟩)) ⟨?_, ?_, ?_, ?_, ?_, ?_, ?_, ?_, fun j hj => ?_, ?_, ?_, ?_⟩
    · rw [r 0 47 (by omega) (by omega) (by omega)]; exact a1
    · rw [r 0 37 (by omega) (by omega) (by omega)]; exact a2
    · rw [r 0 38 (by omega) (by omega) (by omega)]; exact a3
    · rw [r 0 39 (by omega) (by omega) (by omega)]; exact a4
    · rw [r 0 40 (by omega) (by omega) (by omega)]; exact a5
    · rw [r 0 45 (by omega) (by omega) (by omega)]; exact a6
    · rw [r 9 p (by omega) (by omega) (by omega)]; exact a7
    · rw [r 11 p (by omega) (by omega) (by omega)]; exact a8
    · rw [r 14 _ (by omega) (by omega) (by omega)]; exact a9 j hj
    · rw [e6, wrI_ne (fun z => by omega), e4, wrI_ne (fun z => by omega), e2]; exact wrI_at
    · rw [e6, wrI_ne (fun z => by omega), e4]; exact wrI_at
    · rw [e6]; exact wrI_at
  | succ k ih =>
    intro i V e a1 a2 a3 a4 a5 a6 a7 a8 a9 hk
    have em : (4 : Int32) * nI p + nI i = nI (4 * p + i) := by rw [show (4 : Int32) = nI 4 from rfl, nI_mul, nI_add]
    refine w_X12_readProblem_55 h0 ⟨fun q => absurd q (nI_ge (b := 4) (by omega) (by decide)), fun _ => ?_⟩
    rw [em, nI_clamp (show 4 * p + i < 2 ^ 31 by omega), nI_1]
    refine ⟨vp_in_nI (by omega) (by decide), fun V2 e2 => ?_⟩
    have f2 : Fc V V2 (fun a f i' => a = 6 ∧ f = 14 ∧ i' = 4 * p + i) := by rw [e2]; exact Fc_wrI ⟨rfl, rfl, rfl⟩
    have r : ∀ f i', f ≠ 14 → vI V2 6 f i' = vI V 6 f i' := fun f i' h1 => f2.i (fun z => by omega)
    refine ih (i + 1) V2 (by omega) ?_ ?_ ?_ ?_ ?_ ?_ ?_ ?_ (fun j hj => ?_) (fun V' f' q' => hk V' ((f2.mono (fun a f i z => ⟨z.1, by omega⟩)).trans f') q')
    · rw [r 0 47 (by omega)]; exact a1
    · rw [r 0 37 (by omega)]; exact a2
    · rw [r 0 38 (by omega)]; exact a3
    · rw [r 0 39 (by omega)]; exact a4
    · rw [r 0 40 (by omega)]; exact a5
    · rw [r 0 45 (by omega)]; exact a6
    · rw [r 9 p (by omega)]; exact a7
    · rw [r 11 p (by omega)]; exact a8
    · by_cases c : j = i
      · subst c; rw [e2]; exact wrI_at
      · rw [e2, wrI_ne (fun z => by omega)]; exact a9 j (by omega)
theorem c_rp_start {K : Int32 → VH → Prop} (h0 : 0 < d) (hp : p < 5)
    (hk : ∀ V', Fc V V' (rpS p) → Rm0 V' p (vI V 6 4 p) → vMV E (d - 1) M_X12_next [sl 6 0] V' (fun V7 => vMV E (d - 1) M_X12_statement [sl 6 0] V7 (fun V9 => vwp E d M_X12_readProblem 106 [some (sl 6 0), some (wi (nI p)), some (wi (nI 4)), none] [] V9 (zi K)))) : vMI E d M_X12_readProblem [sl 6 0, wi (nI p)] V K := by
  have ep : Int32.toNatClampNeg (nI p) = p := nI_clamp (by omega)
  have vp : vp_in (nI p) 5 := vp_in_nI hp (by decide)
  have eb : (20000 : Int32) * nI p = nI (20000 * p) := nI_mul 20000 p
  refine w_X12_readProblem_0 (fun V1 e1 V2 e2 V3 e3 => ⟨vp, fun V5 e5 V6 e6 V7 e7 => ⟨vp, fun V9 e9 => ⟨vp, fun V11 e11 => ?_⟩⟩⟩)
  rw [ep] at e5 e9 e11
  rw [eb] at e3
  have r3 : vI V3 6 4 p = vI V 6 4 p := by rw [e3, wrI_ne (fun z => by omega), e2, wrI_ne (fun z => by omega), e1, wrI_ne (fun z => by omega)]
  rw [r3] at e5
  have f : Fc V V11 (rpS p) := by
    rw [e11, e9, e7, e6, e5, e3, e2, e1]
    exact (((((((Fc_wrI ⟨rfl, by omega⟩).trans (Fc_wrI ⟨rfl, by omega⟩)).trans (Fc_wrI ⟨rfl, by omega⟩)).trans (Fc_wrI ⟨rfl, by omega⟩)).trans (Fc_wrI ⟨rfl, by omega⟩)).trans (Fc_wrI ⟨rfl, by omega⟩)).trans (Fc_wrI ⟨rfl, by omega⟩)).trans (Fc_wrI ⟨rfl, by omega⟩)
  have r11 : ∀ i, vI V11 6 0 i = vI V7 6 0 i := fun i => by rw [e11, wrI_ne (fun z => by omega), e9, wrI_ne (fun z => by omega)]
  refine c_rp_loop h0 hp 4 0 V11 rfl ?_ ?_ ?_ ?_ ?_ ?_ ?_ ?_ (fun j hj => absurd hj (Nat.not_lt_zero j)) (fun V' f' q' => hk V' (f.trans f') q')
  · rw [r11, e7, wrI_ne (fun z => by omega), e6, wrI_ne (fun z => by omega), e5, wrI_ne (fun z => by omega), e3, wrI_ne (fun z => by omega), e2, wrI_ne (fun z => by omega), e1]; exact wrI_at
  · rw [r11, e7, wrI_ne (fun z => by omega), e6, wrI_ne (fun z => by omega), e5, wrI_ne (fun z => by omega), e3, wrI_ne (fun z => by omega), e2]; exact wrI_at
  · rw [r11, e7, wrI_ne (fun z => by omega), e6, wrI_ne (fun z => by omega), e5, wrI_ne (fun z => by omega), e3]; exact wrI_at
  · rw [r11, e7, wrI_ne (fun z => by omega), e6, wrI_ne (fun z => by omega), e5]; exact wrI_at
  · rw [r11, e7, wrI_ne (fun z => by omega), e6]; exact wrI_at
  · rw [r11, e7]; exact wrI_at
  · rw [e11, wrI_ne (fun z => by omega), e9]; exact wrI_at
  · rw [e11]; exact wrI_at
/-- a text of no byte is no problem: fault 2 at place 0 -/
theorem c_readProblem_empty {K : Int32 → VH → Prop} (h0 : 3 < d) (hp : p < 5) (hl : vI V 6 4 p = 0) (hk : ∀ V', Fc V V' (fun a _ _ => a = 6) → vI V' 6 0 45 = 2 → vI V' 6 0 46 = 0 → K 0 V') : vMI E d M_X12_readProblem [sl 6 0, wi (nI p)] V K := by
  have ep : Int32.toNatClampNeg (nI p) = p := nI_clamp (by omega)
  have vp : vp_in (nI p) 5 := vp_in_nI hp (by decide)
  refine c_rp_start (by omega) hp (fun V1 f1 q1 => ?_)
  obtain ⟨a47, a37, a38, a39, a40, a45, a9, a11, a14, a22, a23, a29⟩ := q1
  refine c_next_end (by omega) (by rw [a39, a40, hl]; decide) (fun V2 f2 t2 p2 => ?_)
  have b47 : vI V2 6 0 47 = nI p := by rw [f2.i (fun z => by omega)]; exact a47
  have b45 : vI V2 6 0 45 = 0 := by rw [f2.i (fun z => by omega)]; exact a45
  have b11 : vI V2 6 11 p = 0 := by rw [f2.i (fun z => by omega)]; exact a11
  have b14 : ∀ j, j < 4 → vI V2 6 14 (4 * p + j) = 0 := fun j hj => by rw [f2.i (fun z => by omega)]; exact a14 j hj
  refine w_X12_statement_0 (by omega) (fun V3 e3 => ?_)
  have c47 : vI V3 6 0 47 = nI p := by rw [e3, wrI_ne (fun z => by omega)]; exact b47
  have c11 : vI V3 6 11 p = nI 0 := by rw [e3, wrI_ne (fun z => by omega)]; exact b11
  have es : (64 : Int32) * nI p + nI 0 = nI (64 * p) := by rw [show (64 : Int32) = nI 64 from rfl, nI_mul, nI_add]; rfl
  rw [c47, ep, c11, es]
  refine ⟨vp, vp, vp_in_nI (by omega) (by decide), fun V5 e5 => ?_⟩
  have f5 : Fc V2 V5 (fun a f i => a = 6 ∧ (f = 0 ∧ i = 48 ∨ f = 10)) := by rw [e5, e3]; exact (Fc_wrI ⟨rfl, by omega⟩).trans (Fc_wrI ⟨rfl, by omega⟩)
  have t5 : vI V5 6 0 41 = 0 := by rw [f5.i (fun z => by omega)]; exact t2
  rw [t5]
  refine ⟨fun q => absurd q (by decide), fun q => absurd q (by decide), fun q => absurd q (by decide), fun q => absurd q (by decide), fun q => absurd q (by decide), fun q => absurd q (by decide), fun _ _ _ _ _ _ => ?_⟩
  refine c_failHere (by omega) (by rw [f5.i (fun z => by omega)]; exact b45) (fun V6 f6 w6 p6 => ?_)
  rw [t5, if_neg (by decide)] at w6
  have d43 : vI V5 6 0 43 = 0 := by rw [f5.i (fun z => by omega), p2, a40]
  rw [d43] at p6
  refine w_X12_statement_132 ?_
  have d47 : vI V6 6 0 47 = nI p := by rw [f6.i (fun z => by omega), f5.i (fun z => by omega)]; exact b47
  rw [d47, ep]
  refine ⟨vp, vp, fun V7 e7 => ?_⟩
  have w7 : vI V7 6 0 45 = 2 := by rw [e7, wrI_ne (fun z => by omega)]; exact w6
  have p7 : vI V7 6 0 46 = 0 := by rw [e7, wrI_ne (fun z => by omega)]; exact p6
  have n7 : ¬ vI V7 6 0 45 = 0 := by rw [w7]; decide
  refine w_X12_readProblem_106 (by omega) ⟨fun _ => w_X12_readProblem_127 ⟨fun _ => w_X12_readProblem_179 ?_, fun q => absurd q n7⟩, fun q => absurd q n7⟩
  have e4 : (4 : Int32) * nI p + 1 = nI (4 * p + 1) := by rw [show (4 : Int32) = nI 4 from rfl, nI_mul, nI_1]
  have t7 : vI V7 6 14 (4 * p + 1) = 0 := by rw [e7, wrI_ne (fun z => by omega), f6.i (fun z => by omega), f5.i (fun z => by omega)]; exact b14 1 (by omega)
  rw [e4, nI_clamp (show 4 * p + 1 < 2 ^ 31 by omega), t7]
  refine ⟨vp_in_nI (by omega) (by decide), w_X12_readProblem_194 ⟨fun _ => ⟨vp, vp, fun V8 e8 => ?_⟩, fun q => absurd (by decide) q⟩⟩
  rw [ep] at e8
  have w8 : vI V8 6 0 45 = 2 := by rw [e8, wrI_ne (fun z => by omega)]; exact w7
  have p8 : vI V8 6 0 46 = 0 := by rw [e8, wrI_ne (fun z => by omega)]; exact p7
  refine ⟨fun _ => hk V8 ?_ w8 p8, fun q => absurd q (by rw [w8]; decide)⟩
  have g1 : Fc V V1 (fun a _ _ => a = 6) := f1.mono (fun a f i z => z.1)
  have g2 : Fc V1 V2 (fun a _ _ => a = 6) := f2.mono (fun a f i z => z.1)
  have g5 : Fc V2 V5 (fun a _ _ => a = 6) := f5.mono (fun a f i z => z.1)
  have g6 : Fc V5 V6 (fun a _ _ => a = 6) := f6.mono (fun a f i z => z.1)
  have g8 : Fc V6 V8 (fun a _ _ => a = 6) := by rw [e8, e7]; exact (Fc_wrI rfl).trans (Fc_wrI rfl)
  exact (((g1.trans g2).trans g5).trans g6).trans g8
end
