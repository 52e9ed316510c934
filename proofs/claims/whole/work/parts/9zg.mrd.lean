/-! the reference reads a whole text -/
theorem tc_cons {a : SR} {R : List SR} {s : Nat} : tcR (a :: R) s = (if a.kd = s then 1 else 0) + tcR R s := by
  unfold tcR ofk
  by_cases c : a.kd = s
  · rw [List.filter_cons_of_pos (by exact decide_eq_true c), if_pos c, List.length_cons]; omega
  · rw [List.filter_cons_of_neg (by exact fun z => c (of_decide_eq_true z)), if_neg c]; omega
theorem len_tc : ∀ {R : List SR}, (∀ r, r ∈ R → r.kd < 4) → R.length = tcR R 0 + tcR R 1 + tcR R 2 + tcR R 3 := by
  intro R
  induction R with
  | nil => intro _; rfl
  | cons a R ih =>
    intro h
    have i := ih (fun r hr => h r (List.mem_cons_of_mem _ hr))
    have ha := h a List.mem_cons_self
    rw [List.length_cons, tc_cons, tc_cons, tc_cons, tc_cons, i]
    have : a.kd = 0 ∨ a.kd = 1 ∨ a.kd = 2 ∨ a.kd = 3 := by omega
    rcases this with z | z | z | z <;> rw [z] <;> simp <;> omega
theorem WR.len {T : Nat → TK} {F L : Nat} {R : List SR} {i : Nat} (h : WR T F L R i) : R.length ≤ 58 := by
  rw [len_tc (fun r hr => (h.2.2.1 r hr).1)]
  have a := h.1 0 (by decide)
  have b := h.1 1 (by decide)
  have c := h.1 2 (by decide)
  have e := h.1 3 (by decide)
  have : moK 0 = 16 := rfl
  have : moK 1 = 12 := rfl
  have : moK 2 = 24 := rfl
  have : moK 3 = 6 := rfl
  omega
/-- where statements begin -/
def StP (V : VH) (p : Nat) (R : List SR) : Prop := vI V 6 11 p = nI R.length ∧ ∀ k, k < R.length → vI V 6 10 (64 * p + k) = nI (R.getD k sr0).i0
section
variable {E : EE} {d : Nat} {V V' : VH} {p : Nat} {t : Nat → Int32} {n : Nat} {i : Nat} {R : List SR} {r : SR} {F : Nat}
/-- what a statement leads to, with its place -/
def MSq (V : VH) (p : Nat) (t : Nat → Int32) (n : Nat) (R : List SR) (X : NR SR) (K : VH → Prop) : Prop := (∀ e, X = .inl e → ∀ V', Fc V V' (mfS p) → Wrg V' e → K V') ∧ ∀ i' r, X = .inr (i', r) → ∀ V', Fc V V' (mtS p) → MZ V' p t n (tcR (R ++ [r])) (nmR (R ++ [r])) i' 0 → Kpt V' p (tkT t n) (MR (R ++ [r])) 0 i' → MDt V' p (R ++ [r]) → StP V' p (R ++ [r]) → K V'
theorem ms_statement {K : VH → Prop} (hF : eFr E) (h0 : 210 < d) (hz : MZ (wrI V 6 0 48 (nI 0)) p t n (tcR R) (nmR R) i 0) (hn : n ≤ 20000) (hX : TxM V p t n) (hK : Kpt V p (tkT t n) (MR R) 0 i) (hD : MDt V p R) (hM : StP V p R) (hw : WR (tkT t n) F (tln t n) R i) (hFl : 8 * tln t n + 7 < F) (hS : MSq V p t n R (stm (tkT t n) R F i) K) : vMV E d M_X12_statement [sl 6 0] V K := by
  obtain ⟨he, hy⟩ := hS
  have hp := hz.1.2.2.1
  have h47 : vI V 6 0 47 = nI p := (wrI_ne (fun z => by omega)).symm.trans hz.1.2.1
  have h58 := hw.len
  refine w_X12_statement_0 (by omega) (fun V1 e1 => ?_)
  have s1 : MZ V1 p t n (tcR R) (nmR R) i 0 := by rw [e1]; exact hz
  have c1 : Fc V V1 (mrS p i) := by rw [e1]; exact Fc_wrI ⟨rfl, Or.inl ⟨rfl, Or.inr rfl⟩⟩
  have p1 := s1.1.2.1
  have n1 : vI V1 6 11 p = nI R.length := by rw [c1.i (fun y => by have := y.2; omega)]; exact hM.1
  have t1 : vI V1 6 9 p = nI i := s1.2.2.2.2.1
  have e64 : (64 : Int32) * nI p + nI R.length = nI (64 * p + R.length) := by rw [show (64 : Int32) = nI 64 from rfl, nI_mul, nI_add]
  rw [p1, nI_clamp (show p < 2 ^ 31 by omega), n1, t1, e64, nI_clamp (show 64 * p + R.length < 2 ^ 31 by omega)]
  refine ⟨vp_in_nI hp (by decide), vp_in_nI hp (by decide), vp_in_nI (by omega) (by decide), fun V5 e5 => ?_⟩
  have c5 : Fc V1 V5 (fun a f j => a = 6 ∧ f = 10 ∧ j = 64 * p + R.length) := by rw [e5]; exact Fc_wrI ⟨rfl, rfl, rfl⟩
  have s5 := s1.gen c5 (fun f j y => by have := y.2; omega) (s1.1.2.2.2.fc c5 (fun f j hf y => by have := y.2; omega))
  have f5 : Fc V V5 (mfS p) := (c1.mono (fun a f j y => mrS_mf y)).trans (c5.mono (fun a f j y => ⟨y.1, by have := y.2; omega⟩))
  have f15 : ∀ f j, f ≠ 0 → f ≠ 10 → (f = 5 ∨ f = 6 ∨ f = 7 ∨ f = 8 → j < 20000 * p + i ∨ 20000 * p + 20000 ≤ j) → f ≠ 9 → vI V5 6 f j = vI V 6 f j := fun f j a b c e => by rw [c5.i (fun y => b y.2.1), c1.i (fun y => by have := y.2; omega)]
  have k5 : Kpt V5 p (tkT t n) (MR R) 0 i := hK.ex (fun f j hf h1 h2 => f15 f _ (by omega) (by omega) (fun _ => Or.inl (by omega)) (by omega))
  have d5 : MDt V5 p R := ⟨hD.1.g (fun f j h1 h2 => f15 f j (by omega) (by omega) (fun y => by omega) (by omega)), by rw [f15 22 p (by omega) (by omega) (fun y => by omega) (by omega)]; exact hD.2.1, by rw [f15 23 p (by omega) (by omega) (fun y => by omega) (by omega)]; exact hD.2.2⟩
  have x5 : TxM V5 p t n := hX.fc f5 (fun j y => by obtain ⟨_, y⟩ := y; omega)
  have m5 : vI V5 6 11 p = nI R.length ∧ ∀ k, k < R.length + 1 → vI V5 6 10 (64 * p + k) = nI (if k < R.length then (R.getD k sr0).i0 else i) := by
    refine ⟨by rw [f15 11 p (by omega) (by omega) (fun y => by omega) (by omega)]; exact hM.1, fun k hk => ?_⟩
    by_cases y : k < R.length
    · rw [if_pos y, e5, wrI_ne (fun w => by omega), c1.i (fun w => by have := w.2; omega)]; exact hM.2 k y
    · rw [if_neg y, e5, show k = R.length by omega, wrI_at]
  -- the statement is counted
  have cnt : ∀ (W : VH), Fc V W (mtS p) → vI W 6 11 p = nI R.length → (∀ W2, Fc V W2 (mtS p) → Fc W W2 (fun a f j => a = 6 ∧ f = 11 ∧ j = p) → vI W2 6 11 p = nI (R.length + 1) → K W2) → vwp E d M_X12_statement 132 [some (sl 6 0)] [] W (zv K) := by
    intro W fW nW hk
    have pW : vI W 6 0 47 = nI p := by rw [fW.i (fun y => by obtain ⟨_, y⟩ := y; omega)]; exact h47
    refine w_X12_statement_132 ?_
    rw [pW, nI_clamp (show p < 2 ^ 31 by omega), nW, nI_1]
    refine ⟨vp_in_nI hp (by decide), vp_in_nI hp (by decide), fun W2 e2 => ?_⟩
    have c2 : Fc W W2 (fun a f j => a = 6 ∧ f = 11 ∧ j = p) := by rw [e2]; exact Fc_wrI ⟨rfl, rfl, rfl⟩
    exact hk W2 (fW.trans (c2.mono (fun a f j y => ⟨y.1, by have := y.2; omega⟩))) c2 (by rw [e2, wrI_at])
  have cntE : ∀ (W : VH) (e : Nat × Nat), stm (tkT t n) R F i = .inl e → Fc V W (mfS p) → Wrg W e → vwp E d M_X12_statement 132 [some (sl 6 0)] [] W (zv K) := by
    intro W e z fW w
    have pW : vI W 6 0 47 = nI p := by rw [fW.i (fun y => by obtain ⟨_, y⟩ := y; omega)]; exact h47
    refine w_X12_statement_132 ?_
    rw [pW, nI_clamp (show p < 2 ^ 31 by omega)]
    refine ⟨vp_in_nI hp (by decide), vp_in_nI hp (by decide), fun W2 e2 => ?_⟩
    have c2 : Fc W W2 (fun a f j => a = 6 ∧ f = 11 ∧ j = p) := by rw [e2]; exact Fc_wrI ⟨rfl, rfl, rfl⟩
    refine he e z W2 (fW.trans (c2.mono (fun a f j y => ⟨y.1, by have := y.2; omega⟩))) ⟨?_, w.2.1, w.2.2.1, ?_⟩
    · rw [c2.i (fun y => by have := y.2; omega)]; exact w.1
    · rw [c2.i (fun y => by have := y.2; omega)]; exact w.2.2.2
  have hT : TL (tkT t n) (tln t n) := ⟨(tln_ok t n).2.1, (tln_ok t n).2.2⟩
  -- behind the word
  have body : ∀ (V6 : VH), MO V5 V6 p t n (tcR R) (nmR R) 0 i (.inr (i + 1)) → Kpt V6 p (tkT t n) (MR R) 0 (i + 1) ∧ MDt V6 p R ∧ TxM V6 p t n ∧ MStH V6 p t n R (stm (tkT t n) R F i) (fun W => vwp E d M_X12_statement 132 [some (sl 6 0)] [] W (zv K)) := by
    intro V6 m6
    have g6 : ∀ f j, 10 ≤ f → vI V6 6 f j = vI V5 6 f j := fun f j hf => m6.1.i (fun y => by have := y.2; omega)
    have f6 := f5.trans m6.mt
    refine ⟨(k5.fc m6.1 (Nat.le_refl _)).app m6.2.2.1, ⟨d5.1.g (fun f j h1 h2 => g6 f j (by omega)), by rw [g6 22 _ (by omega)]; exact d5.2.1, by rw [g6 23 _ (by omega)]; exact d5.2.2⟩, x5.fc m6.mt (fun j y => by obtain ⟨_, y⟩ := y; omega), fun e z W fW w => cntE W e z (f6.trans fW) w, fun i' r z W fW sW kW dW gW => ?_⟩
    obtain ⟨w1, w2, w3, w4, w5⟩ := stm_wr hT hFl hw z
    refine cnt W ((f6.mono (fun a f j y => mfS_mt y)).trans fW) (by rw [gW 11 _ (by omega), g6 11 _ (by omega)]; exact m5.1) (fun W2 fW2 c2 n2 => hy i' r z W2 fW2 ?_ ?_ ?_ ?_)
    · exact sW.gen c2 (fun f j y => by have := y.2; omega) (sW.1.2.2.2.fc c2 (fun f j hf y => by have := y.2; omega))
    · exact kW.ex (fun f j hf _ _ => c2.i (fun y => by have := y.2; omega))
    · exact ⟨dW.1.g (fun f j h1 h2 => c2.i (fun y => by have := y.2; omega)), by rw [c2.i (fun y => by have := y.2; omega)]; exact dW.2.1, by rw [c2.i (fun y => by have := y.2; omega)]; exact dW.2.2⟩
    · refine ⟨by rw [n2, List.length_append]; rfl, fun k hk => ?_⟩
      rw [List.length_append] at hk
      have hk : k < R.length + 1 := hk
      rw [c2.i (fun y => by have := y.2; omega), gW 10 _ (by omega), g6 10 _ (by omega), m5.2 k hk, getD_appl]
      by_cases y : k < R.length
      · rw [if_pos y, if_pos y]
      · rw [if_neg y, if_neg y, show k - R.length = 0 by omega]
        show nI i = nI r.i0
        rw [w5]
  have kw : ∀ (c : Nat), c < 1000 → (vI V5 6 0 41 = nI c ↔ (tkT t n i).1 = c) := fun c hc => s5.is c hc
  have bad : (tkT t n i).1 ≠ 300 → (tkT t n i).1 ≠ 301 → (tkT t n i).1 ≠ 303 → (tkT t n i).1 ≠ 305 → vMV E (d - 1) M_X12_failHere [sl 6 0] V5 (fun W => vwp E d M_X12_statement 132 [some (sl 6 0)] [] W (zv K)) := fun a b c e => ms_failHere (by omega) s5 (fun W m => cntE W _ (by unfold stm; rw [if_neg a, if_neg b, if_neg c, if_neg e]) (f5.trans m.mt) m.wrg)
  refine ⟨fun q => ?_, fun q => ?_, fun q => ?_, fun q => ?_, fun q => ?_, fun q => ?_, fun q0 q1 q2 q3 q4 q5 => ?_⟩
  · have c := (kw 300 (by decide)).mp q
    refine ms_keep hF (by omega) s5 (by omega) (by omega) (nuq_0 (by omega) (by omega)) (fun V6 m6 => ?_)
    obtain ⟨a1, a2, a3, a4⟩ := body V6 m6
    unfold stm at a4
    rw [if_pos c] at a4
    exact ms_fact hF (by omega) m6.2.1 hn a3 a1 a2 hw a4
  · have c := (kw 301 (by decide)).mp q
    refine ms_keep hF (by omega) s5 (by omega) (by omega) (nuq_0 (by omega) (by omega)) (fun V6 m6 => ?_)
    obtain ⟨a1, a2, a3, a4⟩ := body V6 m6
    unfold stm at a4
    rw [if_neg (by omega), if_pos c] at a4
    exact ms_var hF (by omega) m6.2.1 hn a3 a1 a2 hw a4
  · have c := (kw 302 (by decide)).mp q
    exact bad (by omega) (by omega) (by omega) (by omega)
  · have c := (kw 303 (by decide)).mp q
    refine ms_keep hF (by omega) s5 (by omega) (by omega) (nuq_0 (by omega) (by omega)) (fun V6 m6 => ?_)
    obtain ⟨a1, a2, a3, a4⟩ := body V6 m6
    unfold stm at a4
    rw [if_neg (by omega), if_neg (by omega), if_pos c] at a4
    exact ms_rule hF (by omega) m6.2.1 hn a3 a1 a2 hw hFl a4
  · have c := (kw 304 (by decide)).mp q
    exact bad (by omega) (by omega) (by omega) (by omega)
  · have c := (kw 305 (by decide)).mp q
    refine ms_keep hF (by omega) s5 (by omega) (by omega) (nuq_0 (by omega) (by omega)) (fun V6 m6 => ?_)
    obtain ⟨a1, a2, a3, a4⟩ := body V6 m6
    unfold stm at a4
    rw [if_neg (by omega), if_neg (by omega), if_neg (by omega), if_pos c] at a4
    exact ms_aim hF (by omega) m6.2.1 hn a3 a1 a2 hw hFl a4
  · exact bad (fun z => q0 ((kw 300 (by decide)).mpr z)) (fun z => q1 ((kw 301 (by decide)).mpr z)) (fun z => q3 ((kw 303 (by decide)).mpr z)) (fun z => q5 ((kw 305 (by decide)).mpr z))
/-- cells that reading problem p changes -/
def rdM (p : Nat) : Nat → Nat → Nat → Prop := fun a f j => mtS p a f j ∨ rpS p a f j ∨ a = 6 ∧ (f = 17 ∧ 12 * p ≤ j ∧ j < 12 * p + 12 ∨ f = 33 ∧ j = p)
/-- strides are told from the last var on -/
theorem rd_strides {K : Int32 → VH → Prop} {nv : Nat} {sz : Nat → Nat} (hp : p < 5) (hnv : nv ≤ 12) (hs : ∀ v, v < nv → 1 ≤ sz v ∧ sz v ≤ 20) (hT : Tp sz nv 0 ≤ 20000) : ∀ (k : Nat) (W : VH), k ≤ nv → (∀ v, v < nv → vI W 6 16 (12 * p + v) = nI (sz v)) → (∀ v, k ≤ v → v < nv → vI W 6 17 (12 * p + v) = nI (Tp sz nv (v + 1))) → (∀ W', Fc W W' (fun a f j => a = 6 ∧ (f = 17 ∧ 12 * p ≤ j ∧ j < 12 * p + 12 ∨ f = 33 ∧ j = p)) → (∀ v, v < nv → vI W' 6 17 (12 * p + v) = nI (Tp sz nv (v + 1))) → vI W' 6 33 p = vI W 6 33 p + 1 → (¬ vI W' 6 0 45 = 0 → K 0 W') ∧ (vI W' 6 0 45 = 0 → K 1 W')) → vwp E d M_X12_readProblem 194 [some (sl 6 0), some (wi (nI p)), some (wi (nI (Tp sz nv k))), some (wi (nI k - 1))] [] W (zi K) := by
  intro k
  induction k with
  | zero =>
    intro W hk w16 w17 hK
    refine w_X12_readProblem_194 ⟨fun _ => ?_, fun q => absurd (by decide) q⟩
    rw [nI_clamp (show p < 2 ^ 31 by omega)]
    refine ⟨vp_in_nI hp (by decide), vp_in_nI hp (by decide), fun V3 e3 => hK V3 ?_ (fun v hv => ?_) (by rw [e3, wrI_at])⟩
    · rw [e3]; exact Fc_wrI ⟨rfl, Or.inr ⟨rfl, rfl⟩⟩
    · rw [e3, wrI_ne (fun y => by omega)]; exact w17 v (Nat.zero_le _) hv
  | succ k ih =>
    intro W hk w16 w17 hK
    have ek : nI (k + 1) - 1 = nI k := by rw [show (1 : Int32) = nI 1 from rfl, nI_sub (by omega)]; rfl
    have e12 : (12 : Int32) * nI p + nI k = nI (12 * p + k) := by rw [show (12 : Int32) = nI 12 from rfl, nI_mul, nI_add]
    rw [ek]
    refine w_X12_readProblem_194 ⟨fun q => absurd q (nI_pos (by omega)), fun _ => ?_⟩
    rw [e12, nI_clamp (show 12 * p + k < 2 ^ 31 by omega)]
    refine ⟨vp_in_nI (by omega) (by decide), fun V5 e5 => ⟨vp_in_nI (by omega) (by decide), ?_⟩⟩
    have s5 : vI V5 6 16 (12 * p + k) = nI (sz k) := by rw [e5, wrI_ne (fun y => by omega)]; exact w16 k (by omega)
    rw [s5, nI_mul, show Tp sz nv (k + 1) * sz k = Tp sz nv k by rw [Tp_lt (show k < nv by omega), Nat.mul_comm], show nI k + (-1 : Int32) = nI k - 1 by rw [Int32.sub_eq_add_neg]]
    have c5 : Fc W V5 (fun a f j => a = 6 ∧ (f = 17 ∧ 12 * p ≤ j ∧ j < 12 * p + 12 ∨ f = 33 ∧ j = p)) := by rw [e5]; exact Fc_wrI ⟨rfl, Or.inl ⟨rfl, by omega, by omega⟩⟩
    refine ih V5 (by omega) (fun v hv => by rw [e5, wrI_ne (fun y => by omega)]; exact w16 v hv) (fun v h1 h2 => ?_) (fun W' fW' h17 h33 => hK W' (c5.trans fW') h17 ?_)
    · by_cases y : v = k
      · subst y; rw [e5, wrI_at]
      · rw [e5, wrI_ne (fun z => by omega)]; exact w17 v (by omega) h2
    · rw [h33, e5, wrI_ne (fun y => by omega)]
end
