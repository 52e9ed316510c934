/-! the next token, reference -/
section
variable {E : EE} {d : Nat} {V : VH} {t : Nat → Int32} {n : Nat}
theorem nx_src {W : VH} (h : SrcM V t n) (w : Fc V W nxS) : SrcM W t n := h.fc w (fun f i z y => by have := y.2; omega)
/-- the end of it: the token's code is known -/
theorem m_410 {T : TK} {x1 : Int32} {W : VH} {K : VH → Prop} (w : Fc V W nxS) (h41 : vI W 6 0 41 = nI T.1) (h43 : vI W 6 0 43 = nI T.f) (h44 : vI W 6 0 44 = nI T.e) (h42 : T.1 = 2 → vI W 6 0 42 = nI T.2.2.1) (hk : ∀ V', Fc V V' nxS → RT V' T → K V') : vwp E d M_X12_next 410 [some (sl 6 0), some (wi x1), none] [] W (zv K) := by
  refine w_X12_next_410 (fun V1 e1 => hk V1 (w.trans (by rw [e1]; exact Fc_wrI ⟨rfl, rfl, by decide, by decide⟩)) ⟨?_, ?_, ?_, ?_, fun z => ?_⟩)
  · rw [e1, wrI_at]; exact h44
  · rw [e1, wrI_ne (fun z => by omega)]; exact h41
  · rw [e1, wrI_ne (fun z => by omega)]; exact h43
  · rw [e1, wrI_ne (fun z => by omega)]; exact h44
  · rw [e1, wrI_ne (fun z => by omega)]; exact h42 z
theorem m_name {p : Nat} {x1 : Int32} {K : VH → Prop} (hF : eFr E) (h0 : 6 < d) (h : SrcM V t n) (hp : p < n) (hk : ∀ V', Fc V V' nxS → RT V' (tkName t n p) → K V') : ∀ (m j : Nat) (W : VH), p ≤ j → j + m = n → Fc V W nxS → vI W 6 0 43 = nI p → vI W 6 0 44 = nI j → rnw isA t m j = rnw isA t (n - p) p → vwp E d M_X12_next 53 [some (sl 6 0), some (wi x1), none] [] W (zv K) := by
  have hn := h.2.1
  obtain ⟨r1, r2, r3⟩ := rnw_in isA t (n - p) p
  have fin : ∀ (W : VH) (e : Nat), Fc V W nxS → vI W 6 0 43 = nI p → vI W 6 0 44 = nI e → e = rnw isA t (n - p) p → vwp E d M_X12_next 105 [some (sl 6 0), some (wi x1), none] [] W (zv K) := fun W e w w43 w44 ee => by
    have s := nx_src h w
    have es : vI W 6 0 44 - vI W 6 0 43 = nI (e - p) := by rw [w43, w44]; exact nI_sub (by omega)
    have tok : ∀ c : Nat, (tkName t n p).1 = c → vwp E d M_X12_next 128 [some (sl 6 0), some (wi x1), none] [wi (nI c), sl 6 0] W (zv K) := fun c ec => by
      refine w_X12_next_128 (fun V1 e1 => ?_)
      have q : (tkName t n p).f = p ∧ (tkName t n p).e = rnw isA t (n - p) p ∧ ((tkName t n p).1 = 2 → False) := by
        unfold tkName
        split
        · exact ⟨rfl, rfl, fun z => absurd z (nat_ne rfl)⟩
        · split
          · exact ⟨rfl, rfl, fun z => by have z : 300 + _ = 2 := z; omega⟩
          · exact ⟨rfl, rfl, fun z => absurd z (nat_ne rfl)⟩
      refine m_410 (T := tkName t n p) (w.trans (by rw [e1]; exact Fc_wrI ⟨rfl, rfl, by decide, by decide⟩)) (by rw [e1, wrI_at, ec]) (by rw [e1, wrI_ne (fun z => by omega), q.1]; exact w43) (by rw [e1, wrI_ne (fun z => by omega), q.2.1, ← ee]; exact w44) (fun z => absurd z q.2.2) hk
    refine w_X12_next_105 (by omega) ⟨fun q => ?_, fun q => ?_⟩
    · rw [es] at q
      have q8 := (nI_leI (b := 8) (by omega) (by decide)).mp q
      refine c_wordOf hF (by omega) s w43 w44 (by omega) (by omega) q8 (fun j a b => r3 j a (by omega)) (tok _ ?_)
      unfold tkName wrd
      rw [← ee, if_neg (by omega)]
      cases fsb (fun w => decide (wordsF w = nL (pkb (bf t p) (e - p)))) 17 <;> rfl
    · rw [es] at q
      have q8 : ¬ e - p ≤ 8 := fun z => q (nI_le (b := 8) z (by decide))
      refine tok 3 ?_
      unfold tkName
      rw [← ee, if_pos (by omega)]
  intro m
  induction m with
  | zero =>
    intro j W hj ej w w43 w44 er
    have s := nx_src h w
    rw [rnw] at er
    exact w_X12_next_53 (by omega) ⟨fun _ => fin W j w w43 w44 er, fun q => absurd (by rw [s.1, w44]; exact nI_le (by omega) (by omega)) q⟩
  | succ m ih =>
    intro j W hj ej w w43 w44 er
    have s := nx_src h w
    have hb := bt_lt t j
    rw [rnw] at er
    have more : isA (bt t j) = true → vwp E d M_X12_next 92 [some (sl 6 0), some (wi x1), none] [] W (zv K) := fun ha => by
      rw [if_pos ha] at er
      refine w_X12_next_92 (fun V1 e1 => ih (j + 1) V1 (by omega) (by omega) (w.trans (by rw [e1]; exact Fc_wrI ⟨rfl, rfl, by decide, by decide⟩)) ?_ ?_ er)
      · rw [e1, wrI_ne (fun z => by omega)]; exact w43
      · rw [e1, wrI_at, w44, nI_1]
    refine w_X12_next_53 (by omega) ⟨fun q => absurd q (by rw [s.1, w44]; exact nI_ge (by omega) (by omega)), fun _ => ?_⟩
    rw [w44]
    refine c_lookM s (by omega) (c_isLetterM hb ?_)
    cases ql : isL (bt t j) with
    | true => exact ⟨fun _ => more (by unfold isA; rw [ql]; rfl), fun z => absurd z (by decide)⟩
    | false =>
      refine ⟨fun z => absurd rfl z, fun _ => ?_⟩
      rw [w44]
      refine c_lookM s (by omega) (c_isFigureM hb ?_)
      cases qf : isF (bt t j) with
      | true => exact ⟨fun z => absurd z (by decide), fun _ => more (by unfold isA; rw [qf, Bool.or_true])⟩
      | false =>
        refine ⟨fun _ => fin W j w w43 w44 ?_, fun z => absurd rfl z⟩
        rw [if_neg (by unfold isA; rw [ql, qf]; decide)] at er
        exact er
theorem dcn_stepI {a b : Nat} (h48 : 48 ≤ b) : ((10 * nI a) + nI b) - 48 = nI (a * 10 + (b - 48)) := by
  rw [show (10 : Int32) = nI 10 from rfl, nI_mul, nI_add, show (48 : Int32) = nI 48 from rfl, nI_sub (by omega)]
  congr 1; omega
theorem m_num {p : Nat} {x1 : Int32} {K : VH → Prop} (h0 : 6 < d) (h : SrcM V t n) (hp : p < n) (hk : ∀ V', Fc V V' nxS → RT V' (tkNum t n p) → K V') : ∀ (m j : Nat) (W : VH), p ≤ j → j + m = n → Fc V W nxS → vI W 6 0 43 = nI p → vI W 6 0 44 = nI j → (j - p ≤ 4 → vI W 6 0 42 = nI (dcn (bf t p) (j - p))) → rnw isF t m j = rnw isF t (n - p) p → vwp E d M_X12_next 146 [some (sl 6 0), some (wi x1), none] [] W (zv K) := by
  have hn := h.2.1
  obtain ⟨r1, r2, r3⟩ := rnw_in isF t (n - p) p
  have fin : ∀ (W : VH) (e : Nat), Fc V W nxS → vI W 6 0 43 = nI p → vI W 6 0 44 = nI e → (e - p ≤ 4 → vI W 6 0 42 = nI (dcn (bf t p) (e - p))) → e = rnw isF t (n - p) p → vwp E d M_X12_next 227 [some (sl 6 0), some (wi x1), none] [] W (zv K) := fun W e w w43 w44 w42 ee => by
    have es : vI W 6 0 44 - vI W 6 0 43 = nI (e - p) := by rw [w43, w44]; exact nI_sub (by omega)
    unfold tkNum at hk
    rw [← ee] at hk
    refine w_X12_next_227 ⟨fun q => ?_, fun q => ?_⟩
    · rw [es] at q
      have q4 := (nI_leI (b := 4) (by omega) (by decide)).mp q
      rw [if_neg (by omega)] at hk
      refine w_X12_next_246 (fun V1 e1 => m_410 (w.trans (by rw [e1]; exact Fc_wrI ⟨rfl, rfl, by decide, by decide⟩)) ?_ ?_ ?_ (fun _ => ?_) hk)
      · rw [e1, wrI_at]; rfl
      · rw [e1, wrI_ne (fun z => by omega)]; exact w43
      · rw [e1, wrI_ne (fun z => by omega)]; exact w44
      · rw [e1, wrI_ne (fun z => by omega)]; exact w42 q4
    · rw [es] at q
      have q4 : ¬ e - p ≤ 4 := fun z => q (nI_le (b := 4) z (by decide))
      rw [if_pos (by omega)] at hk
      refine w_X12_next_246 (fun V1 e1 => m_410 (w.trans (by rw [e1]; exact Fc_wrI ⟨rfl, rfl, by decide, by decide⟩)) ?_ ?_ ?_ (fun z => absurd z (nat_ne rfl)) hk)
      · rw [e1, wrI_at]; rfl
      · rw [e1, wrI_ne (fun z => by omega)]; exact w43
      · rw [e1, wrI_ne (fun z => by omega)]; exact w44
  intro m
  induction m with
  | zero =>
    intro j W hj ej w w43 w44 w42 er
    have s := nx_src h w
    rw [rnw] at er
    exact w_X12_next_146 (by omega) ⟨fun _ => fin W j w w43 w44 w42 er, fun q => absurd (by rw [s.1, w44]; exact nI_le (by omega) (by omega)) q⟩
  | succ m ih =>
    intro j W hj ej w w43 w44 w42 er
    have s := nx_src h w
    have hb := bt_lt t j
    have es : vI W 6 0 44 - vI W 6 0 43 = nI (j - p) := by rw [w43, w44]; exact nI_sub (by omega)
    rw [rnw] at er
    refine w_X12_next_146 (by omega) ⟨fun q => absurd q (by rw [s.1, w44]; exact nI_ge (by omega) (by omega)), fun _ => ?_⟩
    rw [w44]
    refine c_lookM s (by omega) (c_isFigureM hb ?_)
    cases qf : isF (bt t j) with
    | false =>
      refine ⟨fun _ => fin W j w w43 w44 w42 ?_, fun z => absurd rfl z⟩
      rw [if_neg (by rw [qf]; decide)] at er
      exact er
    | true =>
      rw [if_pos qf] at er
      have h48 := (of_decide_eq_true qf).1
      have more : ∀ x : Int32, (j + 1 - p ≤ 4 → x = nI (dcn (bf t p) (j + 1 - p))) → vwp E d M_X12_next 211 [some (sl 6 0), some (wi x1), none] [wi x, sl 6 0] W (zv K) := fun x hx => by
        refine w_X12_next_211 (fun V1 e1 V2 e2 => ih (j + 1) V2 (by omega) (by omega) (w.trans (by rw [e2, e1]; exact (Fc_wrI ⟨rfl, rfl, by decide, by decide⟩).trans (Fc_wrI ⟨rfl, rfl, by decide, by decide⟩))) ?_ ?_ (fun q => ?_) er)
        · rw [e2, wrI_ne (fun z => by omega), e1, wrI_ne (fun z => by omega)]; exact w43
        · rw [e2, wrI_at, e1, wrI_ne (fun z => by omega), w44, nI_1]
        · rw [e2, wrI_ne (fun z => by omega), e1, wrI_at]; exact hx q
      refine ⟨fun z => absurd z (by decide), fun _ => ?_⟩
      rw [es, w44]
      refine ⟨fun q => more _ (fun q2 => ?_), fun q => c_lookM s (by omega) (more _ (fun q2 => ?_))⟩
      · have := (nI_leI (a := 4) (by decide) (by omega)).mp q
        omega
      · rw [w42 (by omega), dcn_stepI h48, show j + 1 - p = (j - p) + 1 from by omega, dcn]
        show _ = nI (dcn (bf t p) (j - p) * 10 + (bt t (p + (j - p)) - 48))
        rw [show p + (j - p) = j from by omega]
theorem m_sign {p s2 : Nat} {K : VH → Prop} (h0 : 6 < d) (h : SrcM V t n) (hp : p < n) (hs : s2 = (if p + 1 < n then bt t (p + 1) else 0)) (hk : ∀ V', Fc V V' nxS → RT V' (tkSign t n p) → K V') {W : VH} (w : Fc V W nxS) (w43 : vI W 6 0 43 = nI p) (w44 : vI W 6 0 44 = nI p) : vwp E d M_X12_next 279 [some (sl 6 0), some (wi (nI (bt t p))), none] [wi (nI s2)] W (zv K) := by
  have hn := h.2.1
  have hb := bt_lt t p
  have hs2 : s2 < 256 := by
    rw [hs]; split
    · exact bt_lt _ _
    · decide
  unfold tkSign at hk
  rw [← hs] at hk
  have eqb : ∀ m : Nat, m < 256 → (nI (bt t p) = nI m ↔ bt t p = m) := fun m hm => nI_eq (by omega) (by omega)
  have eqs : ∀ m : Nat, m < 256 → (nI s2 = nI m ↔ s2 = m) := fun m hm => nI_eq (by omega) (by omega)
  refine w_X12_next_279 (fun V1 e1 => ?_)
  have w1 : Fc V V1 nxS := w.trans (by rw [e1]; exact Fc_wrI ⟨rfl, rfl, by decide, by decide⟩)
  have k43 : vI V1 6 0 43 = nI p := by rw [e1, wrI_ne (fun z => by omega)]; exact w43
  have k44 : vI V1 6 0 44 = nI (p + 1) := by rw [e1, wrI_at, w44, nI_1]
  have pair : ∀ code : Nat, tkPair (bt t p) s2 = code → code ≠ 0 → code ≠ 2 → vwp E d M_X12_next 378 [some (sl 6 0), some (wi (nI (bt t p))), some (wi (nI s2))] [wi (nI code), sl 6 0] V1 (zv K) := fun code ec c0 c2 => by
    rw [ec, if_pos c0] at hk
    refine w_X12_next_378 (fun V2 e2 V3 e3 => m_410 (w1.trans (by rw [e3, e2]; exact (Fc_wrI ⟨rfl, rfl, by decide, by decide⟩).trans (Fc_wrI ⟨rfl, rfl, by decide, by decide⟩))) ?_ ?_ ?_ (fun z => absurd z c2) hk)
    · rw [e3, wrI_ne (fun z => by omega), e2, wrI_at]
    · rw [e3, wrI_ne (fun z => by omega), e2, wrI_ne (fun z => by omega)]; exact k43
    · rw [e3, wrI_at, e2, wrI_ne (fun z => by omega), k44, nI_1]; rfl
  have p338 : ∀ code : Nat, tkPair (bt t p) s2 = code → (code = 200 ∧ bt t p = 60 ∨ code = 201 ∧ bt t p = 62 ∨ code = 202 ∧ bt t p = 46 ∨ code = 203 ∧ bt t p = 45) → vwp E d M_X12_next 338 [some (sl 6 0), some (wi (nI (bt t p))), some (wi (nI s2))] [] V1 (zv K) := fun code ec cc => by
    refine w_X12_next_338 ⟨fun q60 => ⟨fun q62 => ⟨fun q46 => pair 203 ?_ (by decide) (by decide), fun q46 => pair 202 ?_ (by decide) (by decide)⟩, fun q62 => pair 201 ?_ (by decide) (by decide)⟩, fun q60 => pair 200 ?_ (by decide) (by decide)⟩
    · have a1 : ¬ bt t p = 60 := fun z => q60 ((eqb 60 (by decide)).mpr z)
      have a2 : ¬ bt t p = 62 := fun z => q62 ((eqb 62 (by decide)).mpr z)
      have a3 : ¬ bt t p = 46 := fun z => q46 ((eqb 46 (by decide)).mpr z)
      omega
    · have := (eqb 46 (by decide)).mp q46
      omega
    · have := (eqb 62 (by decide)).mp q62
      omega
    · have := (eqb 60 (by decide)).mp q60
      omega
  have plain : tkPair (bt t p) s2 = 0 → vwp E d M_X12_next 394 [some (sl 6 0), some (wi (nI (bt t p))), some (wi (nI s2))] [] V1 (zv K) := fun e0 => by
    rw [if_neg (fun z => z e0)] at hk
    refine w_X12_next_394 (by omega) (c_isSignM hb ?_)
    cases qs : isS (bt t p) with
    | true =>
      rw [if_pos qs] at hk
      have v := isS_v _ qs
      refine ⟨fun z => absurd z (by decide), fun _ => w_X12_next_407 (fun V2 e2 => m_410 (w1.trans (by rw [e2]; exact Fc_wrI ⟨rfl, rfl, by decide, by decide⟩)) ?_ ?_ ?_ (fun z => ?_) hk)⟩
      · rw [e2, wrI_at]
      · rw [e2, wrI_ne (fun z => by omega)]; exact k43
      · rw [e2, wrI_ne (fun z => by omega)]; exact k44
      · have z : bt t p = 2 := z
        omega
    | false =>
      rw [if_neg (by rw [qs]; decide)] at hk
      refine ⟨fun _ => w_X12_next_407 (fun V2 e2 => m_410 (w1.trans (by rw [e2]; exact Fc_wrI ⟨rfl, rfl, by decide, by decide⟩)) ?_ ?_ ?_ (fun z => absurd z (nat_ne rfl)) hk), fun z => absurd rfl z⟩
      · rw [e2, wrI_at]; rfl
      · rw [e2, wrI_ne (fun z => by omega)]; exact k43
      · rw [e2, wrI_ne (fun z => by omega)]; exact k44
  have pf : ∀ b s c, b = c → tkPair b s = tkPair c s := fun b s c e => by rw [e]
  have l326 : ¬ (bt t p = 60 ∧ s2 = 61) → ¬ (bt t p = 62 ∧ s2 = 61) → ¬ (bt t p = 46 ∧ s2 = 46) → vwp E d M_X12_next 326 [some (sl 6 0), some (wi (nI (bt t p))), some (wi (nI s2))] [] V1 (zv K) := fun a1 a2 a3 => by
    refine w_X12_next_326 ⟨fun q => plain ?_, fun q => ⟨fun q2 => plain ?_, fun q2 => p338 203 ?_ (Or.inr (Or.inr (Or.inr ⟨rfl, (eqb 45 (by decide)).mp q⟩)))⟩⟩
    · unfold tkPair
      rw [if_neg a1, if_neg a2, if_neg a3, if_neg (fun z => q ((eqb 45 (by decide)).mpr z.1))]
    · unfold tkPair
      rw [if_neg a1, if_neg a2, if_neg a3, if_neg (fun z => q2 ((eqs 62 (by decide)).mpr z.2))]
    · unfold tkPair
      rw [if_neg a1, if_neg a2, if_neg a3, if_pos ⟨(eqb 45 (by decide)).mp q, (eqs 62 (by decide)).mp q2⟩]
  have l314 : ¬ (bt t p = 60 ∧ s2 = 61) → ¬ (bt t p = 62 ∧ s2 = 61) → vwp E d M_X12_next 314 [some (sl 6 0), some (wi (nI (bt t p))), some (wi (nI s2))] [] V1 (zv K) := fun a1 a2 => by
    refine w_X12_next_314 ⟨fun q => l326 a1 a2 (fun z => q ((eqb 46 (by decide)).mpr z.1)), fun q => ⟨fun q2 => p338 202 ?_ (Or.inr (Or.inr (Or.inl ⟨rfl, (eqb 46 (by decide)).mp q⟩))), fun q2 => l326 a1 a2 (fun z => q2 ((eqs 46 (by decide)).mpr z.2))⟩⟩
    unfold tkPair
    rw [if_neg a1, if_neg a2, if_pos ⟨(eqb 46 (by decide)).mp q, (eqs 46 (by decide)).mp q2⟩]
  have l302 : ¬ (bt t p = 60 ∧ s2 = 61) → vwp E d M_X12_next 302 [some (sl 6 0), some (wi (nI (bt t p))), some (wi (nI s2))] [] V1 (zv K) := fun a1 => by
    refine w_X12_next_302 ⟨fun q => l314 a1 (fun z => q ((eqb 62 (by decide)).mpr z.1)), fun q => ⟨fun q2 => p338 201 ?_ (Or.inr (Or.inl ⟨rfl, (eqb 62 (by decide)).mp q⟩)), fun q2 => l314 a1 (fun z => q2 ((eqs 61 (by decide)).mpr z.2))⟩⟩
    unfold tkPair
    rw [if_neg a1, if_pos ⟨(eqb 62 (by decide)).mp q, (eqs 61 (by decide)).mp q2⟩]
  refine ⟨fun q => l302 (fun z => q ((eqb 60 (by decide)).mpr z.1)), fun q => ⟨fun q2 => p338 200 ?_ (Or.inl ⟨rfl, (eqb 60 (by decide)).mp q⟩), fun q2 => l302 (fun z => q2 ((eqs 61 (by decide)).mpr z.2))⟩⟩
  unfold tkPair
  rw [if_pos ⟨(eqb 60 (by decide)).mp q, (eqs 61 (by decide)).mp q2⟩]
theorem c_next {i : Nat} {K : VH → Prop} (hF : eFr E) (h0 : 6 < d) (h : SrcM V t n) (ha : vI V 6 0 40 = nI i) (hi : i ≤ n) (hk : ∀ V', Fc V V' nxS → RT V' (tkA t n i) → K V') : vMV E d M_X12_next [sl 6 0] V K := by
  have hn := h.2.1
  refine w_X12_next_0 (by omega) (c_passBlanks (by omega) h ha hi (fun V1 f1 a1 V3 e3 V4 e4 => ?_))
  obtain ⟨s1, s2⟩ := skb_in t (n - i) false i
  unfold tkA at hk
  generalize skb t (n - i) false i = p at *
  have w1 : Fc V V1 nxS := f1.mono (fun a f i z => ⟨z.1, z.2.1, by omega, by omega⟩)
  have w4 : Fc V V4 nxS := w1.trans (by rw [e4, e3]; exact (Fc_wrI ⟨rfl, rfl, by decide, by decide⟩).trans (Fc_wrI ⟨rfl, rfl, by decide, by decide⟩))
  have k40 : vI V4 6 0 40 = nI p := by rw [e4, wrI_ne (fun z => by omega), e3, wrI_ne (fun z => by omega)]; exact a1
  have k43 : vI V4 6 0 43 = nI p := by rw [e4, wrI_ne (fun z => by omega), e3, wrI_at]; exact a1
  have k44 : vI V4 6 0 44 = nI p := by rw [e4, wrI_at, e3, wrI_ne (fun z => by omega)]; exact a1
  have s := nx_src h w4
  rw [k40, s.1]
  refine ⟨fun q => ?_, fun q V14 e14 => ?_⟩
  · have hp : p < n := (nI_ltI (by omega) (by omega)).mp q
    have hb := bt_lt t p
    unfold tkP at hk
    rw [if_neg (by omega)] at hk
    refine c_lookM s hp (c_isLetterM hb ?_)
    cases ql : isL (bt t p) with
    | true =>
      rw [if_pos ql] at hk
      exact ⟨fun z => absurd z (by decide), fun _ => m_name hF h0 h hp hk (n - p) p V4 (Nat.le_refl _) (by omega) w4 k43 k44 rfl⟩
    | false =>
      rw [if_neg (by rw [ql]; decide)] at hk
      refine ⟨fun _ => c_isFigureM hb ?_, fun z => absurd rfl z⟩
      cases qf : isF (bt t p) with
      | true =>
        rw [if_pos qf] at hk
        refine ⟨fun z => absurd z (by decide), fun _ V13 e13 => m_num h0 h hp hk (n - p) p V13 (Nat.le_refl _) (by omega) (w4.trans (by rw [e13]; exact Fc_wrI ⟨rfl, rfl, by decide, by decide⟩)) ?_ ?_ (fun _ => ?_) rfl⟩
        · rw [e13, wrI_ne (fun z => by omega)]; exact k43
        · rw [e13, wrI_ne (fun z => by omega)]; exact k44
        · rw [e13, wrI_at, Nat.sub_self, dcn]; rfl
      | false =>
        rw [if_neg (by rw [qf]; decide)] at hk
        refine ⟨fun _ => ?_, fun z => absurd rfl z⟩
        rw [s.1, k44, nI_1]
        refine ⟨fun q => ?_, fun q => ?_⟩
        · have := (nI_leI (by omega) (by omega)).mp q
          exact m_sign (s2 := 0) h0 h hp (by rw [if_neg (by omega)]) hk w4 k43 k44
        · have : ¬ n ≤ p + 1 := fun z => q (nI_le z (by omega))
          exact c_lookM s (by omega) (m_sign (s2 := bt t (p + 1)) h0 h hp (by rw [if_pos (by omega)]) hk w4 k43 k44)
  · have hp : n ≤ p := by
      by_cases c : p < n
      · exact absurd (nI_lt c (by omega)) q
      · omega
    have : p = n := by omega
    subst this
    unfold tkP at hk
    rw [if_pos hp] at hk
    refine hk V14 (w4.trans (by rw [e14]; exact Fc_wrI ⟨rfl, rfl, by decide, by decide⟩)) ⟨?_, ?_, ?_, ?_, fun z => absurd z (nat_ne rfl)⟩
    · rw [e14, wrI_ne (fun z => by omega)]; exact k40
    · rw [e14, wrI_at]; rfl
    · rw [e14, wrI_ne (fun z => by omega)]; exact k43
    · rw [e14, wrI_ne (fun z => by omega)]; exact k44
end
