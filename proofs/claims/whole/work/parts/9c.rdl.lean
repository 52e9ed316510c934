/-! the class reads: names, numbers, groups -/
/-- a note at the head of what came is amended -/
theorem Apd.amend {V W W' : VH} {g ub nb : Nat} {C : CD} {y x : Int32} {xs : List Int32} (h : Apd V W g ub nb C (y :: xs)) (k1 : ∀ k, vI W' g 15 k = vI W g 15 k) (k2 : ∀ k, k ≠ nb → vI W' g 16 k = vI W g 16 k) (k3 : vI W' g 16 nb = x) : Apd V W' g ub nb C (x :: xs) := by
  obtain ⟨h1, h2, h3, h4⟩ := h
  refine ⟨fun k hk => (k1 k).trans (h1 k hk), fun k hk => ?_, fun k hk => (k2 k (by omega)).trans (h3 k hk), fun k hk => ?_⟩
  · rw [k1, k1]; exact h2 k hk
  · cases k with
    | zero => exact k3
    | succ k => rw [k2 _ (by omega)]; exact h4 (k + 1) hk
/-- nothing more comes -/
theorem Apd.sm {V W W' : VH} {g ub nb ub' nb' : Nat} {C : CD} {N : List Int32} (h : Apd V W g ub nb C N) (k : Apd W W' g ub' nb' [] []) (h1 : ub + 2 * C.length ≤ ub') (h2 : nb + N.length ≤ nb') : Apd V W' g ub nb C N := by
  obtain ⟨a1, a2, a3, a4⟩ := h
  obtain ⟨b1, _, b3, _⟩ := k
  refine ⟨fun j hj => (b1 j (by omega)).trans (a1 j hj), fun j hj => ?_, fun j hj => (b3 j (by omega)).trans (a3 j hj), fun j hj => (b3 _ (by omega)).trans (a4 j hj)⟩
  rw [b1 _ (by omega), b1 _ (by omega)]
  exact a2 j hj
theorem Apd.ex {V W : VH} {g ub nb : Nat} {C C' : CD} {N N' : List Int32} (h : Apd V W g ub nb C N) (e1 : C = C') (e2 : N = N') : Apd V W g ub nb C' N' := by rw [← e1, ← e2]; exact h
/-- vars among tokens i .. j - 1 -/
def svx (T : Nat → TK) (M : MN) (i j : Nat) : Int32 := vsb T M i (j - i)
theorem svx_self (T : Nat → TK) (M : MN) (i : Nat) : svx T M i i = 0 := by unfold svx; rw [Nat.sub_self, vsb]
theorem svx_tr {T : Nat → TK} {M : MN} {i j k : Nat} (h1 : i ≤ j) (h2 : j ≤ k) : svx T M i j ||| svx T M j k = svx T M i k := by
  unfold svx
  rw [show k - i = (j - i) + (k - j) from by omega, vsb_add, show i + (j - i) = j from by omega]
theorem svx_1 {T : Nat → TK} {M : MN} {i : Nat} : svx T M i (i + 1) = vbt T M i := by
  unfold svx
  rw [show i + 1 - i = 0 + 1 from by omega, vsb, vsb, Int32.zero_or, Nat.add_zero]
theorem vbt_0 {T : Nat → TK} {M : MN} {i : Nat} (h : (T i).1 ≠ 1) : vbt T M i = 0 := by unfold vbt; rw [if_neg h]
/-- a token that is no name comes first -/
theorem svx_l {T : Nat → TK} {M : MN} {i k : Nat} (h : (T i).1 ≠ 1) (hk : i + 1 ≤ k) : svx T M (i + 1) k = svx T M i k := by
  rw [← svx_tr (T := T) (M := M) (i := i) (j := i + 1) (k := k) (by omega) hk, svx_1, vbt_0 h, Int32.zero_or]
theorem svx_r {T : Nat → TK} {M : MN} {i k : Nat} (h : (T k).1 ≠ 1) (hk : i ≤ k) : svx T M i (k + 1) = svx T M i k := by
  rw [← svx_tr (T := T) (M := M) (i := i) (j := k) (k := k + 1) hk (by omega), svx_1, vbt_0 h, Int32.or_zero]
section
variable {E : EE} {d : Nat} {V : VH} {g : Nat} {T : Nat → TK} {L : Nat} {tc : Nat → Nat} {nm : Nat → Nat → Int64} {i o nb ub : Nat} {sv : Int32}
def lkI (q : Option (Nat × Nat)) : Int32 := match q with
  | some q => nI (24 * q.1 + q.2)
  | none => -1
theorem c_lookUp {key : Int64} {K : Int32 → VH → Prop} (hg : PG (vL V) g) (h : NmC V g tc nm) (hk : K (lkI (lku tc nm key)) V) : vMI E d M_X3_lookUp [sl g 0, wj key] V K := by
  have go : ∀ (m s : Nat), s + m = 4 → K (lkI (lkf tc nm key m s)) V → vwp E d M_X3_lookUp 2 [some (sl g 0), some (wj key), none, some (wi (nI s)), none] [] V (zi K) := by
    intro m
    induction m with
    | zero =>
      intro s e hk
      exact w_X3_lookUp_2 hg ⟨fun _ => hk, fun q => absurd (nI_le (a := 4) (by omega) (by omega)) q⟩
    | succ m ih =>
      intro s e hk
      obtain ⟨hc, hc2⟩ := h.1 s (by omega)
      refine w_X3_lookUp_2 hg ⟨fun q => absurd q (nI_ge (b := 4) (by omega) (by decide)), fun _ => ?_⟩
      have in_ : ∀ (q k : Nat), k + q = tc s → (∀ j, j < k → decide (nm s j = key) = false) → vwp E d M_X3_lookUp 10 [some (sl g 0), some (wj key), none, some (wi (nI s)), some (wi (nI k))] [] V (zi K) := by
        intro q
        induction q with
        | zero =>
          intro k ek hj
          refine w_X3_lookUp_10 hg ?_
          rw [nI_clamp (show s < 2 ^ 31 by omega), hc, nI_1]
          refine ⟨vp_in_nI (by omega) (by decide), fun _ => ih (s + 1) (by omega) ?_, fun z => absurd (nI_le (by omega) (by omega)) z⟩
          rw [lkf, fsb_none (n := tc s) (fun j hj2 => hj j (by omega))] at hk
          exact hk
        | succ q ihq =>
          intro k ek hj
          refine w_X3_lookUp_10 hg ?_
          have e24 : nI s * 24 + nI k = nI (24 * s + k) := by rw [show (24 : Int32) = nI 24 from rfl, nI_mul, nI_add, Nat.mul_comm]
          rw [nI_clamp (show s < 2 ^ 31 by omega), hc, e24, nI_clamp (show 24 * s + k < 2 ^ 31 by omega), h.2 s (by omega) k (by omega)]
          refine ⟨vp_in_nI (by omega) (by decide), fun z => absurd z (nI_ge (by omega) (by omega)), fun _ => ⟨vp_in_nI (by omega) (by decide), fun z => ?_, fun z => ?_⟩⟩
          · rw [nI_1]
            refine ihq (k + 1) (by omega) (fun j hj2 => ?_)
            by_cases cj : j = k
            · rw [cj]; exact decide_eq_false z
            · exact hj j (by omega)
          · rw [lkf, fsb_ne (n := tc s) (k := k) (by omega) hj (decide_eq_true z)] at hk
            exact hk
      exact in_ (tc s) 0 (by omega) (fun j hj => absurd hj (Nat.not_lt_zero j))
  exact w_X3_lookUp_0 hg (go 4 0 (by omega) hk)
theorem lkf_lt {key : Int64} {q : Nat × Nat} : ∀ m s, s + m = 4 → lkf tc nm key m s = some q → q.1 < 4 ∧ q.2 < tc q.1 ∧ nm q.1 q.2 = key := by
  intro m
  induction m with
  | zero => intro s _ h; cases h
  | succ m ih =>
    intro s e h
    rw [lkf] at h
    cases w : fsb (fun k => decide (nm s k = key)) (tc s) with
    | none => rw [w] at h; exact ih (s + 1) (by omega) h
    | some k =>
      rw [w] at h
      have h : some (s, k) = some q := h
      have := Option.some.inj h
      subst this
      refine ⟨by show s < 4; omega, fsb_lt w, ?_⟩
      exact of_decide_eq_true (fsb_true w)
theorem lku_lt {key : Int64} {q : Nat × Nat} (h : lku tc nm key = some q) : q.1 < 4 ∧ q.2 < tc q.1 ∧ nm q.1 q.2 = key := lkf_lt 4 0 (by omega) h
/-- 24 times the sort, and the number -/
theorem lk_div {s k : Nat} (hs : s < 4) (hk : k < 24) : nI (24 * s + k) / 24 = nI s ∧ nI (24 * s + k) - nI (24 * s + k) / 24 * 24 = nI k := by
  constructor
  · rw [show (24 : Int32) = nI 24 from rfl, nI_div (by omega) (by decide)]; congr 1; omega
  · rw [show (24 : Int32) = nI 24 from rfl, nI_rem (by omega) (by decide)]; congr 1; omega
theorem CS.key (h : CS V g T L tc nm i o nb ub sv) (h1 : (T i).1 = 1) : vJ V 0 2 7 = (T i).2.1 := by
  rw [h.tok.2.2.1 (by omega)]
  unfold clX
  rw [if_pos h1]
/-- seen vars change -/
theorem CS.seen {V1 : VH} {x : Int32} (h : CS V g T L tc nm i o nb ub sv) (e1 : V1 = wrI V 0 7 8 x) : Rdf V V1 g ∧ CS V1 g T L tc nm i o nb ub x ∧ Apd V V1 g ub nb [] [] := by
  obtain ⟨g0, g6⟩ := h.g0
  have f3 : Fc V V1 (fun a f j => a = 0 ∧ f = 7 ∧ j = 8) := by rw [e1]; exact Fc_wrI ⟨rfl, rfl, rfl⟩
  have q3 : ∀ a f j, (fun a f j => a = 0 ∧ f = 7 ∧ j = 8) a f j → a = 0 ∧ f = 2 ∧ j ≠ 5 ∨ a = 0 ∧ f = 7 ∧ 5 ≤ j ∧ j ≤ 8 := fun a f j z => Or.inr ⟨z.1, z.2.1, by omega, by omega⟩
  have t3 : TkA V1 i := by
    rw [e1]
    obtain ⟨t1, t2, t3, t4, t5⟩ := h.2.1
    exact ⟨(wrI_ne (fun z => by omega)).trans t1, (wrI_ne (fun z => by omega)).trans (t2.trans (wrI_ne (fun z => by omega)).symm), t3, (wrI_ne (fun z => by omega)).trans (t4.trans (wrI_ne (fun z => by omega)).symm), (wrI_ne (fun z => by omega)).trans (t5.trans (wrI_ne (fun z => by omega)).symm)⟩
  exact ⟨h.fi f3 q3, h.mv f3 q3 t3 (Nat.le_refl _) h.2.2.1 (by rw [e1, wrI_ne (fun z => by omega)]; exact h.2.2.2.1.1) h.2.2.2.2.1 (by rw [e1, wrI_at]) (fun z => by have := z.2.1; omega), ⟨fun j _ => by rw [e1, wrI_ne (fun z => g0 z.1)], fun j hj => absurd hj (Nat.not_lt_zero j), fun j _ => by rw [e1, wrI_ne (fun z => g0 z.1)], fun j hj => absurd hj (Nat.not_lt_zero j)⟩⟩
theorem cs_variable {K : Int32 → VH → Prop} (h0 : 2 < d) (h : CS V g T L tc nm i o nb ub sv) (hn : nb + 1 ≤ i) (he : ∀ e, vrb T (lku tc nm) i = .inl e → ∀ V', Rdf V V' g → Flt V' e → K 0 V') (hy : ∀ v, vrb T (lku tc nm) i = .inr (i + 1, v) → ∀ V', Rdf V V' g → CS V' g T L tc nm (i + 1) o (nb + 1) ub (sv ||| svx T (lku tc nm) i (i + 1)) → Apd V V' g ub nb [] [nI v] → K 1 V') : vMI E d M_X5_variable [sl 0 7] V K := by
  have hx := h.1
  obtain ⟨t1, t2, t3, t4, t5⟩ := h.tok
  refine w_X5_variable_0 (by omega) ⟨fun q => ?_, fun q => ?_⟩
  · have c1 : (T i).1 = 1 := clK_2.mp (t2.symm.trans q)
    have ev : vrb T (lku tc nm) i = (match lku tc nm (T i).2.1 with
      | some q => if q.1 = 1 then .inr (i + 1, q.2) else .inl (4, (T i).f)
      | none => .inl (4, (T i).f)) := by unfold vrb; rw [if_pos c1]; cases lku tc nm (T i).2.1 <;> rfl
    have bad : vrb T (lku tc nm) i = .inl (4, (T i).f) → ∀ x : Int32, vwp E d M_X5_variable 46 [some (sl 0 7), some (wi x), none] [] V (zi K) := fun z x => w_X5_variable_46 (by omega) (cs_fail h rfl t4 (fun V' a b => ⟨Or.inl rfl, he _ z V' a b⟩))
    rw [hx.1]
    refine ⟨hx.2.2.1, ?_⟩
    rw [h.key c1]
    refine c_lookUp hx.2.2.1 hx.2.2.2.2.2.2 ?_
    cases w : lku tc nm (T i).2.1 with
    | none =>
      rw [w] at ev
      exact ⟨fun _ => bad ev _, fun z => absurd (show (-1 : Int32) < 0 by decide) z⟩
    | some q2 =>
      rw [w] at ev
      have ev : vrb T (lku tc nm) i = if q2.1 = 1 then .inr (i + 1, q2.2) else .inl (4, (T i).f) := ev
      obtain ⟨l1, l2, _⟩ := lku_lt w
      have l3 := (hx.2.2.2.2.2.2.1 q2.1 l1).2
      obtain ⟨d1, d2⟩ := lk_div (s := q2.1) (k := q2.2) l1 (by omega)
      refine ⟨fun z => absurd z (nI_pos (show 24 * q2.1 + q2.2 < 2 ^ 31 by omega)), fun _ => ?_⟩
      have el : lkI (some q2) = nI (24 * q2.1 + q2.2) := rfl
      rw [el, d2, d1]
      have e1 : nI q2.1 = 1 ↔ q2.1 = 1 := nI_eq (b := 1) (by omega) (by decide)
      refine ⟨fun z V5 e5 => ?_, fun z => ?_⟩
      · have c2 := e1.mp z
        rw [if_pos c2] at ev
        obtain ⟨r5, s5, a5⟩ := h.seen e5
        rw [s5.1.2.1]
        refine ⟨s5.1.2.2.1, cs_note (by omega) s5 hn (fun V7 r7 s7 a7 => cs_step s7 (by omega) (by omega) (fun V11 r11 s11 a11 => hy q2.2 ev V11 ((r5.trans r7).trans r11) ?_ ((a5.trans a7).trans a11)))⟩
        have eb : svx T (lku tc nm) i (i + 1) = 1 <<< (nI q2.2 &&& 31) := by
          rw [svx_1]
          unfold vbt
          rw [if_pos c1, w]
          show (if q2.1 = 1 then _ else _) = _
          rw [if_pos c2]
        rw [eb]
        rw [h.2.2.2.2.2.1] at s11
        exact s11
      · rw [if_neg (fun y => z (e1.mpr y))] at ev
        exact bad ev _
  · have c1 : ¬ (T i).1 = 1 := fun z => q (t2.trans (clK_2.mpr z))
    exact cs_refuse h (fun V' a b => ⟨Or.inl rfl, he _ (by unfold vrb; rw [if_neg c1]) V' a b⟩)
theorem l2i_nL {n : Nat} : Int64.toInt32 (nL n) = nI n := Int64.toInt32_ofNat' 
theorem cs_numeral {sg : Bool} {lo hi : Nat} {K : Int32 → VH → Prop} (h0 : 1 < d) (h : CS V g T L tc nm i o nb ub sv) (hlo : lo ≤ 9999) (hhi : hi ≤ 9999) (he : ∀ e, nmr T sg lo hi i = .inl e → ∀ V', Rdf V V' g → Flt V' e → K 0 V') (hy : ∀ i1 x, nmr T sg lo hi i = .inr (i1, x) → ∀ V', Rdf V V' g → CS V' g T L tc nm i1 o nb ub sv → Apd V V' g ub nb [] [] → vI V' 0 7 5 = x → vI V' 0 7 6 = nI (T (i1 - 1)).f → i ≤ i1 → i1 ≤ i + 2 → 1 ≤ i1 → svx T (lku tc nm) i i1 = 0 → K 1 V') : vMI E d M_X5_numeral [sl 0 7, wi (bI sg), wi (nI lo), wi (nI hi)] V K := by
  -- from the number on
  have num : ∀ (j : Nat) (W : VH), nmj T sg i = j → (j = i ∨ j = i + 1 ∧ (T i).1 = 45) → Rdf V W g → CS W g T L tc nm j o nb ub sv → Apd V W g ub nb [] [] → vwp E d M_X5_numeral 35 [some (sl 0 7), some (wi (bI sg)), some (wi (nI lo)), some (wi (nI hi)), some (wi (bI (decide (j ≠ i)))), none] [] W (zi K) := fun j W ej hj r s a => by
    obtain ⟨t1, t2, t3, t4, t5⟩ := s.tok
    have hx := s.1
    refine w_X5_numeral_35 (by omega) ⟨fun q V1 e1 => ?_, fun q => ?_⟩
    · have c2 : (T j).1 = 2 := clK_3.mp (t2.symm.trans q)
      have v9 : (T j).2.2.1 ≤ 9999 := (hx.2.2.2.2.2.1.2.2 j).2.2.2 c2
      have ek : Int64.toInt32 (vJ W 0 2 7) = nI (T j).2.2.1 := by
        rw [t3 (by omega)]
        unfold clX
        rw [if_neg (by omega), if_pos c2]
        exact l2i_nL
      rw [ek]
      have f1 : Fc W V1 (fun a f j => a = 0 ∧ f = 7 ∧ j = 6) := by rw [e1]; exact Fc_wrI ⟨rfl, rfl, rfl⟩
      have q1 : ∀ a f j, (fun a f j => a = 0 ∧ f = 7 ∧ j = 6) a f j → a = 0 ∧ f = 2 ∧ j ≠ 5 ∨ a = 0 ∧ f = 7 ∧ 5 ≤ j ∧ j ≤ 8 := fun a f j z => Or.inr ⟨z.1, z.2.1, by omega, by omega⟩
      obtain ⟨g0, g6⟩ := s.g0
      have tk : ∀ (X : VH) (k : Nat) (x : Int32), TkA X j → TkA (wrI X 0 7 k x) j := fun X k x tt => by
        obtain ⟨t1, t2, t3, t4, t5⟩ := tt
        exact ⟨(wrI_ne (fun z => by omega)).trans t1, (wrI_ne (fun z => by omega)).trans (t2.trans (wrI_ne (fun z => by omega)).symm), t3, (wrI_ne (fun z => by omega)).trans (t4.trans (wrI_ne (fun z => by omega)).symm), (wrI_ne (fun z => by omega)).trans (t5.trans (wrI_ne (fun z => by omega)).symm)⟩
      have s1 : CS V1 g T L tc nm j o nb ub sv := s.mv f1 q1 (by rw [e1]; exact tk W 6 _ s.2.1) (Nat.le_refl _) s.2.2.1 (by rw [e1, wrI_ne (fun z => by omega)]; exact s.2.2.2.1.1) s.2.2.2.2.1 (by rw [e1, wrI_ne (fun z => by omega)]; exact s.2.2.2.2.2.1) (fun z => by have := z.2.1; omega)
      have p1 : vI V1 0 7 6 = nI (T j).f := by rw [e1, wrI_at]; exact t4
      have r1 := r.trans (s.fi f1 q1)
      have a1 : Apd W V1 g ub nb [] [] := ⟨fun k _ => by rw [e1, wrI_ne (fun z => g0 z.1)], fun k hk => absurd hk (Nat.not_lt_zero k), fun k _ => by rw [e1, wrI_ne (fun z => g0 z.1)], fun k hk => absurd hk (Nat.not_lt_zero k)⟩
      have out : ((T j).2.2.1 < lo ∨ hi < (T j).2.2.1) → ∀ x : Int32, vwp E d M_X5_numeral 87 [some (sl 0 7), some (wi (bI sg)), some (wi (nI lo)), some (wi (nI hi)), some (wi (bI (decide (j ≠ i)))), some (wi x)] [] V1 (zi K) := fun z x => w_X5_numeral_87 (by omega) (cs_fail s1 rfl p1 (fun V' b f => ⟨Or.inl rfl, he (5, (T j).f) (by unfold nmr; rw [ej, if_pos c2, if_pos z]) V' (r1.trans b) f⟩))
      have okk : ¬ ((T j).2.2.1 < lo ∨ hi < (T j).2.2.1) → ∀ x y : Int32, x = (if j = i then nI (T j).2.2.1 else - nI (T j).2.2.1) → vwp E d M_X5_numeral 114 [some (sl 0 7), some (wi (bI sg)), some (wi (nI lo)), some (wi (nI hi)), some (wi (bI (decide (j ≠ i)))), some (wi y)] [wi x, sl 0 7] V1 (zi K) := fun z x y ex => by
        refine w_X5_numeral_114 (by omega) (fun V2 e2 => ?_)
        have f2 : Fc V1 V2 (fun a f j => a = 0 ∧ f = 7 ∧ j = 5) := by rw [e2]; exact Fc_wrI ⟨rfl, rfl, rfl⟩
        have q2 : ∀ a f j, (fun a f j => a = 0 ∧ f = 7 ∧ j = 5) a f j → a = 0 ∧ f = 2 ∧ j ≠ 5 ∨ a = 0 ∧ f = 7 ∧ 5 ≤ j ∧ j ≤ 8 := fun a f j z => Or.inr ⟨z.1, z.2.1, by omega, by omega⟩
        have s2 : CS V2 g T L tc nm j o nb ub sv := s1.mv f2 q2 (by rw [e2]; exact tk V1 5 _ s1.2.1) (Nat.le_refl _) s1.2.2.1 (by rw [e2, wrI_ne (fun z => by omega)]; exact s1.2.2.2.1.1) s1.2.2.2.2.1 (by rw [e2, wrI_ne (fun z => by omega)]; exact s1.2.2.2.2.2.1) (fun z => by have := z.2.1; omega)
        have a2 : Apd V1 V2 g ub nb [] [] := ⟨fun k _ => by rw [e2, wrI_ne (fun z => g0 z.1)], fun k hk => absurd hk (Nat.not_lt_zero k), fun k _ => by rw [e2, wrI_ne (fun z => g0 z.1)], fun k hk => absurd hk (Nat.not_lt_zero k)⟩
        obtain ⟨cap, c, c1, cc2, c3, c4⟩ := s2.1.2.2.2.1
        have hlt := s2.1.2.2.2.2.2.1.1.lt s2.2.2.1 (by omega) (by omega)
        refine c_step c1 cc2 c4 s2.tok.1 (by omega) (fun V3 f3 t3' => ?_)
        rw [show min (j + 1) c = j + 1 from by omega] at t3'
        have q3 : ∀ a f j, stS a f j → a = 0 ∧ f = 2 ∧ j ≠ 5 ∨ a = 0 ∧ f = 7 ∧ 5 ≤ j ∧ j ≤ 8 := fun a f j z => Or.inl ⟨z.1, z.2.1, by have := z.2.2; omega⟩
        have s3 : CS V3 g T L tc nm (j + 1) o nb ub sv := s2.mv f3 q3 t3' (by omega) hlt (by rw [f3.i (fun z => by have := z.2.1; omega)]; exact s2.2.2.2.1.1) s2.2.2.2.2.1 (by rw [f3.i (fun z => by have := z.2.1; omega)]; exact s2.2.2.2.2.2.1) (fun z => by have := z.2.2; omega)
        have a3 : Apd V2 V3 g ub nb [] [] := ⟨fun j _ => f3.i (fun z => g0 z.1), fun j hj => absurd hj (Nat.not_lt_zero j), fun j _ => f3.i (fun z => g0 z.1), fun j hj => absurd hj (Nat.not_lt_zero j)⟩
        refine hy (j + 1) x (by unfold nmr; rw [ej, if_pos c2, if_neg z, ex]) V3 ((r1.trans (s1.fi f2 q2)).trans (s2.fi f3 q3)) s3 (((a.trans a1).trans a2).trans a3) ?_ ?_ (by omega) (by omega) (by omega) ?_
        · rw [f3.i (fun z => by have := z.2.1; omega), e2, wrI_at]
        · rw [f3.i (fun z => by have := z.2.1; omega), e2, wrI_ne (fun z => by omega), p1, Nat.add_sub_cancel]
        · have z2 : svx T (lku tc nm) j (j + 1) = 0 := by rw [svx_1]; exact vbt_0 (by omega)
          rcases hj with rfl | ⟨rfl, c45⟩
          · exact z2
          · rw [← svx_l (by omega) (by omega)]; exact z2
      have dl : nI (T j).2.2.1 < nI lo ↔ (T j).2.2.1 < lo := nI_ltI (by omega) (by omega)
      have dh : nI (T j).2.2.1 ≤ nI hi ↔ (T j).2.2.1 ≤ hi := nI_leI (by omega) (by omega)
      refine ⟨fun z => out (Or.inl (dl.mp z)) _, fun z => ⟨fun z2 => ⟨fun z3 => ?_, fun z3 => ?_⟩, fun z2 => out (Or.inr (by have := mt dh.mpr z2; omega)) _⟩⟩
      · have c : j = i := by
          by_cases c : j = i
          · exact c
          · rw [decide_eq_true c] at z3; exact absurd z3 (by decide)
        refine okk (fun y => ?_) _ _ (by rw [if_pos c])
        have := mt dl.mpr z
        have := dh.mp z2
        omega
      · have c : ¬ j = i := fun c => by rw [decide_eq_false (fun y => y c)] at z3; exact absurd rfl z3
        refine okk (fun y => ?_) _ _ (by rw [if_neg c])
        have := mt dl.mpr z
        have := dh.mp z2
        omega
    · have c2 : ¬ (T j).1 = 2 := fun z => q (t2.trans (clK_3.mpr z))
      exact cs_refuse s (fun V' b f => ⟨Or.inl rfl, he _ (by unfold nmr; rw [ej, if_neg c2]) V' (r.trans b) f⟩)
  have r0 : Rdf V V g := h.caps
  have plain : nmj T sg i = i → vwp E d M_X5_numeral 20 [some (sl 0 7), some (wi (bI sg)), some (wi (nI lo)), some (wi (nI hi)), none, none] [] V (zi K) := fun e => by
    refine w_X5_numeral_20 (w_X5_numeral_21 (by omega) ⟨fun _ => ?_, fun z => absurd rfl z⟩)
    have z := num i V e (Or.inl rfl) r0 h Apd.refl
    rw [decide_eq_false (fun y => y rfl)] at z
    exact z
  cases sg with
  | false => exact w_X5_numeral_0 (by omega) ⟨fun _ => plain (by unfold nmj; rw [if_neg (fun z => by cases z.1)]), fun z => absurd rfl z⟩
  | true =>
    refine w_X5_numeral_0 (by omega) ⟨fun z => absurd z (by decide), fun _ => cs_is (c := 45) h (by decide) (by decide) ?_⟩
    by_cases c : (T i).1 = 45
    · rw [decide_eq_true c]
      refine ⟨fun z => absurd z (by decide), fun _ => w_X5_numeral_21 (by omega) ⟨fun z => absurd z (by decide), fun _ => cs_step h (by omega) (by omega) (fun V1 r1 s1 a1 => ?_)⟩⟩
      have z := num (i + 1) V1 (by unfold nmj; rw [if_pos ⟨rfl, c⟩]) (Or.inr ⟨rfl, c⟩) r1 s1 a1
      rw [decide_eq_true (show i + 1 ≠ i by omega)] at z
      exact z
    · rw [decide_eq_false c]
      exact ⟨fun _ => plain (by unfold nmj; rw [if_neg (fun z => c z.2)]), fun z => absurd rfl z⟩
end
