/-! what is left: the reference -/
def f46 (a f _j : Nat) : Prop := a = 6 ∧ (f = 46 ∨ f = 47)
section
variable {E : EE} {d : Nat} {V V' V1 V2 : VH} {q B : Nat} {t : Nat → Int32} {n : Nat} {R : List SR} {nt fa : Nat → Int32} {h h' : Nat} {x b : Int32} {cs : Nat → Int32} {X Y : Nat → Nat → Bool}
def LfM (V : VH) (R : List SR) (X : Nat → Nat → Bool) : Prop := ∀ v k, v < tcR R 1 → k < szR R v → vI V 6 46 (20 * v + k) = bI (X v k)
/-- values met in plans of L by rule r -/
def meB (R : List SR) (nt fa : Nat → Int32) (X : Nat → Nat → Bool) (r : Nat) (L : List Nat) (v k : Nat) : Bool := L.any (fun p => (decide (brk R nt fa r p = 0) && ofL R X p) && decide (k = dgR R v p))
theorem meB_add {r p v k : Nat} {L : List Nat} : meB R nt fa X r (L ++ [p]) v k = (meB R nt fa X r L v k || ((decide (brk R nt fa r p = 0) && ofL R X p) && decide (k = dgR R v p))) := by
  unfold meB
  rw [List.any_append]
  congr 1
  exact Bool.or_false _
theorem meB_sp {r v k : Nat} : meB R nt fa X r (List.range (plR R)) v k = true ↔ spX R nt fa X r v k := by
  unfold meB
  rw [List.any_eq_true]
  constructor
  · rintro ⟨p, hp, z⟩
    rw [Bool.and_eq_true, Bool.and_eq_true] at z
    exact ⟨p, List.mem_range.mp hp, z.1.2, of_decide_eq_true z.1.1, (of_decide_eq_true z.2).symm⟩
  · rintro ⟨p, h1, h2, h3, h4⟩
    refine ⟨p, List.mem_range.mpr h1, ?_⟩
    rw [decide_eq_true h3, h2, decide_eq_true h4.symm]; rfl
theorem i20 (v k : Nat) : (20 : Int32) * nI v + nI k = nI (20 * v + k) := by rw [show (20 : Int32) = nI 20 from rfl, nI_mul, nI_add]
theorem KnM.sz (hm : KnM V q t n R nt fa h x cs) {v : Nat} (hv : v < tcR R 1) : vI V 6 16 (12 * q + v) = nI (szR R v) ∧ szR R v ≤ 20 ∧ 0 < szR R v := ⟨(hm.sq.2.2.2.2.2 v hv).1, (hm.sq.2.2.2.2.2 v hv).2.2.1, (hm.sq.2.2.2.2.2 v hv).2.1⟩
theorem c_isOfLeftM {p : Nat} {K : Int32 → VH → Prop} (h0 : 0 < d) (hm : KnM V q t n R nt fa h x cs) (hl : LfM V R X) (hp : p < 2 ^ 31) (hk : K (bI (ofL R X p)) V) : vMI E d M_X12_isOfLeft [sl 6 0, wi (nI q), wi (nI p)] V K := by
  have n12 : tcR R 1 ≤ 12 := hm.sq.2.2.1
  have nil : ∀ y : Int32, ofL R X p = false → vwp E d M_X12_isOfLeft 5 [some (sl 6 0), some (wi (nI q)), some (wi (nI p)), some (wi 0), some (wi y)] [] V (zi K) := fun y c => w_X12_isOfLeft_5 h0 ⟨fun _ => ⟨Or.inl rfl, by rw [c] at hk; exact hk⟩, fun z => absurd rfl z⟩
  have go : ∀ m v, v + m = tcR R 1 → (∀ u, u < v → X u (dgR R u p) = true) → vwp E d M_X12_isOfLeft 5 [some (sl 6 0), some (wi (nI q)), some (wi (nI p)), some (wi 1), some (wi (nI v))] [] V (zi K) := by
    intro m
    induction m with
    | zero =>
      intro v e o
      have c : ofL R X p = true := ofL_iff.mpr (fun u hu => o u (by omega))
      rw [c] at hk
      exact w_X12_isOfLeft_5 h0 ⟨fun z => absurd z (by decide), fun _ => c_vars hm.sq ⟨fun _ => ⟨Or.inr rfl, hk⟩, fun z => absurd (nI_le (by omega) (by omega)) z⟩⟩
    | succ m ih =>
      intro v e o
      have hv : v < tcR R 1 := by omega
      have s20 := (hm.sz hv).2.1
      have dl : dgR R v p < szR R v := Dg_lt hm.sq.pos hv
      refine w_X12_isOfLeft_5 h0 ⟨fun z => absurd z (by decide), fun _ => c_vars hm.sq ⟨fun z => absurd z (nI_ge hv (by omega)), fun _ => c_place hm.sq hv hp ?_⟩⟩
      have dl2 : Dg (szR R) (tcR R 1) v p < szR R v := dl
      rw [i20, nI_clamp (show 20 * v + Dg (szR R) (tcR R 1) v p < 2 ^ 31 by omega), hl v _ hv dl, nI_1]
      refine ⟨vp_in_nI (by omega) (by decide), ?_⟩
      cases c : X v (dgR R v p) with
      | true =>
        refine ih (v + 1) (by omega) (fun u hu => ?_)
        by_cases y : u = v
        · rw [y]; exact c
        · exact o u (by omega)
      | false =>
        refine nil _ ?_
        cases y : ofL R X p with
        | false => rfl
        | true => rw [ofL_iff.mp y v hv] at c; exact Bool.noConfusion c
  exact w_X12_isOfLeft_0 (go (tcR R 1) 0 (Nat.zero_add _) (fun u hu => absurd hu (Nat.not_lt_zero u)))
/-- one rule: what it does not support goes -/
theorem left_rule {r : Nat} {w0 : Bool} {K : VH → Prop} (h0 : 2 < d) (hs : PrS t n R nt) (hm : KnM V q t n R nt fa h x cs) (hW6 : SL (vL V) 6 46 16) (hN6 : vN V 6 46 = 240) (hr : r < tcR R 2) (f1 : Fc V V1 f46) (l1 : LfM V1 R X)
    (hk : ∀ V2 (w : Bool), Fc V V2 f46 → LfM V2 R (fun v k => X v k && meB R nt fa X r (List.range (plR R)) v k) → (w = true ↔ w0 = true ∨ ∃ v k, v < tcR R 1 ∧ k < szR R v ∧ X v k = true ∧ meB R nt fa X r (List.range (plR R)) v k = false) → vwp E d M_X12_findLeft 374 [some (sl 6 0), some (wi (nI q)), some (wi (bI w)), some (wi (nI r)), none, none] [] V2 (zv K)) :
    vwp E d M_X12_findLeft 129 [some (sl 6 0), some (wi (nI q)), some (wi (bI w0)), some (wi (nI r)), some (wi 0), none] [] V1 (zv K) := by
  have p20 := hm.p20
  have q5 := hm.q5
  have n12 : tcR R 1 ≤ 12 := hm.sq.2.2.1
  have r24 : tcR R 2 ≤ 24 := hs.2.2.2.1.1 2 (by decide)
  have kn : ∀ {V1}, Fc V V1 f46 → KnM V1 q t n R nt fa h x cs := fun f1 => hm.fc hs f1 (fun f j y => by have := y.2; omega)
  have hv6 : ∀ {V1}, Fc V V1 f46 → vN V1 6 46 = vN V 6 46 := fun f1 => by rw [f1.n]
  -- the values
  have vals : ∀ V2, Fc V V2 f46 → LfM V2 R X → (∀ v k, v < tcR R 1 → k < szR R v → vI V2 6 47 (20 * v + k) = bI (meB R nt fa X r (List.range (plR R)) v k)) → vwp E d M_X12_findLeft 240 [some (sl 6 0), some (wi (nI q)), some (wi (bI w0)), some (wi (nI r)), some (wi 0), none] [] V2 (zv K) := by
    intro V2 f2 l2 m2
    have outer : ∀ m v V3 (w : Bool), v + m = tcR R 1 → Fc V V3 f46 → (∀ u k, u < tcR R 1 → k < szR R u → vI V3 6 47 (20 * u + k) = bI (meB R nt fa X r (List.range (plR R)) u k)) → (∀ u k, u < tcR R 1 → k < szR R u → vI V3 6 46 (20 * u + k) = bI (if u < v then X u k && meB R nt fa X r (List.range (plR R)) u k else X u k)) → (w = true ↔ w0 = true ∨ ∃ u k, u < v ∧ k < szR R u ∧ X u k = true ∧ meB R nt fa X r (List.range (plR R)) u k = false) → vwp E d M_X12_findLeft 240 [some (sl 6 0), some (wi (nI q)), some (wi (bI w)), some (wi (nI r)), some (wi (nI v)), none] [] V3 (zv K) := by
      intro m
      induction m with
      | zero =>
        intro v V3 w e f3 m3 l3 w3
        have ev : v = tcR R 1 := by omega
        refine w_X12_findLeft_240 (by omega) (c_vars (kn f3).sq ⟨fun _ => hk V3 w f3 (fun u k hu hk' => by rw [l3 u k hu hk', if_pos (by omega)]) (by rw [← ev]; exact w3), fun z => absurd (nI_le (by omega) (by omega)) z⟩)
      | succ m ih =>
        intro v V3 w e f3 m3 l3 w3
        have hv : v < tcR R 1 := by omega
        obtain ⟨_, s20, _⟩ := (kn f3).sz hv
        refine w_X12_findLeft_240 (by omega) (c_vars (kn f3).sq ⟨fun z => absurd z (nI_ge hv (by omega)), fun _ => ?_⟩)
        have inner : ∀ s k V4 (w4 : Bool), k + s = szR R v → Fc V V4 f46 → (∀ u k, u < tcR R 1 → k < szR R u → vI V4 6 47 (20 * u + k) = bI (meB R nt fa X r (List.range (plR R)) u k)) → (∀ u j, u < tcR R 1 → j < szR R u → vI V4 6 46 (20 * u + j) = bI (if u < v ∨ u = v ∧ j < k then X u j && meB R nt fa X r (List.range (plR R)) u j else X u j)) → (w4 = true ↔ w0 = true ∨ ∃ u j, (u < v ∨ u = v ∧ j < k) ∧ j < szR R u ∧ X u j = true ∧ meB R nt fa X r (List.range (plR R)) u j = false) → vwp E d M_X12_findLeft 253 [some (sl 6 0), some (wi (nI q)), some (wi (bI w4)), some (wi (nI r)), some (wi (nI v)), some (wi (nI k))] [] V4 (zv K) := by
          intro s
          induction s with
          | zero =>
            intro k V4 w4 e f4 m4 l4 w4'
            have ek : k = szR R v := by omega
            obtain ⟨z16, _, _⟩ := (kn f4).sz hv
            refine w_X12_findLeft_253 ?_
            rw [i12, nI_clamp (show 12 * q + v < 2 ^ 31 by omega), z16]
            refine ⟨vp_in_nI (by omega) (by decide), fun _ => ?_, fun z => absurd (nI_le (by omega) (by omega)) z⟩
            rw [nI_1]
            refine ih (v + 1) V4 w4 (by omega) f4 m4 (fun u j hu hj => ?_) (w4'.trans ⟨fun z => z.imp id (fun ⟨u, j, a, c⟩ => ⟨u, j, by omega, c⟩), fun z => z.imp id (fun ⟨u, j, a, b, c⟩ => ⟨u, j, ?_, b, c⟩)⟩)
            · rw [l4 u j hu hj]
              by_cases c : u < v + 1
              · rw [if_pos c, if_pos]
                by_cases c2 : u = v
                · subst c2; omega
                · omega
              · rw [if_neg c, if_neg (by omega)]
            · by_cases c2 : u = v
              · subst c2; omega
              · omega
          | succ s ih2 =>
            intro k V4 w4 e f4 m4 l4 w4'
            have hk' : k < szR R v := by omega
            obtain ⟨z16, _, _⟩ := (kn f4).sz hv
            have e46 : vI V4 6 46 (20 * v + k) = bI (X v k) := by rw [l4 v k hv hk', if_neg (by omega)]
            have e47 := m4 v k hv hk'
            have sl46 : SL (vL V4) 6 46 16 := by rw [f4.l]; exact hW6
            have n46 : vN V4 6 46 = 240 := by rw [hv6 f4]; exact hN6
            have next : ∀ (w5 : Bool) (y : Bool), (w5 = true ↔ w4 = true ∨ X v k = true ∧ meB R nt fa X r (List.range (plR R)) v k = false) → y = (X v k && meB R nt fa X r (List.range (plR R)) v k) → vwp E d M_X12_findLeft 361 [some (sl 6 0), some (wi (nI q)), some (wi (bI w5)), some (wi (nI r)), some (wi (nI v)), some (wi (nI k))] [wi (bI y), wi (nI (20 * v + k)), sl 6 46] V4 (zv K) := fun w5 y e5 ey => by
              refine w_X12_findLeft_361 sl46 ?_
              rw [n46, nI_clamp (show 20 * v + k < 2 ^ 31 by omega), nz_b]
              refine ⟨vp_in_nI (by omega) (by decide), fun V6 e6 => ?_⟩
              rw [nI_1]
              refine ih2 (k + 1) V6 w5 (by omega) (f4.trans (by rw [e6]; exact Fc_wrI ⟨rfl, Or.inl rfl⟩)) (fun u j hu hj => by rw [e6, wrI_ne (fun z => by omega)]; exact m4 u j hu hj) (fun u j hu hj => ?_) (e5.trans ⟨fun z => ?_, fun z => ?_⟩)
              · have := ((kn f4).sz hu).2.1
                by_cases c : u = v ∧ j = k
                · obtain ⟨rfl, rfl⟩ := c
                  rw [e6, wrI_at, if_pos (by omega), ey]
                · rw [e6, wrI_ne (fun z => c (by have := z.2.2; omega)), l4 u j hu hj]
                  by_cases c2 : u < v ∨ u = v ∧ j < k
                  · rw [if_pos c2, if_pos (by omega)]
                  · rw [if_neg c2, if_neg (fun z => c (by omega))]
              · rcases z with z | z
                · rcases w4'.mp z with z | ⟨u, j, a, c⟩
                  · exact Or.inl z
                  · exact Or.inr ⟨u, j, by omega, c⟩
                · exact Or.inr ⟨v, k, by omega, hk', z⟩
              · rcases z with z | ⟨u, j, a, c, c2⟩
                · exact Or.inl (w4'.mpr (Or.inl z))
                · by_cases y : u = v ∧ j = k
                  · obtain ⟨rfl, rfl⟩ := y
                    exact Or.inr c2
                  · exact Or.inl (w4'.mpr (Or.inr ⟨u, j, by omega, c, c2⟩))
            have set : ∀ w5 : Bool, (w5 = true ↔ w4 = true ∨ X v k = true ∧ meB R nt fa X r (List.range (plR R)) v k = false) → vwp E d M_X12_findLeft 311 [some (sl 6 0), some (wi (nI q)), some (wi (bI w4)), some (wi (nI r)), some (wi (nI v)), some (wi (nI k))] [wi (bI w5)] V4 (zv K) := fun w5 e5 => by
              refine w_X12_findLeft_311 ?_
              rw [i20, nI_clamp (show 20 * v + k < 2 ^ 31 by omega), e46, e47]
              refine ⟨vp_in_nI (by omega) (by decide), fun z => w_X12_findLeft_360 sl46 (next w5 false e5 ?_), fun z => ⟨vp_in_nI (by omega) (by decide), fun y => w_X12_findLeft_360 sl46 (next w5 false e5 ?_), fun y => next w5 true e5 ?_⟩⟩
              · rw [bI_0.mp z]; rfl
              · rw [bI_0.mp y, Bool.and_false]
              · rw [bI_1.mp z, bI_1.mp y]; rfl
            refine w_X12_findLeft_253 ?_
            rw [i12, nI_clamp (show 12 * q + v < 2 ^ 31 by omega), z16, i20, nI_clamp (show 20 * v + k < 2 ^ 31 by omega), e46, e47]
            refine ⟨vp_in_nI (by omega) (by decide), fun z => absurd z (nI_ge hk' (by omega)), fun _ => ⟨fun z => w_X12_findLeft_306 (set true ?_), fun z => ⟨vp_in_nI (by omega) (by decide), fun y => w_X12_findLeft_310 (set false ?_), fun y => ⟨vp_in_nI (by omega) (by decide), fun u => w_X12_findLeft_310 (set false ?_), fun u => w_X12_findLeft_306 (set true ?_)⟩⟩⟩⟩
            · exact ⟨fun _ => Or.inl (bI_1.mp z), fun _ => rfl⟩
            · rw [bI_0.mp z, bI_0.mp y]
              exact ⟨fun w => Bool.noConfusion w, fun w => w.elim id (fun w => w.1)⟩
            · rw [bI_0.mp z, bI_1.mp u]
              exact ⟨fun w => Bool.noConfusion w, fun w => w.elim id (fun w => w.2.symm)⟩
            · exact ⟨fun _ => Or.inr ⟨bI_1.mp y, bI_0.mp u⟩, fun _ => rfl⟩
        exact inner (szR R v) 0 V3 w (Nat.zero_add _) f3 m3 (fun u j hu hj => by
          rw [l3 u j hu hj]
          by_cases c : u < v
          · rw [if_pos c, if_pos (Or.inl c)]
          · rw [if_neg c, if_neg (by omega)]) (w3.trans ⟨fun z => z.imp id (fun ⟨u, j, a, c⟩ => ⟨u, j, Or.inl a, c⟩), fun z => z.imp id (fun ⟨u, j, a, c⟩ => ⟨u, j, by omega, c⟩)⟩)
    exact outer (tcR R 1) 0 V2 w0 (Nat.zero_add _) f2 m2 (fun u k hu hk' => by rw [if_neg (Nat.not_lt_zero u)]; exact l2 u k hu hk') ⟨fun z => Or.inl z, fun z => z.elim id (fun ⟨u, _, a, _⟩ => absurd a (Nat.not_lt_zero u))⟩
  -- the plans
  have plans : ∀ m p V2, p + m = plR R → Fc V V2 f46 → LfM V2 R X → (∀ v k, v < tcR R 1 → k < szR R v → vI V2 6 47 (20 * v + k) = bI (meB R nt fa X r (List.range p) v k)) → vwp E d M_X12_findLeft 154 [some (sl 6 0), some (wi (nI q)), some (wi (bI w0)), some (wi (nI r)), some (wi (nI p)), none] [] V2 (zv K) := by
    intro m
    induction m with
    | zero =>
      intro p V2 e f2 l2 m2
      have : p = plR R := by omega
      subst this
      refine w_X12_findLeft_154 (by omega) ?_
      rw [nI_clamp (show q < 2 ^ 31 by omega), (kn f2).pl]
      exact ⟨vp_in_nI q5 (by decide), fun _ => vals V2 f2 l2 m2, fun z => absurd (nI_le (Nat.le_refl _) (by omega)) z⟩
    | succ m ih =>
      intro p V2 e f2 l2 m2
      have hp : p < plR R := by omega
      have e43 : vI V2 6 43 (20000 * r + p) = brk R nt fa r p := ((kn f2).2 p hp).1 r hr
      have skip : (decide (brk R nt fa r p = 0) && ofL R X p) = false → vwp E d M_X12_findLeft 231 [some (sl 6 0), some (wi (nI q)), some (wi (bI w0)), some (wi (nI r)), some (wi (nI p)), none] [] V2 (zv K) := fun c => by
        refine w_X12_findLeft_231 ?_
        rw [nI_1]
        refine ih (p + 1) V2 (by omega) f2 l2 (fun v k hv hk' => ?_)
        rw [List.range_succ, meB_add, c, Bool.false_and, Bool.or_false]; exact m2 v k hv hk'
      refine w_X12_findLeft_154 (by omega) ?_
      rw [nI_clamp (show q < 2 ^ 31 by omega), (kn f2).pl, i20k, nI_clamp (show 20000 * r + p < 2 ^ 31 by omega), e43]
      refine ⟨vp_in_nI q5 (by decide), fun z => absurd z (nI_ge hp (by omega)), fun _ => ⟨vp_in_nI (by omega) (by decide), fun z => skip (by rw [decide_eq_false z, Bool.false_and]), fun z => c_isOfLeftM (by omega) (kn f2) l2 (by omega) ⟨fun y => skip (by rw [bI_0.mp y, Bool.and_false]), fun y => ?_⟩⟩⟩
      have y := bI_1.mp y
      have mark : ∀ s v V3, v + s = tcR R 1 → Fc V V3 f46 → LfM V3 R X → (∀ u k, u < tcR R 1 → k < szR R u → vI V3 6 47 (20 * u + k) = bI (if u < v then meB R nt fa X r (List.range p ++ [p]) u k else meB R nt fa X r (List.range p) u k)) → vwp E d M_X12_findLeft 194 [some (sl 6 0), some (wi (nI q)), some (wi (bI w0)), some (wi (nI r)), some (wi (nI p)), some (wi (nI v))] [] V3 (zv K) := by
        intro s
        induction s with
        | zero =>
          intro v V3 e f3 l3 m3
          refine w_X12_findLeft_194 (by omega) (c_vars (kn f3).sq ⟨fun _ => w_X12_findLeft_231 ?_, fun z => absurd (nI_le (by omega) (by omega)) z⟩)
          rw [nI_1]
          refine ih (p + 1) V3 (by omega) f3 l3 (fun u k hu hk' => ?_)
          rw [m3 u k hu hk', if_pos (by omega), List.range_succ]
        | succ s ih2 =>
          intro v V3 e f3 l3 m3
          have hv : v < tcR R 1 := by omega
          have s20 := ((kn f3).sz hv).2.1
          have dl : dgR R v p < szR R v := Dg_lt (kn f3).sq.pos hv
          have dl2 : Dg (szR R) (tcR R 1) v p < szR R v := dl
          refine w_X12_findLeft_194 (by omega) (c_vars (kn f3).sq ⟨fun z => absurd z (nI_ge hv (by omega)), fun _ => c_place (kn f3).sq hv (by omega) ?_⟩)
          rw [i20, nI_clamp (show 20 * v + Dg (szR R) (tcR R 1) v p < 2 ^ 31 by omega), nI_1]
          refine ⟨vp_in_nI (by omega) (by decide), fun V7 e7 => ih2 (v + 1) V7 (by omega) (f3.trans (by rw [e7]; exact Fc_wrI ⟨rfl, Or.inr rfl⟩)) (fun u k hu hk' => by rw [e7, wrI_ne (fun z => by omega)]; exact l3 u k hu hk') (fun u k hu hk' => ?_)⟩
          have := ((kn f3).sz hu).2.1
          by_cases c : u = v ∧ k = dgR R v p
          · obtain ⟨rfl, rfl⟩ := c
            rw [e7, if_pos (Nat.lt_succ_self u), meB_add, decide_eq_true z, y, decide_eq_true rfl, Bool.and_self, Bool.and_self, Bool.or_true]
            exact wrI_at.trans (nz_b true)
          · rw [e7, wrI_ne (fun z => c (by have z := z.2.2; have : dgR R v p = Dg (szR R) (tcR R 1) v p := rfl; omega)), m3 u k hu hk']
            by_cases c2 : u < v
            · rw [if_pos c2, if_pos (by omega)]
            · rw [if_neg c2]
              by_cases c3 : u < v + 1
              · have uv : u = v := by omega
                rw [if_pos c3, meB_add, decide_eq_false (p := k = dgR R u p) (fun w => c ⟨uv, by rw [w, uv]⟩), Bool.and_false, Bool.or_false]
              · rw [if_neg c3]
      exact mark (tcR R 1) 0 V2 (Nat.zero_add _) f2 l2 (fun u k hu hk' => by rw [if_neg (Nat.not_lt_zero u)]; exact m2 u k hu hk')
  have clear : ∀ m k V2, k + m = 240 → Fc V V2 f46 → LfM V2 R X → (∀ j, j < k → vI V2 6 47 j = 0) → vwp E d M_X12_findLeft 129 [some (sl 6 0), some (wi (nI q)), some (wi (bI w0)), some (wi (nI r)), some (wi (nI k)), none] [] V2 (zv K) := by
    intro m
    induction m with
    | zero =>
      intro k V2 e f2 l2 z2
      have ek : k = 240 := by omega
      subst ek
      refine w_X12_findLeft_129 ⟨fun _ => plans (plR R) 0 V2 (Nat.zero_add _) f2 l2 (fun v k hv hk' => ?_), fun z => absurd (by decide) z⟩
      have := ((kn f2).sz hv).2.1
      rw [z2 _ (by omega)]; rfl
    | succ m ih =>
      intro k V2 e f2 l2 z2
      refine w_X12_findLeft_129 ⟨fun z => absurd z (nI_ge (b := 240) (by omega) (by decide)), fun _ => ⟨vp_in_nI (by omega) (by decide), fun V3 e3 => ?_⟩⟩
      rw [nI_clamp (show k < 2 ^ 31 by omega)] at e3
      rw [nI_1]
      refine ih (k + 1) V3 (by omega) (f2.trans (by rw [e3]; exact Fc_wrI ⟨rfl, Or.inr rfl⟩)) (fun u j hu hj => by rw [e3, wrI_ne (fun z => by omega)]; exact l2 u j hu hj) (fun j hj => ?_)
      by_cases c : j = k
      · rw [c, e3, wrI_at]; exact nz_b false
      · rw [e3, wrI_ne (fun z => c z.2.2)]; exact z2 j (by omega)
  exact clear 240 0 V1 rfl f1 l1 (fun j hj => absurd hj (Nat.not_lt_zero j))
end
