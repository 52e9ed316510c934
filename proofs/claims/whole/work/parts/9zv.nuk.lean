/-! names within a rule mean something; the vars of a rule -/
/-- a name of a fact or a var -/
def nu2 (T : Nat → TK) (M : MN) (j : Nat) : Prop := (T j).1 = 1 → ∃ q, M (T j).2.1 = some q ∧ q.1 < 2
def Nk {α : Type} (T : Nat → TK) (M : MN) (i : Nat) (r : NR α) : Prop := ∀ q, r = Sum.inr q → i ≤ q.1 ∧ ∀ j, i ≤ j → j < q.1 → nu2 T M j ∧ (T j).1 ≠ 59
section
variable {T : Nat → TK} {M : MN} {α β : Type}
theorem Nk.e {i : Nat} {e : Nat × Nat} : Nk (α := α) T M i (.inl e) := fun _ z => nomatch z
theorem Nk.e' {i c p : Nat} : Nk T M i (rsE c p) := fun _ z => nomatch z
theorem Nk.o {i : Nat} {a : α} : Nk T M i (.inr (i, a)) := fun q z => by
  have := Sum.inr.inj z
  rw [← this]
  exact ⟨Nat.le_refl _, fun j h1 h2 => absurd h2 (by show ¬ j < i; omega)⟩
theorem Nk.o' {i : Nat} {C : CD} {N : List Int32} : Nk T M i (rsO i C N) := Nk.o
theorem Nk.ite {i : Nat} {c : Prop} [Decidable c] {a b : NR α} (h1 : c → Nk T M i a) (h2 : ¬ c → Nk T M i b) : Nk T M i (if c then a else b) := by
  by_cases z : c
  · rw [if_pos z]; exact h1 z
  · rw [if_neg z]; exact h2 z
theorem Nk.tok {i : Nat} {r : NR α} (h : nu2 T M i ∧ (T i).1 ≠ 59) (k : Nk T M (i + 1) r) : Nk T M i r := fun q z => by
  obtain ⟨a, b⟩ := k q z
  refine ⟨by omega, fun j h1 h2 => ?_⟩
  by_cases u : j = i
  · rw [u]; exact h
  · exact b j (by omega) h2
theorem nk_c {i c : Nat} (h : (T i).1 = c) (h1 : c ≠ 1) (h2 : c ≠ 59) : nu2 T M i ∧ (T i).1 ≠ 59 := ⟨fun z => absurd (h.symm.trans z) h1, fun z => h2 (h.symm.trans z)⟩
theorem Nk.rb {i : Nat} {r : RS} {f : Nat → CD → List Int32 → RS} (h1 : Nk T M i r) (h2 : ∀ a b c, Nk T M a (f a b c)) : Nk T M i (rsB r f) := fun q h => by
  obtain ⟨a, b, c, e1, e2⟩ := rsB_inr h
  obtain ⟨x1, x2⟩ := h1 _ e1
  obtain ⟨y1, y2⟩ := h2 a b c q e2
  refine ⟨Nat.le_trans x1 y1, fun j k1 k2 => ?_⟩
  by_cases u : j < a
  · exact x2 j k1 u
  · exact y2 j (by omega) k2
theorem Nk.nb {i : Nat} {r : NR α} {f : Nat → α → NR β} (h1 : Nk T M i r) (h2 : ∀ a b, Nk T M a (f a b)) : Nk T M i (nrB r f) := fun q h => by
  obtain ⟨a, b, e1, e2⟩ := nrB_inr h
  obtain ⟨x1, x2⟩ := h1 _ e1
  obtain ⟨y1, y2⟩ := h2 a b q e2
  refine ⟨Nat.le_trans x1 y1, fun j k1 k2 => ?_⟩
  by_cases u : j < a
  · exact x2 j k1 u
  · exact y2 j (by omega) k2
theorem vrb_nk {i : Nat} : Nk T M i (vrb T M i) := by
  unfold vrb
  refine Nk.ite (fun z => ?_) (fun _ => Nk.e)
  cases e : M (T i).2.1 with
  | none => exact Nk.e
  | some y => exact Nk.ite (fun c => Nk.tok ⟨fun _ => ⟨y, e, by omega⟩, by rw [z]; decide⟩ Nk.o) (fun _ => Nk.e)
theorem nmr_nk {sg : Bool} {lo hi i : Nat} : Nk T M i (nmr T sg lo hi i) := by
  unfold nmr
  refine Nk.ite (fun z => Nk.ite (fun _ => Nk.e) (fun _ => ?_)) (fun _ => Nk.e)
  unfold nmj at z ⊢
  by_cases c : sg = true ∧ (T i).1 = 45
  · rw [if_pos c] at z ⊢
    exact Nk.tok (nk_c c.2 (by decide) (by decide)) (Nk.tok (nk_c z (by decide) (by decide)) Nk.o)
  · rw [if_neg c] at z ⊢
    exact Nk.tok (nk_c z (by decide) (by decide)) Nk.o
theorem nms_nk {least : Nat} : ∀ (m n i : Nat), Nk T M i (nms T M least m n i) := by
  intro m
  induction m with
  | zero => intro n i; exact Nk.o
  | succ m ih =>
    intro n i
    rw [nms]
    exact Nk.nb vrb_nk (fun i1 v => Nk.ite (fun _ => Nk.o) (fun _ => Nk.ite (fun z => Nk.tok (nk_c z (by decide) (by decide)) (Nk.nb (ih _ _) (fun _ _ => Nk.o))) (fun _ => Nk.e)))
theorem ent_nk {s i : Nat} : Nk T M i (ent T M s i) := by
  unfold ent
  exact Nk.ite (fun _ => Nk.nb vrb_nk (fun _ _ => Nk.o)) (fun _ => nmr_nk)
theorem grp_nk {sh : Nat → Nat} : ∀ (m j i : Nat), Nk T M i (grp T M sh m j i) := by
  intro m
  induction m with
  | zero => intro j i; exact Nk.o
  | succ m ih =>
    intro j i
    rw [grp]
    refine Nk.ite (fun z => Nk.tok ?_ (Nk.nb ent_nk (fun i1 x => Nk.nb (ih _ _) (fun _ _ => Nk.o)))) (fun _ => Nk.e)
    by_cases c : j = 0
    · rw [if_pos c] at z; exact nk_c z (by decide) (by decide)
    · rw [if_neg c] at z; exact nk_c z (by decide) (by decide)
theorem grs_nk {sh : Nat → Nat} {wide : Nat} : ∀ (m i : Nat), Nk T M i (grs T M sh wide m i) := by
  intro m
  induction m with
  | zero => intro i; exact Nk.o
  | succ m ih =>
    intro i
    rw [grs]
    refine Nk.nb (grp_nk _ _ _) (fun i1 xs => Nk.ite (fun z => Nk.tok (nk_c z (by decide) (by decide)) (Nk.ite (fun _ => Nk.o) (fun y => Nk.tok ?_ (Nk.nb (ih _) (fun _ _ => Nk.o))))) (fun _ => Nk.e))
    have : (T (i1 + 1)).1 = 44 := by
      by_cases c : (T (i1 + 1)).1 = 44
      · exact c
      · exact absurd (Or.inr c) y
    exact nk_c this (by decide) (by decide)
theorem nls_nk {sg : Bool} {top : Nat} : ∀ (m i : Nat), Nk T M i (nls T sg top m i) := by
  intro m
  induction m with
  | zero => intro i; exact Nk.o
  | succ m ih =>
    intro i
    rw [nls]
    refine Nk.nb nmr_nk (fun i1 x => Nk.ite (fun _ => Nk.o) (fun y => Nk.tok ?_ (Nk.nb (ih _) (fun _ _ => Nk.o))))
    have : (T i1).1 = 44 := by
      by_cases c : (T i1).1 = 44
      · exact c
      · exact absurd (Or.inr c) y
    exact nk_c this (by decide) (by decide)
theorem lst_nk {w i : Nat} : Nk T M i (lst T M w i) := by
  unfold lst
  have c58 : ∀ {i1 : Nat} {r : NR (List Int32)}, Nk T M (i1 + 1) r → Nk T M i1 (if (T i1).1 = 58 then r else .inl (rfe T i1)) := fun k => Nk.ite (fun z => Nk.tok (nk_c z (by decide) (by decide)) k) (fun _ => Nk.e)
  exact Nk.ite (fun _ => Nk.nb (grs_nk _ _) (fun _ _ => Nk.o)) (fun _ => Nk.ite (fun _ => Nk.nb nmr_nk (fun i1 x => c58 (Nk.nb (grs_nk _ _) (fun _ _ => Nk.o)))) (fun _ => Nk.nb (nms_nk _ _ _) (fun i1 vs => Nk.ite (fun _ => Nk.o) (fun _ => c58 (Nk.ite (fun _ => Nk.nb (nms_nk _ _ _) (fun _ _ => Nk.o)) (fun _ => Nk.ite (fun _ => Nk.nb (grs_nk _ _) (fun _ _ => Nk.o)) (fun _ => Nk.nb (grs_nk _ _) (fun i2 q => c58 (Nk.nb (nls_nk _ _) (fun _ _ => Nk.o))))))))))
theorem Nk.cl {i c : Nat} {r : RS} (h1 : c ≠ 1) (h2 : c ≠ 59) (k : Nk T M (i + 1) r) : Nk T M i (if (T i).1 = c then r else .inl (rfe T i)) := Nk.ite (fun z => Nk.tok (nk_c z h1 h2) k) (fun _ => Nk.e)
theorem prq_nk {r : Nat → Nat → Nat → Nat → Nat → RS} (hr : ∀ a b c e g, Nk T M e (r a b c e g)) {tag x o i nb : Nat} : Nk T M i (prq T M r tag x o i nb) := by
  unfold prq
  refine Nk.ite (fun _ => ?_) (fun _ => Nk.ite (fun _ => ?_) (fun _ => Nk.ite (fun _ => ?_) (fun _ => Nk.ite (fun _ => ?_) (fun _ => ?_))))
  · exact Nk.rb (hr _ _ _ _ _) (fun i1 C1 N1 => Nk.ite (fun z => Nk.ite (fun _ => Nk.e') (fun _ => Nk.tok (nk_c z (by decide) (by decide)) (Nk.rb (hr _ _ _ _ _) (fun _ _ _ => Nk.o')))) (fun _ => Nk.o'))
  · refine Nk.ite (fun z => Nk.ite (fun _ => Nk.e') (fun _ => Nk.tok (nk_c z (by decide) (by decide)) (Nk.rb (hr _ _ _ _ _) (fun _ _ _ => Nk.o')))) (fun _ => Nk.ite (fun z => Nk.ite (fun _ => Nk.e') (fun _ => Nk.tok (nk_c z (by decide) (by decide)) (Nk.rb (hr _ _ _ _ _) (fun i1 C N => Nk.cl (by decide) (by decide) Nk.o')))) (fun _ => Nk.ite (fun z => ?_) (fun _ => Nk.rb (hr _ _ _ _ _) (fun i1 C1 N1 => ?_))))
    · unfold spc
      refine Nk.ite (fun y => Nk.tok ⟨fun w => by omega, by omega⟩ (Nk.tok (nk_c y (by decide) (by decide)) (Nk.nb lst_nk (fun i1 N => Nk.cl (by decide) (by decide) Nk.o')))) (fun _ => Nk.e)
    · cases e : rlo (T i1).1 with
      | none => exact Nk.e
      | some op => exact Nk.tok ⟨fun z => by rw [z, show rlo 1 = none from rfl] at e; exact absurd e (by simp), fun z => by rw [z, show rlo 59 = none from rfl] at e; exact absurd e (by simp)⟩ (Nk.rb (hr _ _ _ _ _) (fun _ _ _ => Nk.o'))
  · refine Nk.ite (fun z => ?_) (fun _ => Nk.ite (fun z => Nk.tok (nk_c z (by decide) (by decide)) Nk.o') (fun _ => Nk.ite (fun z => Nk.ite (fun _ => Nk.e') (fun _ => Nk.tok (nk_c z (by decide) (by decide)) (Nk.rb (hr _ _ _ _ _) (fun _ _ _ => Nk.o')))) (fun _ => Nk.ite (fun z => Nk.ite (fun _ => Nk.e') (fun _ => Nk.tok (nk_c z (by decide) (by decide)) (Nk.rb (hr _ _ _ _ _) (fun i1 C N => Nk.cl (by decide) (by decide) Nk.o')))) (fun _ => Nk.ite (fun z => Nk.ite (fun _ => Nk.e') (fun _ => Nk.tok (nk_c z (by decide) (by decide)) (Nk.rb (hr _ _ _ _ _) (fun i1 C N => Nk.cl (by decide) (by decide) Nk.o')))) (fun _ => Nk.ite (fun z => ?_) (fun _ => Nk.e))))))
    · cases e : M (T i).2.1 with
      | none => exact Nk.e'
      | some y =>
        have k : y.1 < 2 → nu2 T M i ∧ (T i).1 ≠ 59 := fun c => ⟨fun _ => ⟨y, e, c⟩, by rw [z]; decide⟩
        exact Nk.ite (fun c => Nk.tok (k (by omega)) Nk.o') (fun _ => Nk.ite (fun c => Nk.tok (k (by omega)) Nk.o') (fun _ => Nk.e'))
    · refine Nk.ite (fun y => Nk.ite (fun _ => Nk.e') (fun _ => Nk.tok ⟨fun w => by omega, by omega⟩ (Nk.tok (nk_c y (by decide) (by decide)) (Nk.rb (hr _ _ _ _ _) (fun i1 C1 N1 => Nk.ite (fun _ => Nk.cl (by decide) (by decide) Nk.o') (fun _ => Nk.ite (fun _ => Nk.ite (fun w => Nk.tok (nk_c w (by decide) (by decide)) (Nk.nb (nls_nk _ _) (fun i2 xs => Nk.cl (by decide) (by decide) Nk.o'))) (fun _ => Nk.e)) (fun _ => Nk.rb (hr _ _ _ _ _) (fun i2 C2 N2 => Nk.cl (by decide) (by decide) Nk.o')))))))) (fun _ => Nk.e)
  · exact Nk.rb (hr _ _ _ _ _) (fun i1 C1 N1 => Nk.rb (hr _ _ _ _ _) (fun _ _ _ => Nk.o'))
  · have l1 : ∀ t, lpo t 1 = none := fun t => by unfold lpo; simp
    have l59 : ∀ t, lpo t 59 = none := fun t => by unfold lpo; simp
    cases e : lpo tag (T i).1 with
    | none => exact Nk.o'
    | some op => exact Nk.ite (fun _ => Nk.tok ⟨fun z => by rw [z, l1] at e; exact absurd e (by simp), fun z => by rw [z, l59] at e; exact absurd e (by simp)⟩ (Nk.rb (hr _ _ _ _ _) (fun i1 C1 N1 => Nk.rb (hr _ _ _ _ _) (fun _ _ _ => Nk.o')))) (fun _ => Nk.o')
theorem prz_nk : ∀ (f tag x o i nb : Nat), Nk T M i (prz T M f tag x o i nb) := by
  intro f
  induction f with
  | zero => intro tag x o i nb; exact Nk.e'
  | succ f ih => intro tag x o i nb; exact prq_nk ih
end
/-- the vars of a rule -/
def svK (T : Nat → TK) (M : MN) (r : SR) : Prop := (T r.i1).1 = 59 ∧ r.sv = svx T M r.b r.i1 ∧ r.b ≤ r.i1 ∧ ∀ j, r.b ≤ j → j < r.i1 → nu2 T M j ∧ (T j).1 ≠ 59
section
variable {T : Nat → TK} {M M' : MN} {F L : Nat}
theorem nu2.mo {j : Nat} (h : nu2 T M j) (k : MLe M M') : nu2 T M' j := fun z => by
  obtain ⟨q, e, l⟩ := h z
  exact ⟨q, k _ _ e, l⟩
theorem vbt_mo {j : Nat} (h : nu2 T M j) (k : MLe M M') : vbt T M' j = vbt T M j := by
  unfold vbt
  by_cases c : (T j).1 = 1
  · rw [if_pos c, if_pos c]
    cases e : M (T j).2.1 with
    | none => obtain ⟨q, e', _⟩ := h c; rw [e] at e'; exact absurd e' (by simp)
    | some y => rw [k _ _ e]
  · rw [if_neg c, if_neg c]
theorem vsb_mo (k : MLe M M') {i : Nat} : ∀ m, (∀ j, i ≤ j → j < i + m → nu2 T M j) → vsb T M' i m = vsb T M i m := by
  intro m
  induction m with
  | zero => intro _; rw [vsb, vsb]
  | succ m ih => intro h; rw [vsb, vsb, ih (fun j h1 h2 => h j h1 (by omega)), vbt_mo (h (i + m) (by omega) (by omega)) k]
theorem svK.mo {r : SR} (h : svK T M r) (k : MLe M M') : svK T M' r := by
  obtain ⟨a, b, c, e⟩ := h
  refine ⟨a, ?_, c, fun j h1 h2 => ⟨(e j h1 h2).1.mo k, (e j h1 h2).2⟩⟩
  rw [b]
  unfold svx
  rw [vsb_mo k _ (fun j h1 h2 => (e j h1 (by omega)).1)]
theorem stB_sv {R : List SR} {kd tag i : Nat} {vs : List Int32} {i3 : Nat} {q : Nat × SR} (h : stB T R F kd tag i vs i3 = .inr q) : svK T (MR R) q.2 := by
  unfold stB at h
  by_cases c : (T i3).1 = 58
  · rw [if_pos c] at h
    cases e : prz T (MR R) F tag 0 0 (i3 + 1) (nbR R) with
    | inl y => rw [e] at h; exact nomatch h
    | inr y =>
      rw [e] at h
      dsimp only at h
      by_cases c2 : (T y.1).1 = 59
      · rw [if_pos c2] at h
        have := Sum.inr.inj h
        rw [← this]
        obtain ⟨k1, k2⟩ := prz_nk _ _ _ _ _ _ y e
        exact ⟨c2, rfl, k1, k2⟩
      · rw [if_neg c2] at h; exact nomatch h
  · rw [if_neg c] at h; exact nomatch h
theorem stm_sv {R : List SR} {i : Nat} {q : Nat × SR} (h : stm T R F i = .inr q) (hk : q.2.kd = 2) : svK T (MR R) q.2 := by
  unfold stm at h
  by_cases c0 : (T i).1 = 300
  · rw [if_pos c0] at h
    obtain ⟨i1, _, h⟩ := nxB_inr h
    by_cases c : (T i1).1 = 61
    · rw [if_pos c] at h
      obtain ⟨i2, x, _, h⟩ := nrB_inr h
      by_cases c2 : (T i2).1 = 59
      · rw [if_pos c2] at h
        have := Sum.inr.inj h
        rw [← this] at hk
        exact absurd (show (0 : Nat) = 2 from hk) (by decide)
      · rw [if_neg c2] at h; exact nomatch h
    · rw [if_neg c] at h; exact nomatch h
  · rw [if_neg c0] at h
    by_cases c1 : (T i).1 = 301
    · rw [if_pos c1] at h
      obtain ⟨i1, _, h⟩ := nxB_inr h
      by_cases c : (T i1).1 = 302
      · rw [if_pos c] at h
        obtain ⟨i2, vs, _, h⟩ := nrB_inr h
        by_cases c2 : (T i2).1 = 59
        · rw [if_pos c2] at h
          by_cases c3 : 20 < vs.length ∨ 20000 < plR R * vs.length
          · rw [if_pos c3] at h; exact nomatch h
          · rw [if_neg c3] at h
            have := Sum.inr.inj h
            rw [← this] at hk
            exact absurd (show (1 : Nat) = 2 from hk) (by decide)
        · rw [if_neg c2] at h; exact nomatch h
      · rw [if_neg c] at h; exact nomatch h
    · rw [if_neg c1] at h
      by_cases c3 : (T i).1 = 303
      · rw [if_pos c3] at h
        obtain ⟨i1, _, h⟩ := nxB_inr h
        by_cases c : (T i1).1 = 304
        · rw [if_pos c] at h
          obtain ⟨i2, x, _, h⟩ := nrB_inr h
          by_cases c4 : x = 0 ∧ 12 ≤ hdR R
          · rw [if_pos c4] at h; exact nomatch h
          · rw [if_neg c4] at h
            by_cases c5 : (T i2).1 = 42
            · rw [if_pos c5] at h
              obtain ⟨i3, w, _, h⟩ := nrB_inr h
              exact stB_sv h
            · rw [if_neg c5] at h; exact nomatch h
        · rw [if_neg c] at h; exact nomatch h
      · rw [if_neg c3] at h
        by_cases c5 : (T i).1 = 305
        · rw [if_pos c5] at h
          obtain ⟨i1, _, h⟩ := nxB_inr h
          by_cases c : (T i1).1 = 304
          · rw [if_pos c] at h
            obtain ⟨i2, x, _, h⟩ := nrB_inr h
            exact stB_sv h
          · rw [if_neg c] at h; exact nomatch h
        · rw [if_neg c5] at h; exact nomatch h
theorem rdl_sv (hT : TL T L) (hF : 8 * L + 7 < F) : ∀ (m : Nat) (R : List SR) (i : Nat) (q : Nat × List SR), (∀ r, r ∈ R → r.kd = 2 → svK T (MR R) r) → WR T F L R i → rdl T F m R i = .inr q → ∀ r, r ∈ q.2 → r.kd = 2 → svK T (MR q.2) r := by
  intro m
  induction m with
  | zero => intro R i q _ _ h; exact nomatch h
  | succ m ih =>
    intro R i q hR hW h
    rw [rdl] at h
    by_cases c : R ≠ [] ∧ (T i).1 = 0
    · rw [if_pos c] at h
      have := Sum.inr.inj h
      rw [← this]
      exact hR
    · rw [if_neg c] at h
      obtain ⟨i1, r, e, h⟩ := nrB_inr h
      obtain ⟨w1, w2, _, _, _⟩ := stm_wr hT hF hW e
      refine ih (R ++ [r]) i1 q (fun r' hr' k => ?_) w1 h
      have le : MLe (MR R) (MR (R ++ [r])) := MR_le hW.2.1 w2
      rcases List.mem_append.mp hr' with z | z
      · exact (hR r' z k).mo le
      · have : r' = r := List.mem_singleton.mp z
        rw [this] at k ⊢
        exact (stm_sv e k).mo le
theorem PrS.sv {t : Nat → Int32} {n : Nat} {R : List SR} {nt : Nat → Int32} (hs : PrS t n R nt) {k : Nat} (hk : k < tcR R 2) : svK (tkT t n) (MR R) (gtR R 2 k) := by
  obtain ⟨hT, hL⟩ := hs.L
  have ff : FF = 160008 := rfl
  have e := hs.2.1
  unfold rdx at e
  cases w : rdl (tkT t n) FF (n + 1) [] 0 with
  | inl y => rw [w] at e; exact nomatch e
  | inr y =>
    rw [w] at e
    dsimp only at e
    by_cases c : tcR y.2 1 = 0 ∨ 20000000 < plR y.2 * y.1
    · rw [if_pos c] at e; exact nomatch e
    · rw [if_neg c] at e
      have ey := Sum.inr.inj e
      have := rdl_sv hT (by omega) _ _ _ _ (fun r hr => absurd hr (List.not_mem_nil)) WR_nil w
      rw [ey] at this
      obtain ⟨m1, m2⟩ := gtR_mem (s := 2) hk
      exact this _ m1 m2
end
