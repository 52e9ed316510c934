/-! the reference reads statements: names, facts -/
/-- cells that reading statements of problem p changes -/
def mtS (p : Nat) : Nat → Nat → Nat → Prop := fun a f j => a = 6 ∧ (f = 0 ∧ (40 ≤ j ∧ j ≤ 46 ∨ j = 48 ∨ j = 50 ∨ j = 51) ∨ (f = 5 ∨ f = 6 ∨ f = 7 ∨ f = 8) ∧ 20000 * p ≤ j ∧ j < 20000 * p + 20000 ∨ (f = 9 ∨ f = 11 ∨ f = 22 ∨ f = 23) ∧ j = p ∨ f = 10 ∧ 64 * p ≤ j ∧ j < 64 * p + 64 ∨ (f = 12 ∨ f = 13) ∧ 96 * p ≤ j ∧ j < 96 * p + 96 ∨ f = 14 ∧ 4 * p ≤ j ∧ j < 4 * p + 4 ∨ f = 15 ∧ 16 * p ≤ j ∧ j < 16 * p + 16 ∨ (f = 16 ∨ f = 19 ∨ f = 20 ∨ f = 21) ∧ 12 * p ≤ j ∧ j < 12 * p + 12 ∨ f = 18 ∧ 240 * p ≤ j ∧ j < 240 * p + 240 ∨ (f = 24 ∨ f = 25 ∨ f = 26) ∧ 24 * p ≤ j ∧ j < 24 * p + 24 ∨ (f = 27 ∨ f = 28) ∧ 6 * p ≤ j ∧ j < 6 * p + 6 ∨ f = 34)
/-- cells that reading changes where something is wrong -/
def mfS (p : Nat) : Nat → Nat → Nat → Prop := fun a f j => a = 6 ∧ (f = 0 ∧ (40 ≤ j ∧ j ≤ 46 ∨ j = 48 ∨ j = 50 ∨ j = 51) ∨ (f = 5 ∨ f = 6 ∨ f = 7 ∨ f = 8) ∧ 20000 * p ≤ j ∧ j < 20000 * p + 20000 ∨ (f = 9 ∨ f = 11) ∧ j = p ∨ f = 10 ∧ 64 * p ≤ j ∧ j < 64 * p + 64 ∨ f = 34)
theorem mfS_mt {p a f j : Nat} (h : mfS p a f j) : mtS p a f j := by
  obtain ⟨h1, h2⟩ := h
  refine ⟨h1, ?_⟩
  rcases h2 with h2 | h2 | ⟨h2, h3⟩ | h2 | h2
  · exact Or.inl h2
  · exact Or.inr (Or.inl h2)
  · exact Or.inr (Or.inr (Or.inl ⟨by omega, h3⟩))
  · exact Or.inr (Or.inr (Or.inr (Or.inl h2)))
  · omega
theorem mrS_mf {p i a f j : Nat} (h : mrS p i a f j) : mfS p a f j := by
  obtain ⟨h1, h2⟩ := h
  refine ⟨h1, ?_⟩
  rcases h2 with ⟨a, b⟩ | ⟨a, b, c⟩ | ⟨a, b⟩
  · exact Or.inl ⟨a, by omega⟩
  · exact Or.inr (Or.inl ⟨a, by omega, c⟩)
  · exact Or.inr (Or.inr (Or.inl ⟨Or.inl a, b⟩))
def tlS (p : Nat) : Nat → Nat → Nat → Prop := fun a f j => a = 6 ∧ ((f = 12 ∨ f = 13) ∧ 96 * p ≤ j ∧ j < 96 * p + 96 ∨ f = 14 ∧ 4 * p ≤ j ∧ j < 4 * p + 4)
theorem tlS_mt {p a f j : Nat} (h : tlS p a f j) : mtS p a f j := by
  obtain ⟨h1, h2⟩ := h
  refine ⟨h1, ?_⟩
  rcases h2 with ⟨a, b⟩ | ⟨a, b⟩
  · exact Or.inr (Or.inr (Or.inr (Or.inr (Or.inl ⟨a, b⟩))))
  · exact Or.inr (Or.inr (Or.inr (Or.inr (Or.inr (Or.inl ⟨a, b⟩)))))
/-- something is wrong -/
def Wrg (V : VH) (e : Nat × Nat) : Prop := vI V 6 0 45 = nI e.1 ∧ 1 ≤ e.1 ∧ e.1 < 100 ∧ vI V 6 0 46 = nI e.2
theorem Wrg.dead {V : VH} {e : Nat × Nat} (h : Wrg V e) : ¬ vI V 6 0 45 = 0 := fun z => by
  rw [h.1] at z
  have := (nI_eq (b := 0) (by have := h.2.2.1; omega) (by decide)).mp z
  have := h.2.1
  omega
/-- what the reference has of a problem's statements -/
def MDb (V : VH) (p : Nat) (R : List SR) : Prop :=
  (∀ k, k < tcR R 0 → vI V 6 15 (16 * p + k) = fcR R k) ∧ (∀ v, v < tcR R 1 → vI V 6 16 (12 * p + v) = nI (szR R v) ∧ vI V 6 19 (12 * p + v) = 0 ∧ vI V 6 20 (12 * p + v) = 1 ∧ vI V 6 21 (12 * p + v) = 0 ∧ ∀ k, k < szR R v → vI V 6 18 (20 * (12 * p + v) + k) = vlR R v k)
  ∧ (∀ k, k < tcR R 2 → vI V 6 24 (24 * p + k) = lvR R k ∧ vI V 6 25 (24 * p + k) = wtR R k ∧ vI V 6 26 (24 * p + k) = nI (20000 * p + (gtR R 2 k).b)) ∧ ∀ k, k < tcR R 3 → vI V 6 27 (6 * p + k) = alR R k ∧ vI V 6 28 (6 * p + k) = nI (20000 * p + (gtR R 3 k).b)
def MDt (V : VH) (p : Nat) (R : List SR) : Prop := MDb V p R ∧ vI V 6 22 p = nI (plR R) ∧ vI V 6 23 p = nI (hdR R)
/-- the reference's text -/
def TxM (V : VH) (p : Nat) (t : Nat → Int32) (n : Nat) : Prop := ∀ i, i < n → bt (vI V 6 3) (20000 * p + i) = bt t i
section
variable {E : EE} {d : Nat} {V V' : VH} {p : Nat} {t : Nat → Int32} {n : Nat} {tc tc' : Nat → Nat} {nm nm' : Nat → Nat → Int64} {i o : Nat} {R : List SR} {r : SR} {F : Nat}
theorem MO.wrg {e : Nat × Nat} (h : MO V V' p t n tc nm o i (.inl e)) : Wrg V' e := h.2
theorem MO.mt {x : (Nat × Nat) ⊕ Nat} (h : MO V V' p t n tc nm o i x) : Fc V V' (mfS p) := h.1.mono (fun a f j z => mrS_mf z)
/-- other cells change; names may -/
theorem MZ.gen {S : Nat → Nat → Nat → Prop} (h : MZ V p t n tc nm i o) (k : Fc V V' S) (q : ∀ f j, S 6 f j → f ≠ 1 ∧ f ≠ 3 ∧ (f = 9 → j ≠ p) ∧ (f = 0 → 49 ≤ j)) (hn : NmM V' p tc' nm') : MZ V' p t n tc' nm' i o := by
  have i0 : ∀ j, j < 49 → vI V' 6 0 j = vI V 6 0 j := fun j hj => k.i (fun z => by have := q _ _ z; omega)
  have r1 : vI V' 6 1 = vI V 6 1 := funext fun j => k.i (fun z => by have := q _ _ z; omega)
  have r3 : vI V' 6 3 = vI V 6 3 := funext fun j => k.i (fun z => by have := q _ _ z; omega)
  obtain ⟨⟨⟨a1, a2, a3⟩, a4, a5, _⟩, b1, ⟨c1, c2, c3, c4, c5⟩, b2, b3, b4, b5⟩ := h
  refine ⟨⟨⟨by rw [i0 39 (by omega)]; exact a1, a2, by rw [i0 37 (by omega), i0 38 (by omega), r1, r3]; exact a3⟩, by rw [i0 47 (by omega)]; exact a4, a5, hn⟩, by rw [i0 45 (by omega)]; exact b1, ⟨by rw [i0 40 (by omega)]; exact c1, by rw [i0 41 (by omega)]; exact c2, by rw [i0 43 (by omega)]; exact c3, by rw [i0 44 (by omega)]; exact c4, fun z => by rw [i0 42 (by omega)]; exact c5 z⟩, b2, by rw [k.i (fun z => by have := q _ _ z; omega)]; exact b3, by rw [i0 48 (by omega)]; exact b4, b5⟩
theorem KR.mo {T : Nat → TK} {M M' : MN} {j : Nat} (h : KR V p T M j) (k : MLe M M') : KR V p T M' j := by
  obtain ⟨a, b, c, e, u⟩ := h
  have key : (T j).1 = 1 → M' (T j).2.1 = M (T j).2.1 := fun z => by
    cases w : M (T j).2.1 with
    | none => exact absurd w (u z)
    | some q => exact k _ _ w
  refine ⟨a, ?_, c, e, fun z => by rw [key z]; exact u z⟩
  rw [b]
  unfold nuv
  by_cases z : (T j).1 = 1
  · rw [if_pos z, if_pos z, key z]
  · rw [if_neg z, if_neg z]
theorem Kpt.mo {T : Nat → TK} {M M' : MN} {a b : Nat} (h : Kpt V p T M a b) (k : MLe M M') : Kpt V p T M' a b := fun j h1 h2 => (h j h1 h2).mo k
theorem Kpt.ex {T : Nat → TK} {M : MN} {a b : Nat} (h : Kpt V p T M a b) (k : ∀ f j, f = 5 ∨ f = 6 ∨ f = 7 ∨ f = 8 → a ≤ j → j < b → vI V' 6 f (20000 * p + j) = vI V 6 f (20000 * p + j)) : Kpt V' p T M a b := fun j h1 h2 => by
  obtain ⟨x1, x2, x3, x4, x5⟩ := h j h1 h2
  exact ⟨by rw [k 5 j (by omega) h1 h2]; exact x1, by rw [k 6 j (by omega) h1 h2]; exact x2, by rw [k 7 j (by omega) h1 h2]; exact x3, by rw [k 8 j (by omega) h1 h2]; exact x4, x5⟩
theorem TxM.fc {S : Nat → Nat → Nat → Prop} (h : TxM V p t n) (k : Fc V V' S) (q : ∀ j, ¬ S 6 3 j) : TxM V' p t n := fun i hi => by
  have r3 : vI V' 6 3 = vI V 6 3 := funext fun j => k.i (q j)
  rw [r3]; exact h i hi
/-- a name is told -/
theorem c_tellM {s a l : Nat} {K : Int32 → VH → Prop} (h47 : vI V 6 0 47 = nI p) (hp : p < 5) (hN : NmM V p tc nm) (hs : s < 4) (hc : tc s < 24) (h50 : vI V 6 0 50 = nI a) (h51 : vI V 6 0 51 = nI l) (hl : 1 ≤ l ∧ l ≤ 8 ∧ a + l ≤ 20000) (hkey : nm' s (tc s) = nL (pkb (bf (vI V 6 3) (20000 * p + a)) l)) (hA : ∀ j, j < l → isA (bt (vI V 6 3) (20000 * p + a + j)) = true) (h1 : tc' s = tc s + 1) (h2 : ∀ u, u ≠ s → tc' u = tc u) (h4 : ∀ u k, k < tc u → nm' u k = nm u k) (hk : ∀ V', Fc V V' (tlS p) → NmM V' p tc' nm' → K (nI (tc s)) V') : vMI E d M_X12_tell [sl 6 0, wi (nI s)] V K := by
  obtain ⟨c1, c2⟩ := hN.1 s hs
  have e4 : (4 : Int32) * nI p + nI s = nI (4 * p + s) := by rw [show (4 : Int32) = nI 4 from rfl, nI_mul, nI_add]
  have e96 : (96 : Int32) * nI p + 24 * nI s + nI (tc s) = nI (96 * p + 24 * s + tc s) := by rw [show (96 : Int32) = nI 96 from rfl, show (24 : Int32) = nI 24 from rfl, nI_mul, nI_mul, nI_add, nI_add]
  refine w_X12_tell_0 ?_
  rw [h47, e4, nI_clamp (show 4 * p + s < 2 ^ 31 by omega), c1, e96, nI_clamp (show 96 * p + 24 * s + tc s < 2 ^ 31 by omega), h50]
  refine ⟨vp_in_nI (by omega) (by decide), vp_in_nI (by omega) (by decide), fun V3 e3 => ?_⟩
  have a3 : vI V3 6 0 47 = nI p := by rw [e3, wrI_ne (fun z => by omega)]; exact h47
  have b3 : vI V3 6 0 51 = nI l := by rw [e3, wrI_ne (fun z => by omega)]; exact h51
  rw [a3, e96, nI_clamp (show 96 * p + 24 * s + tc s < 2 ^ 31 by omega), b3]
  refine ⟨vp_in_nI (by omega) (by decide), fun V5 e5 => ?_⟩
  have a5 : vI V5 6 0 47 = nI p := by rw [e5, wrI_ne (fun z => by omega)]; exact a3
  have c5 : vI V5 6 14 (4 * p + s) = nI (tc s) := by rw [e5, wrI_ne (fun z => by omega), e3, wrI_ne (fun z => by omega)]; exact c1
  rw [a5, e4, nI_clamp (show 4 * p + s < 2 ^ 31 by omega), c5, nI_1]
  refine ⟨vp_in_nI (by omega) (by decide), vp_in_nI (by omega) (by decide), fun V8 e8 => hk V8 ?_ ?_⟩
  · rw [e8, e5, e3]
    exact ((Fc_wrI ⟨rfl, Or.inl ⟨Or.inl rfl, by omega, by omega⟩⟩).trans (Fc_wrI ⟨rfl, Or.inl ⟨Or.inr rfl, by omega, by omega⟩⟩)).trans (Fc_wrI ⟨rfl, Or.inr ⟨rfl, by omega, by omega⟩⟩)
  · have r3 : vI V8 6 3 = vI V 6 3 := funext fun j => by rw [e8, wrI_ne (fun z => by omega), e5, wrI_ne (fun z => by omega), e3, wrI_ne (fun z => by omega)]
    refine ⟨fun u hu => ?_, fun u hu k hku => ?_⟩
    · by_cases z : u = s
      · subst z; rw [e8, wrI_at, h1]; exact ⟨rfl, by omega⟩
      · rw [e8, wrI_ne (fun y => by omega), e5, wrI_ne (fun y => by omega), e3, wrI_ne (fun y => by omega), h2 u z]; exact hN.1 u hu
    · rw [r3]
      by_cases z : u = s ∧ k = tc s
      · obtain ⟨z1, z2⟩ := z
        subst z1; subst z2
        exact ⟨a, l, by rw [e8, wrI_ne (fun y => by omega), e5, wrI_ne (fun y => by omega), e3, wrI_at], by rw [e8, wrI_ne (fun y => by omega), e5, wrI_at], hl.1, hl.2.1, hl.2.2, hkey, hA⟩
      · have lk : k < tc u := by
          by_cases y : u = s
          · subst y
            rw [h1] at hku
            have : k ≠ tc u := fun w => z ⟨rfl, w⟩
            omega
          · rw [h2 u y] at hku; exact hku
        have lu := (hN.1 u hu).2
        have ne : ¬ (96 * p + 24 * u + k = 96 * p + 24 * s + tc s) := fun y => z (by omega)
        obtain ⟨a', l', x1, x2, x3, x4, x5, x6, x7⟩ := hN.2 u hu k lk
        exact ⟨a', l', by rw [e8, wrI_ne (fun y => by omega), e5, wrI_ne (fun y => by omega), e3, wrI_ne (fun y => ne y.2.2)]; exact x1, by rw [e8, wrI_ne (fun y => by omega), e5, wrI_ne (fun y => ne y.2.2), e3, wrI_ne (fun y => by omega)]; exact x2, x3, x4, x5, (h4 u k lk).trans x6, x7⟩
/-- behind a new name -/
def NwM (V V' : VH) (p : Nat) (t : Nat → Int32) (n : Nat) (R : List SR) (s i o : Nat) : Prop := Fc V V' (mfS p) ∧ MZ V' p t n (tcR R) (nmR R) (i + 1) o ∧ (vI V' 6 5 (20000 * p + i) = nI (tkT t n i).1 ∧ vI V' 6 6 (20000 * p + i) = nI (100 * s + tcR R s) ∧ vI V' 6 7 (20000 * p + i) = nI (tkT t n i).f ∧ vI V' 6 8 (20000 * p + i) = nI (tkT t n i).e) ∧ (∀ f j, f = 5 ∨ f = 6 ∨ f = 7 ∨ f = 8 → j < 20000 * p + i → vI V' 6 f j = vI V 6 f j) ∧ vI V' 6 0 50 = nI (tkT t n i).f ∧ vI V' 6 0 51 = nI ((tkT t n i).e - (tkT t n i).f) ∧ (∀ f j, 10 ≤ f → vI V' 6 f j = vI V 6 f j)
theorem ms_newName {s most : Nat} {K : VH → Prop} (hF : eFr E) (h0 : 9 < d) (h : MZ V p t n (tcR R) (nmR R) i o) (hs : s < 4) (hm : most ≤ 24) (hle : tcR R s ≤ most) (he : ∀ e, nwn (tkT t n) R s most i = .inl e → ∀ V', Fc V V' (mfS p) → Wrg V' e → K V') (hy : nwn (tkT t n) R s most i = .inr (i + 1) → ∀ V', NwM V V' p t n R s i o → K V') : vMV E d M_X12_newName [sl 6 0, wi (nI s), wi (nI most)] V K := by
  obtain ⟨t1, t2, t3, t4⟩ := h.tok
  have hp := h.1.2.2.1
  have h47 := h.1.2.1
  have e1 := h.is 1 (by decide)
  refine w_X12_newName_0 (by omega) ⟨fun _ => ⟨fun q => ?_, fun q => ms_failHere (by omega) h (fun V' m => he _ (by unfold nwn; rw [if_neg (fun z => q (e1.mpr z))]) V' m.mt m.wrg)⟩, fun q => absurd h.2.1 q⟩
  have c1 := e1.mp q
  have en : nwn (tkT t n) R s most i = (if MR R (tkT t n i).2.1 = none then (if most ≤ tcR R s then .inl (6, (tkT t n i).f) else .inr (i + 1)) else .inl (3, (tkT t n i).f)) := by unfold nwn; rw [if_pos c1]
  refine ms_meaning (by omega) h c1 ?_
  cases w : lku (tcR R) (nmR R) (tkT t n i).2.1 with
  | some q2 =>
    have w' : MR R (tkT t n i).2.1 = some q2 := w
    rw [if_neg (fun z => by rw [w'] at z; exact nomatch z)] at en
    obtain ⟨l1, l2, l3⟩ := mn_lt w h.1.2.2.2
    exact ⟨fun z => absurd z (nI_pos (show 100 * q2.1 + q2.2 < 2 ^ 31 by omega)), fun _ => ms_fail h rfl t2 (by decide) (by decide) (fun V' m => he _ en V' m.mt m.wrg)⟩
  | none =>
    have w' : MR R (tkT t n i).2.1 = none := w
    rw [if_pos w'] at en
    refine ⟨fun _ => ?_, fun z => absurd (show (-1 : Int32) < 0 by decide) z⟩
    have e4 : (4 : Int32) * nI p + nI s = nI (4 * p + s) := by rw [show (4 : Int32) = nI 4 from rfl, nI_mul, nI_add]
    obtain ⟨cN, cN2⟩ := h.1.2.2.2.1 s hs
    rw [h47, e4, nI_clamp (show 4 * p + s < 2 ^ 31 by omega), cN]
    refine ⟨vp_in_nI (by omega) (by decide), fun z V4 f4 V5 f5 => ?_, fun z => ?_⟩
    · have z : ¬ tcR R s = most := fun y => z (by rw [y])
      rw [if_neg (by omega)] at en
      have c5 : Fc V V5 (fun a f j => a = 6 ∧ f = 0 ∧ (j = 50 ∨ j = 51)) := by rw [f5, f4]; exact (Fc_wrI ⟨rfl, rfl, Or.inl rfl⟩).trans (Fc_wrI ⟨rfl, rfl, Or.inr rfl⟩)
      have n5 := h.1.2.2.2.fc c5 (fun f j hf y => by have := y.2.1; omega)
      have s5 := h.gen c5 (fun f j y => by have := y.2; omega) n5
      have ok := tkT_ok t n i
      have m50 : vI V5 6 0 50 = nI (tkT t n i).f := by rw [f5, wrI_ne (fun y => by omega), f4, wrI_at]; exact t2
      have m51 : vI V5 6 0 51 = nI ((tkT t n i).e - (tkT t n i).f) := by
        rw [f5, wrI_at, f4, wrI_ne (fun y => by omega), wrI_ne (fun y => by omega), t2, t3, nI_sub (by omega)]
      have e100 : (100 : Int32) * nI s + nI (tcR R s) = nI (100 * s + tcR R s) := by rw [show (100 : Int32) = nI 100 from rfl, nI_mul, nI_add]
      rw [s5.1.2.1, e4, nI_clamp (show 4 * p + s < 2 ^ 31 by omega), (n5.1 s hs).1, e100]
      refine ⟨vp_in_nI (by omega) (by decide), ms_keepR hF (by omega) s5 (by omega) (by omega) (fun V7 f7 s7 k1 k2 k3 k4 => hy en V7 ⟨(c5.mono (fun a f j y => ⟨y.1, Or.inl ⟨y.2.1, by have := y.2.2; omega⟩⟩)).trans (f7.mono (fun a f j y => mrS_mf y)), s7, ⟨k1, k2, k3, k4⟩, fun f j hf hj => ?_, ?_, ?_, fun f j hf => ?_⟩)⟩
      · rw [f7.i (fun y => by have := y.2; omega), c5.i (fun y => by have := y.2.1; omega)]
      · rw [f7.i (fun y => by have := y.2; omega)]; exact m50
      · rw [f7.i (fun y => by have := y.2; omega)]; exact m51
      · rw [f7.i (fun y => by have := y.2; omega), c5.i (fun y => by have := y.2.1; omega)]
    · have z := (nI_eq (by omega) (by omega)).mp z
      rw [if_pos (by omega)] at en
      exact ms_fail h rfl t2 (by decide) (by decide) (fun V' m => he _ en V' m.mt m.wrg)
/-- what a statement of the reference leads to -/
def MStH (V : VH) (p : Nat) (t : Nat → Int32) (n : Nat) (R : List SR) (X : NR SR) (K : VH → Prop) : Prop := (∀ e, X = .inl e → ∀ V', Fc V V' (mfS p) → Wrg V' e → K V') ∧ ∀ i' r, X = .inr (i', r) → ∀ V', Fc V V' (mtS p) → MZ V' p t n (tcR (R ++ [r])) (nmR (R ++ [r])) i' 0 → Kpt V' p (tkT t n) (MR (R ++ [r])) 0 i' → MDt V' p (R ++ [r]) → (∀ f j, f = 10 ∨ f = 11 → vI V' 6 f j = vI V 6 f j) → K V'
/-- cells behind what stands -/
def bhS (p : Nat) (R : List SR) : Nat → Nat → Prop := fun f j => f < 15 ∨ 28 < f ∨ f = 17 ∨ f = 22 ∨ f = 23 ∨ f = 15 ∧ j = 16 * p + tcR R 0 ∨ (f = 16 ∨ f = 19 ∨ f = 20 ∨ f = 21) ∧ j = 12 * p + tcR R 1 ∨ f = 18 ∧ 20 * (12 * p + tcR R 1) ≤ j ∨ (f = 24 ∨ f = 25 ∨ f = 26) ∧ j = 24 * p + tcR R 2 ∨ (f = 27 ∨ f = 28) ∧ j = 6 * p + tcR R 3
theorem MDb.fx {S : Nat → Nat → Nat → Prop} (h : MDb V p R) (k : Fc V V' S) (q : ∀ f j, S 6 f j → bhS p R f j) (hs : ∀ v, v < tcR R 1 → szR R v ≤ 20) : MDb V' p R := by
  have nq : ∀ f j, ¬ bhS p R f j → vI V' 6 f j = vI V 6 f j := fun f j z => k.i (fun y => z (q f j y))
  obtain ⟨a1, a2, a5, a6⟩ := h
  refine ⟨fun j hj => by rw [nq 15 _ (fun z => by unfold bhS at z; omega)]; exact a1 j hj, fun v hv => ?_, fun j hj => ?_, fun j hj => ?_⟩
  · obtain ⟨b1, b2, b3, b4, b5⟩ := a2 v hv
    have s20 := hs v hv
    exact ⟨by rw [nq 16 _ (fun z => by unfold bhS at z; omega)]; exact b1, by rw [nq 19 _ (fun z => by unfold bhS at z; omega)]; exact b2, by rw [nq 20 _ (fun z => by unfold bhS at z; omega)]; exact b3, by rw [nq 21 _ (fun z => by unfold bhS at z; omega)]; exact b4, fun u hu => by rw [nq 18 _ (fun z => by unfold bhS at z; omega)]; exact b5 u hu⟩
  · obtain ⟨b1, b2, b3⟩ := a5 j hj
    exact ⟨by rw [nq 24 _ (fun z => by unfold bhS at z; omega)]; exact b1, by rw [nq 25 _ (fun z => by unfold bhS at z; omega)]; exact b2, by rw [nq 26 _ (fun z => by unfold bhS at z; omega)]; exact b3⟩
  · obtain ⟨b1, b2⟩ := a6 j hj
    exact ⟨by rw [nq 27 _ (fun z => by unfold bhS at z; omega)]; exact b1, by rw [nq 28 _ (fun z => by unfold bhS at z; omega)]; exact b2⟩
theorem MDb.add (h : MDb V p R) (h0 : r.kd = 0 → vI V 6 15 (16 * p + tcR R 0) = r.vs.getD 0 0) (h1 : r.kd = 1 → vI V 6 16 (12 * p + tcR R 1) = nI r.vs.length ∧ vI V 6 19 (12 * p + tcR R 1) = 0 ∧ vI V 6 20 (12 * p + tcR R 1) = 1 ∧ vI V 6 21 (12 * p + tcR R 1) = 0 ∧ ∀ k, k < r.vs.length → vI V 6 18 (20 * (12 * p + tcR R 1) + k) = r.vs.getD k 0) (h2 : r.kd = 2 → vI V 6 24 (24 * p + tcR R 2) = r.vs.getD 0 0 ∧ vI V 6 25 (24 * p + tcR R 2) = r.vs.getD 1 0 ∧ vI V 6 26 (24 * p + tcR R 2) = nI (20000 * p + r.b)) (h3 : r.kd = 3 → vI V 6 27 (6 * p + tcR R 3) = r.vs.getD 0 0 ∧ vI V 6 28 (6 * p + tcR R 3) = nI (20000 * p + r.b)) : MDb V p (R ++ [r]) := by
  obtain ⟨a1, a2, a5, a6⟩ := h
  have b : ∀ s k, k < tcR (R ++ [r]) s → k < tcR R s ∨ r.kd = s ∧ k = tcR R s := fun s k hk => by
    by_cases c : r.kd = s
    · rw [tcR_same c] at hk
      by_cases z : k < tcR R s
      · exact Or.inl z
      · exact Or.inr ⟨c, by omega⟩
    · rw [tcR_ne c] at hk; exact Or.inl hk
  refine ⟨fun j hj => ?_, fun j hj => ?_, fun j hj => ?_, fun j hj => ?_⟩
  · rcases b 0 j hj with z | ⟨z1, z2⟩
    · unfold fcR; rw [gtR_old z]; exact a1 j z
    · subst z2; unfold fcR; rw [gtR_new z1]; exact h0 z1
  · rcases b 1 j hj with z | ⟨z1, z2⟩
    · unfold szR vlR; rw [gtR_old z]; exact a2 j z
    · subst z2; unfold szR vlR; rw [gtR_new z1]; exact h1 z1
  · rcases b 2 j hj with z | ⟨z1, z2⟩
    · unfold lvR wtR; rw [gtR_old z]; exact a5 j z
    · subst z2; unfold lvR wtR; rw [gtR_new z1]; exact h2 z1
  · rcases b 3 j hj with z | ⟨z1, z2⟩
    · unfold alR; rw [gtR_old z]; exact a6 j z
    · subst z2; unfold alR; rw [gtR_new z1]; exact h3 z1
theorem WR.sz {T : Nat → TK} {L : Nat} (h : WR T F L R i) {v : Nat} (hv : v < tcR R 1) : 1 ≤ szR R v ∧ szR R v ≤ 20 := by
  obtain ⟨m, k⟩ := gtR_mem (s := 1) hv
  obtain ⟨_, _, _, w, _, _⟩ := h.2.2.1 _ m
  exact ⟨(w k).1, (w k).2.1⟩
/-- tokens are read; the list may change -/
def ML (V V' : VH) (p : Nat) (t : Nat → Int32) (n : Nat) (tc : Nat → Nat) (nm : Nat → Nat → Int64) (i : Nat) (x : (Nat × Nat) ⊕ Nat) : Prop := Fc V V' (fun a f j => mrS p i a f j ∨ a = 6 ∧ f = 34) ∧ match x with
  | .inl e => Wrg V' e
  | .inr i' => MZ V' p t n tc nm i' 0 ∧ Kpt V' p (tkT t n) (lku tc nm) i i' ∧ i ≤ i'
theorem MO.ml {x : (Nat × Nat) ⊕ Nat} (h : MO V V' p t n tc nm 0 i x) : ML V V' p t n tc nm i x := ⟨h.1.mono (fun a f j z => Or.inl z), h.2⟩
theorem ML.tr {V1 V2 : VH} {i1 : Nat} {x : (Nat × Nat) ⊕ Nat} (h : ML V V1 p t n tc nm i (.inr i1)) (k : ML V1 V2 p t n tc nm i1 x) : ML V V2 p t n tc nm i x := by
  obtain ⟨f1, s1, k1, b1⟩ := h
  obtain ⟨f2, q⟩ := k
  refine ⟨f1.trans (f2.mono (fun a f j z => by rcases z with z | z; exact Or.inl (mrS_mono b1 z); exact Or.inr z)), ?_⟩
  cases x with
  | inl e => exact q
  | inr i2 =>
    obtain ⟨s2, k2, b2⟩ := q
    exact ⟨s2, (k1.ex (fun f j hf h1 h2 => f2.i (fun z => by rcases z with z | z; have := z.2; omega; have := z.2; omega))).app k2, by omega⟩
theorem ML.mt {x : (Nat × Nat) ⊕ Nat} (h : ML V V' p t n tc nm i x) : Fc V V' (mfS p) := h.1.mono (fun a f j z => by rcases z with z | z; exact mrS_mf z; exact ⟨z.1, by have := z.2; omega⟩)
theorem ML.ls {V1 : VH} {i1 j : Nat} {x : Int32} (h : ML V V' p t n tc nm i (.inr i1)) (e : V1 = wrI V' 6 34 j x) : ML V V1 p t n tc nm i (.inr i1) := by
  obtain ⟨f1, s1, k1, b1⟩ := h
  have f2 : Fc V' V1 (fun a f j => a = 6 ∧ f = 34) := by rw [e]; exact Fc_wrI ⟨rfl, rfl⟩
  exact ⟨f1.trans (f2.mono (fun a f j z => Or.inr z)), s1.gen f2 (fun f j y => by have := y.2; omega) (s1.1.2.2.2.fc f2 (fun f j hf y => by have := y.2; omega)), k1.ex (fun f j hf _ _ => f2.i (fun y => by have := y.2; omega)), b1⟩
/-- the name's token, and what follows it -/
theorem kpt_end {V1 V7 V9 : VH} {i' : Nat} {S : Nat → Nat → Nat → Prop} (hK : Kpt V p (tkT t n) (MR R) 0 i) (hN : NwM V V1 p t n R r.kd i 0) (m : ML V1 V7 p t n (tcR R) (nmR R) (i + 1) (.inr i')) (k : Fc V7 V9 S) (q : ∀ f j, f = 5 ∨ f = 6 ∨ f = 7 ∨ f = 8 → ¬ S 6 f j) (hu : UqN (tcR R) (nmR R)) (hn : MR R r.key = none) (h4 : r.kd < 4) (hkey : r.key = (tkT t n i).2.1) (h1 : (tkT t n i).1 = 1) : Kpt V9 p (tkT t n) (MR (R ++ [r])) 0 i' := by
  have le := MR_le hu hn
  obtain ⟨_, _, ⟨k1, k2, k3, k4⟩, kb, _⟩ := hN
  obtain ⟨f7, _, kp, li⟩ := m
  have x9 : ∀ f j, f = 5 ∨ f = 6 ∨ f = 7 ∨ f = 8 → j ≤ i → vI V9 6 f (20000 * p + j) = vI V1 6 f (20000 * p + j) := fun f j hf hj => by rw [k.i (q f _ hf), f7.i (fun y => by rcases y with y | y; have := y.2; omega; have := y.2; omega)]
  intro j _ hj
  by_cases c : j < i
  · refine ((hK j (Nat.zero_le _) c)).mo le |> fun z => ?_
    obtain ⟨y1, y2, y3, y4, y5⟩ := z
    have e : ∀ f, f = 5 ∨ f = 6 ∨ f = 7 ∨ f = 8 → vI V9 6 f (20000 * p + j) = vI V 6 f (20000 * p + j) := fun f hf => by rw [x9 f j hf (by omega), kb f _ hf (by omega)]
    exact ⟨by rw [e 5 (by omega)]; exact y1, by rw [e 6 (by omega)]; exact y2, by rw [e 7 (by omega)]; exact y3, by rw [e 8 (by omega)]; exact y4, y5⟩
  · by_cases c2 : j = i
    · subst c2
      have nw := MR_new hu hn h4
      rw [hkey] at nw
      refine ⟨by rw [x9 5 j (by omega) (Nat.le_refl _)]; exact k1, ?_, by rw [x9 7 j (by omega) (Nat.le_refl _)]; exact k3, by rw [x9 8 j (by omega) (Nat.le_refl _)]; exact k4, fun _ => by rw [nw]; exact fun z => nomatch z⟩
      rw [x9 6 j (by omega) (Nat.le_refl _), k2, nuv_1 h1, nw]
      rfl
    · obtain ⟨y1, y2, y3, y4, y5⟩ := (kp j (by omega) hj).mo le
      exact ⟨by rw [k.i (q 5 _ (by omega))]; exact y1, by rw [k.i (q 6 _ (by omega))]; exact y2, by rw [k.i (q 7 _ (by omega))]; exact y3, by rw [k.i (q 8 _ (by omega))]; exact y4, y5⟩
/-- the name that is told -/
theorem nm_end {V7 : VH} (hT : TxM V p t n) (k : Fc V V7 (mfS p)) (hn : n ≤ 20000) (h1 : (tkT t n i).1 = 1) : (1 ≤ (tkT t n i).e - (tkT t n i).f ∧ (tkT t n i).e - (tkT t n i).f ≤ 8 ∧ (tkT t n i).f + ((tkT t n i).e - (tkT t n i).f) ≤ 20000) ∧ (tkT t n i).2.1 = nL (pkb (bf (vI V7 6 3) (20000 * p + (tkT t n i).f)) ((tkT t n i).e - (tkT t n i).f)) ∧ ∀ j, j < (tkT t n i).e - (tkT t n i).f → isA (bt (vI V7 6 3) (20000 * p + (tkT t n i).f + j)) = true := by
  have r3 : vI V7 6 3 = vI V 6 3 := funext fun j => k.i (fun y => by obtain ⟨_, y⟩ := y; omega)
  obtain ⟨x1, x2, x3, x4, x5, x6, x7, x8⟩ := tkT_ok t n i
  have x5 := x5 (by omega)
  obtain ⟨y1, y2, y3⟩ := x7 h1
  have e : ∀ j, j < (tkT t n i).e - (tkT t n i).f → bt (vI V7 6 3) (20000 * p + (tkT t n i).f + j) = bt t ((tkT t n i).f + j) := fun j hj => by rw [r3, Nat.add_assoc]; exact hT _ (by omega)
  refine ⟨⟨by omega, by omega, by omega⟩, ?_, fun j hj => by rw [e j hj]; exact y3 _ (by omega) (by omega)⟩
  rw [y2]
  congr 1
  exact pkb_ext _ (fun j hj => (e j hj).symm)
theorem ms_fact {K : VH → Prop} (hF : eFr E) (h0 : 20 < d) (h : MZ V p t n (tcR R) (nmR R) (i + 1) 0) (hn : n ≤ 20000) (hX : TxM V p t n) (hK : Kpt V p (tkT t n) (MR R) 0 (i + 1)) (hD : MDt V p R) (hw : WR (tkT t n) F (tln t n) R i) (hS : MStH V p t n R (stF (tkT t n) R i) K) : vMV E d M_X12_factStatement [sl 6 0] V K := by
  obtain ⟨he, hy⟩ := hS
  have hp := h.1.2.2.1
  -- behind a fault
  have dead3 : ∀ (W : VH) (x : Int32) (e : Nat × Nat), stF (tkT t n) R i = .inl e → Fc V W (mfS p) → Wrg W e → vMV E (d - 1) M_X12_need [sl 6 0, wi 59] W (fun V7 => (¬ (vI V7 6 0 45) = 0 → K V7) ∧ ((vI V7 6 0 45) = 0 → vMI E (d - 1) M_X12_tell [sl 6 0, wi 0] V7 (fun r9 V9 => vp_in ((16 * (vI V7 6 0 47)) + r9) 80 ∧ (∀ V13, V13 = wrI V9 6 15 (Int32.toNatClampNeg ((16 * (vI V7 6 0 47)) + r9)) x → K V13)))) := fun W x e z f w => md_need (by omega) w.dead ⟨fun _ => he e z W f w, fun q => absurd q w.dead⟩
  refine w_X12_factStatement_0 (by omega) (ms_newName (s := 0) (most := 16) hF (by omega) h (by decide) (by decide) (hw.1 0 (by decide)) (fun e z V1 f1 w1 => md_need (by omega) w1.dead (md_anInt (by omega) w1.dead (dead3 V1 0 e (by unfold stF; rw [z]; rfl) f1 w1))) (fun z V1 m1 => ?_))
  have e1 : stF (tkT t n) R i = (if (tkT t n (i + 1 + 1)).1 = 61 then nrB (nmr (tkT t n) true 0 9999 (i + 1 + 1 + 1)) (fun i2 x => if (tkT t n i2).1 = 59 then .inr (i2 + 1, mkS 0 (tkT t n) R i [x] 0 0 0 [] []) else .inl (rfe (tkT t n) i2)) else .inl (rfe (tkT t n) (i + 1 + 1))) := by unfold stF; rw [z]; rfl
  obtain ⟨_, q2, q3, q4⟩ := nwn_inr z
  have f1 := m1.1
  refine ms_need (c := 61) hF (by omega) m1.2.1 rfl (by decide) (by decide) (fun V3 m3 => ?_)
  unfold nee at m3
  by_cases c61 : (tkT t n (i + 1 + 1)).1 = 61
  rotate_left
  · rw [if_neg c61] at m3 e1
    exact md_anInt (by omega) m3.dead (dead3 V3 0 _ e1 (f1.trans m3.mt) m3.wrg)
  rw [if_pos c61] at m3 e1
  refine ms_anInt (hi := 9999) hF (by omega) m3.2.1 rfl (by decide) (fun V5 x m5 hx => ?_)
  have f3 := f1.trans m3.mt
  cases w5 : nmr (tkT t n) true 0 9999 (i + 1 + 1 + 1) with
  | inl e =>
    rw [w5] at m5 e1
    have m5 : MO V3 V5 p t n (tcR R) (nmR R) 0 (i + 1 + 1 + 1) (.inl e) := m5
    exact dead3 V5 x e e1 (f3.trans m5.mt) m5.wrg
  | inr q =>
    obtain ⟨i2, v⟩ := q
    rw [w5] at m5 e1
    have m5 : MO V3 V5 p t n (tcR R) (nmR R) 0 (i + 1 + 1 + 1) (.inr i2) := m5
    have e1 : stF (tkT t n) R i = (if (tkT t n i2).1 = 59 then .inr (i2 + 1, mkS 0 (tkT t n) R i [v] 0 0 0 [] []) else .inl (rfe (tkT t n) i2)) := e1
    have xv := hx i2 v w5
    subst xv
    have f5 := f3.trans m5.mt
    refine ms_need (c := 59) hF (by omega) m5.2.1 rfl (by decide) (by decide) (fun V7 m7 => ?_)
    unfold nee at m7
    by_cases c59 : (tkT t n i2).1 = 59
    rotate_left
    · rw [if_neg c59] at m7 e1
      exact ⟨fun _ => he _ e1 V7 (f5.trans m7.mt) m7.wrg, fun q => absurd q m7.dead⟩
    rw [if_pos c59] at m7 e1
    have s7 := m7.2.1
    have f7 := f5.trans m7.mt
    refine ⟨fun q => absurd s7.2.1 q, fun _ => ?_⟩
    have m17 : MO V1 V7 p t n (tcR R) (nmR R) 0 (i + 1 + 1) (.inr (i2 + 1)) := (m3.tr m5).tr m7
    have k50 : ∀ j, j = 50 ∨ j = 51 → vI V7 6 0 j = vI V1 6 0 j := fun j hj => m17.1.i (fun y => by have := y.2; omega)
    obtain ⟨nl, nk, na⟩ := nm_end hX f7 hn q2
    have e16 : (16 : Int32) * nI p + nI (tcR R 0) = nI (16 * p + tcR R 0) := by rw [show (16 : Int32) = nI 16 from rfl, nI_mul, nI_add]
    refine c_tellM (s := 0) (tc' := tcR (R ++ [mkS 0 (tkT t n) R i [x] 0 0 0 [] []])) (nm' := nmR (R ++ [mkS 0 (tkT t n) R i [x] 0 0 0 [] []])) s7.1.2.1 hp s7.1.2.2.2 (by decide) (by omega) (by rw [k50 50 (by omega)]; exact m1.2.2.2.2.1) (by rw [k50 51 (by omega)]; exact m1.2.2.2.2.2.1) nl (by unfold nmR; rw [gtR_new (s := 0) rfl]; exact nk) na (tcR_same rfl) (fun u hu => tcR_ne (Ne.symm hu)) (fun u k hk => nmR_old hk) (fun V9 f9 n9 => ?_)
    rw [s7.1.2.1, e16, nI_clamp (show 16 * p + tcR R 0 < 2 ^ 31 by omega)]
    refine ⟨vp_in_nI (by omega) (by decide), fun V13 e13 => ?_⟩
    have f13 : Fc V9 V13 (fun a f j => a = 6 ∧ f = 15 ∧ j = 16 * p + tcR R 0) := by rw [e13]; exact Fc_wrI ⟨rfl, rfl, rfl⟩
    have s9 := s7.gen f9 (fun f j y => by have := y.2; omega) n9
    have n13 := n9.fc f13 (fun f j hf y => by have := y.2; omega)
    have s13 := s9.gen f13 (fun f j y => by have := y.2; omega) n13
    have g10 : ∀ f j, 10 ≤ f → vI V7 6 f j = vI V 6 f j := fun f j hf => by rw [m17.1.i (fun y => by have := y.2; omega), m1.2.2.2.2.2.2 f j hf]
    have fx7 : MDb V7 p R := by
      obtain ⟨a1, a2, a5, a6⟩ := hD.1
      exact ⟨fun j hj => by rw [g10 15 _ (by omega)]; exact a1 j hj, fun v hv => by rw [g10 16 _ (by omega), g10 19 _ (by omega), g10 20 _ (by omega), g10 21 _ (by omega)]; exact ⟨(a2 v hv).1, (a2 v hv).2.1, (a2 v hv).2.2.1, (a2 v hv).2.2.2.1, fun k hk => by rw [g10 18 _ (by omega)]; exact (a2 v hv).2.2.2.2 k hk⟩, fun j hj => by rw [g10 24 _ (by omega), g10 25 _ (by omega), g10 26 _ (by omega)]; exact a5 j hj, fun j hj => by rw [g10 27 _ (by omega), g10 28 _ (by omega)]; exact a6 j hj⟩
    refine hy _ _ e1 V13 (((f7.mono (fun a f j y => mfS_mt y)).trans (f9.mono (fun a f j y => tlS_mt y))).trans (f13.mono (fun a f j y => ⟨y.1, by have := y.2; omega⟩))) s13 (kpt_end hK m1 m17.ml (S := fun a f j => tlS p a f j ∨ a = 6 ∧ f = 15) ((f9.mono (fun a f j y => Or.inl y)).trans (f13.mono (fun a f j y => Or.inr ⟨y.1, y.2.1⟩))) (fun f j hf y => by rcases y with ⟨_, y⟩ | y; omega; omega) hw.2.1 q3 (by decide : (0 : Nat) < 4) rfl q2) ⟨?_, ?_, ?_⟩ (fun f j hf => ?_)
    · refine MDb.add ((fx7.fx f9 (fun f j y => by have := y.2; unfold bhS; omega) (fun v hv => (hw.sz hv).2)).fx f13 (fun f j y => by have := y.2; unfold bhS; omega) (fun v hv => (hw.sz hv).2)) (fun _ => by rw [e13, wrI_at]; rfl) (fun y => absurd y (by decide : (0 : Nat) ≠ 1)) (fun y => absurd y (by decide : (0 : Nat) ≠ 2)) (fun y => absurd y (by decide : (0 : Nat) ≠ 3))
    · rw [f13.i (fun y => by have := y.2; omega), f9.i (fun y => by have := y.2; omega), g10 22 _ (by omega), plR_ne (r := mkS 0 (tkT t n) R i [x] 0 0 0 [] []) (by decide : (0 : Nat) ≠ 1)]; exact hD.2.1
    · rw [f13.i (fun y => by have := y.2; omega), f9.i (fun y => by have := y.2; omega), g10 23 _ (by omega), hdR_add, if_neg (fun y => absurd (of_decide_eq_true y).1 (by decide : (0 : Nat) ≠ 2))]; exact hD.2.2
    · rw [f13.i (fun y => by have := y.2; omega), f9.i (fun y => by have := y.2; omega), g10 f _ (by omega)]
end
