/-! the reference reads: what it holds at a token -/
def mnI (q : Option (Nat × Nat)) : Int32 := match q with
  | some q => nI (100 * q.1 + q.2)
  | none => -1
/-- the number that is kept with token j -/
def nuv (T : Nat → TK) (M : MN) (j : Nat) : Int32 := if (T j).1 = 1 then mnI (M (T j).2.1) else if (T j).1 = 2 then nI (T j).2.2.1 else 0
/-- cells that reading changes from token i of problem p on -/
def mrS (p i : Nat) : Nat → Nat → Nat → Prop := fun a f j => a = 6 ∧ (f = 0 ∧ (40 ≤ j ∧ j ≤ 46 ∨ j = 48) ∨ (f = 5 ∨ f = 6 ∨ f = 7 ∨ f = 8) ∧ 20000 * p + i ≤ j ∧ j < 20000 * p + 20000 ∨ f = 9 ∧ j = p)
theorem mrS_mono {p i i' a f j : Nat} (h : i ≤ i') (z : mrS p i' a f j) : mrS p i a f j := by
  obtain ⟨z1, z2⟩ := z
  exact ⟨z1, by omega⟩
/-- a name that is kept means something -/
def nuk (T : Nat → TK) (M : MN) (j : Nat) : Prop := (T j).1 = 1 → M (T j).2.1 ≠ none
def KR (V : VH) (p : Nat) (T : Nat → TK) (M : MN) (j : Nat) : Prop := vI V 6 5 (20000 * p + j) = nI (T j).1 ∧ vI V 6 6 (20000 * p + j) = nuv T M j ∧ vI V 6 7 (20000 * p + j) = nI (T j).f ∧ vI V 6 8 (20000 * p + j) = nI (T j).e ∧ nuk T M j
def Kpt (V : VH) (p : Nat) (T : Nat → TK) (M : MN) (i i' : Nat) : Prop := ∀ j, i ≤ j → j < i' → KR V p T M j
/-- the reference's names -/
def NmM (V : VH) (p : Nat) (tc : Nat → Nat) (nm : Nat → Nat → Int64) : Prop := (∀ s, s < 4 → vI V 6 14 (4 * p + s) = nI (tc s) ∧ tc s ≤ 24) ∧ ∀ s, s < 4 → ∀ k, k < tc s → ∃ a l, vI V 6 12 (96 * p + 24 * s + k) = nI a ∧ vI V 6 13 (96 * p + 24 * s + k) = nI l ∧ 1 ≤ l ∧ l ≤ 8 ∧ a + l ≤ 20000 ∧ nm s k = nL (pkb (bf (vI V 6 3) (20000 * p + a)) l) ∧ ∀ j, j < l → isA (bt (vI V 6 3) (20000 * p + a + j)) = true
/-- what stays while a text is read -/
def MX (V : VH) (p : Nat) (t : Nat → Int32) (n : Nat) (tc : Nat → Nat) (nm : Nat → Nat → Int64) : Prop := SrcM V t n ∧ vI V 6 0 47 = nI p ∧ p < 5 ∧ NmM V p tc nm
/-- token i is come to, o things are open, and nothing is wrong -/
def MZ (V : VH) (p : Nat) (t : Nat → Int32) (n : Nat) (tc : Nat → Nat) (nm : Nat → Nat → Int64) (i o : Nat) : Prop := MX V p t n tc nm ∧ vI V 6 0 45 = 0 ∧ RT V (tkT t n i) ∧ i ≤ tln t n ∧ vI V 6 9 p = nI i ∧ vI V 6 0 48 = nI o ∧ o ≤ 12
/-- what becomes of it: a fault, or a later token -/
def MO (V V' : VH) (p : Nat) (t : Nat → Int32) (n : Nat) (tc : Nat → Nat) (nm : Nat → Nat → Int64) (o i : Nat) (r : (Nat × Nat) ⊕ Nat) : Prop := Fc V V' (mrS p i) ∧ match r with
  | .inl e => vI V' 6 0 45 = nI e.1 ∧ 1 ≤ e.1 ∧ e.1 < 100 ∧ vI V' 6 0 46 = nI e.2
  | .inr i' => MZ V' p t n tc nm i' o ∧ Kpt V' p (tkT t n) (lku tc nm) i i' ∧ i ≤ i'
def rsI (r : RS) : (Nat × Nat) ⊕ Nat := match r with
  | .inl e => .inl e
  | .inr q => .inr q.1
def nrI {α : Type} (r : NR α) : (Nat × Nat) ⊕ Nat := match r with
  | .inl e => .inl e
  | .inr q => .inr q.1
section
variable {E : EE} {d : Nat} {V : VH} {p : Nat} {t : Nat → Int32} {n : Nat} {tc : Nat → Nat} {nm : Nat → Nat → Int64} {i o : Nat}
theorem NmM.fc {V' : VH} {S : Nat → Nat → Nat → Prop} (h : NmM V p tc nm) (k : Fc V V' S) (q : ∀ f j, f = 3 ∨ f = 12 ∨ f = 13 ∨ f = 14 → ¬ S 6 f j) : NmM V' p tc nm := by
  have b : ∀ j, bt (vI V' 6 3) j = bt (vI V 6 3) j := fun j => by unfold bt; rw [k.i (q 3 j (by omega))]
  refine ⟨fun s hs => by rw [k.i (q 14 _ (by omega))]; exact h.1 s hs, fun s hs k' hk' => ?_⟩
  obtain ⟨a, l, h1, h2, h3, h4, h5, h6, h7⟩ := h.2 s hs k' hk'
  refine ⟨a, l, by rw [k.i (q 12 _ (by omega))]; exact h1, by rw [k.i (q 13 _ (by omega))]; exact h2, h3, h4, h5, ?_, fun j hj => by rw [b]; exact h7 j hj⟩
  rw [h6]
  congr 1
  exact pkb_ext l (fun j _ => (b _).symm)
theorem MX.fc {V' : VH} {i : Nat} (h : MX V p t n tc nm) (k : Fc V V' (mrS p i)) : MX V' p t n tc nm := by
  obtain ⟨h1, h2, h3, h4⟩ := h
  exact ⟨h1.fc k (fun f j z y => by obtain ⟨_, y⟩ := y; omega), by rw [k.i (fun y => by obtain ⟨_, y⟩ := y; omega)]; exact h2, h3, h4.fc k (fun f j z y => by obtain ⟨_, y⟩ := y; omega)⟩
theorem Kpt.fc {V' : VH} {T : Nat → TK} {M : MN} {i0 i1 i2 : Nat} (h : Kpt V p T M i0 i1) (k : Fc V V' (mrS p i2)) (hi : i1 ≤ i2) : Kpt V' p T M i0 i1 := by
  intro j h1 h2
  obtain ⟨a, b, c, e, u⟩ := h j h1 h2
  have q : ∀ f, f = 5 ∨ f = 6 ∨ f = 7 ∨ f = 8 → ¬ mrS p i2 6 f (20000 * p + j) := fun f hf z => by obtain ⟨_, z⟩ := z; omega
  exact ⟨by rw [k.i (q 5 (by omega))]; exact a, by rw [k.i (q 6 (by omega))]; exact b, by rw [k.i (q 7 (by omega))]; exact c, by rw [k.i (q 8 (by omega))]; exact e, u⟩
theorem Kpt.app {T : Nat → TK} {M : MN} {i0 i1 i2 : Nat} (h : Kpt V p T M i0 i1) (k : Kpt V p T M i1 i2) : Kpt V p T M i0 i2 := fun j h1 h2 => by
  by_cases c : j < i1
  · exact h j h1 c
  · exact k j (by omega) h2
/-- first one, then another -/
theorem MO.tr {V1 V2 : VH} {i1 o' : Nat} {r : (Nat × Nat) ⊕ Nat} (h : MO V V1 p t n tc nm o' i (.inr i1)) (k : MO V1 V2 p t n tc nm o i1 r) : MO V V2 p t n tc nm o i r := by
  obtain ⟨f1, s1, k1, b1⟩ := h
  obtain ⟨f2, q⟩ := k
  refine ⟨f1.trans (f2.mono (fun a f j z => mrS_mono b1 z)), ?_⟩
  cases r with
  | inl e => exact q
  | inr i2 =>
    obtain ⟨s2, k2, b2⟩ := q
    exact ⟨s2, (k1.fc f2 (Nat.le_refl _)).app k2, by omega⟩
theorem MO.dead {V1 : VH} {e : Nat × Nat} (h : MO V V1 p t n tc nm o i (.inl e)) : ¬ vI V1 6 0 45 = 0 := by
  obtain ⟨_, h1, h2, h3, _⟩ := h
  rw [h1]
  exact fun z => by have := (nI_eq (b := 0) (by omega) (by decide)).mp z; omega
theorem MO.oo {V1 : VH} {e : Nat × Nat} {o' : Nat} (h : MO V V1 p t n tc nm o i (.inl e)) : MO V V1 p t n tc nm o' i (.inl e) := h
/-- a fault, though more is open or less -/
theorem MO.wr {V1 V2 : VH} {x : Int32} {e : Nat × Nat} (h : MO V V1 p t n tc nm o i (.inl e)) (e2 : V2 = wrI V1 6 0 48 x) : MO V V2 p t n tc nm o i (.inl e) := by
  obtain ⟨f, h1, h2, h3, h4⟩ := h
  exact ⟨f.trans (by rw [e2]; exact Fc_wrI ⟨rfl, Or.inl ⟨rfl, Or.inr rfl⟩⟩), by rw [e2, wrI_ne (fun z => by omega)]; exact h1, h2, h3, by rw [e2, wrI_ne (fun z => by omega)]; exact h4⟩
theorem MZ.tok (h : MZ V p t n tc nm i o) : vI V 6 0 41 = nI (tkT t n i).1 ∧ vI V 6 0 43 = nI (tkT t n i).f ∧ vI V 6 0 44 = nI (tkT t n i).e ∧ ((tkT t n i).1 = 2 → vI V 6 0 42 = nI (tkT t n i).2.2.1) := ⟨h.2.2.1.2.1, h.2.2.1.2.2.1, h.2.2.1.2.2.2.1, h.2.2.1.2.2.2.2⟩
theorem MZ.is (h : MZ V p t n tc nm i o) (c : Nat) (hc : c < 1000) : vI V 6 0 41 = nI c ↔ (tkT t n i).1 = c := by
  have := vcd_lt (tkT_ok t n i).1
  rw [h.tok.1]
  exact nI_eq (by omega) (by omega)
theorem MZ.lt (h : MZ V p t n tc nm i o) (h0 : (tkT t n i).1 ≠ 0) (h3 : (tkT t n i).1 ≠ 3) : i < tln t n := by
  obtain ⟨_, a, b⟩ := tln_ok t n
  exact TL.lt (T := tkT t n) ⟨a, b⟩ h.2.2.2.1 h0 h3
/-- things are opened and closed -/
theorem MZ.op {V1 : VH} {o' : Nat} (h : MZ V p t n tc nm i o) (e1 : V1 = wrI V 6 0 48 (nI o')) (ho : o' ≤ 12) : MZ V1 p t n tc nm i o' ∧ Fc V V1 (mrS p i) := by
  have f1 : Fc V V1 (mrS p i) := by rw [e1]; exact Fc_wrI ⟨rfl, Or.inl ⟨rfl, Or.inr rfl⟩⟩
  obtain ⟨h1, h2, ⟨r1, r2, r3, r4, r5⟩, h4, h5, h6, h7⟩ := h
  have q : ∀ k, k ≠ 48 → vI V1 6 0 k = vI V 6 0 k := fun k hk => by rw [e1, wrI_ne (fun z => hk z.2.2)]
  exact ⟨⟨h1.fc f1, by rw [q 45 (by omega)]; exact h2, ⟨by rw [q 40 (by omega)]; exact r1, by rw [q 41 (by omega)]; exact r2, by rw [q 43 (by omega)]; exact r3, by rw [q 44 (by omega)]; exact r4, fun z => by rw [q 42 (by omega)]; exact r5 z⟩, h4, by rw [e1, wrI_ne (fun z => by omega)]; exact h5, by rw [e1, wrI_at], ho⟩, f1⟩
theorem MO.less {V1 V2 : VH} {i1 : Nat} (h : MO V V1 p t n tc nm (o + 1) i (.inr i1)) (e2 : V2 = wrI V1 6 0 48 (vI V1 6 0 48 - 1)) : MO V V2 p t n tc nm o i (.inr i1) := by
  obtain ⟨f, s, k, b⟩ := h
  have e3 : V2 = wrI V1 6 0 48 (nI o) := by rw [e2, s.2.2.2.2.2.1, nI_pred]
  obtain ⟨s2, f2⟩ := s.op e3 (by have := s.2.2.2.2.2.2; omega)
  exact ⟨f.trans (f2.mono (fun a f j z => mrS_mono b z)), s2, k.fc f2 (Nat.le_refl _), b⟩
theorem md_fail {x y : Int32} {K : VH → Prop} (h : ¬ vI V 6 0 45 = 0) (hk : K V) : vMV E d M_X12_fail [sl 6 0, wi x, wi y] V K := w_X12_fail_0 ⟨fun _ => hk, fun q => absurd q h⟩
theorem ms_fail {c q : Nat} {x y : Int32} {K : VH → Prop} (h : MZ V p t n tc nm i o) (hx : x = nI c) (hy : y = nI q) (hc : 1 ≤ c) (hc2 : c < 100) (hk : ∀ V', MO V V' p t n tc nm o i (.inl (c, q)) → K V') : vMV E d M_X12_fail [sl 6 0, wi x, wi y] V K := by
  refine w_X12_fail_0 ⟨fun z => absurd h.2.1 z, fun _ V1 e1 V2 e2 => hk V2 ⟨?_, ?_, hc, hc2, ?_⟩⟩
  · rw [e2, e1]; exact (Fc_wrI ⟨rfl, Or.inl ⟨rfl, Or.inl ⟨by decide, by decide⟩⟩⟩).trans (Fc_wrI ⟨rfl, Or.inl ⟨rfl, Or.inl ⟨by decide, by decide⟩⟩⟩)
  · rw [e2, wrI_ne (fun z => by omega), e1, wrI_at]; exact hx
  · rw [e2, wrI_at]; exact hy
theorem rfe_b (T : Nat → TK) (i : Nat) : 1 ≤ (rfe T i).1 ∧ (rfe T i).1 < 100 := by
  unfold rfe
  show 1 ≤ (if (T i).1 = 3 then 1 else 2) ∧ (if (T i).1 = 3 then 1 else 2) < 100
  split <;> decide
theorem ms_failHere {K : VH → Prop} (h0 : 0 < d) (h : MZ V p t n tc nm i o) (hk : ∀ V', MO V V' p t n tc nm o i (.inl (rfe (tkT t n) i)) → K V') : vMV E d M_X12_failHere [sl 6 0] V K := by
  have go : ∀ x : Int32, x = nI (rfe (tkT t n) i).1 → vwp E d M_X12_failHere 14 [some (sl 6 0)] [wi x, sl 6 0] V (zv K) := fun x ex => w_X12_failHere_14 h0 (ms_fail h ex h.tok.2.1 (rfe_b _ _).1 (rfe_b _ _).2 hk)
  have e3 := h.is 3 (by decide)
  refine w_X12_failHere_0 ⟨fun q => go 2 ?_, fun q => go 1 ?_⟩
  · unfold rfe; rw [if_neg (fun z => q (e3.mpr z))]; rfl
  · unfold rfe; rw [if_pos (e3.mp q)]; rfl
/-- a token is kept with any number -/
theorem ms_keepR {x : Int32} {K : VH → Prop} (hF : eFr E) (h0 : 7 < d) (h : MZ V p t n tc nm i o) (n0 : (tkT t n i).1 ≠ 0) (n3 : (tkT t n i).1 ≠ 3) (hk : ∀ V', Fc V V' (mrS p i) → MZ V' p t n tc nm (i + 1) o → vI V' 6 5 (20000 * p + i) = nI (tkT t n i).1 → vI V' 6 6 (20000 * p + i) = x → vI V' 6 7 (20000 * p + i) = nI (tkT t n i).f → vI V' 6 8 (20000 * p + i) = nI (tkT t n i).e → K V') : vMV E d M_X12_keep [sl 6 0, wi x] V K := by
  have hlt := h.lt n0 n3
  have hL := (tln_ok t n).1
  have hn := h.1.1.2.1
  have hp := h.1.2.2.1
  obtain ⟨t1, t2, t3, t4⟩ := h.tok
  have e47 := h.1.2.1
  have ec : Int32.toNatClampNeg (nI p) = p := nI_clamp (by omega)
  have ek : (20000 : Int32) * nI p + nI i = nI (20000 * p + i) := i20k p i
  refine w_X12_keep_0 (by omega) ?_
  rw [e47, ec, h.2.2.2.2.1, ek, nI_clamp (show 20000 * p + i < 2 ^ 31 by omega)]
  refine ⟨vp_in_nI hp (by decide), vp_in_nI (by omega) (by decide), fun V3 e3 => ⟨vp_in_nI (by omega) (by decide), fun V5 e5 => ⟨vp_in_nI (by omega) (by decide), fun V7 e7 => ⟨vp_in_nI (by omega) (by decide), fun V9 e9 => ?_⟩⟩⟩⟩
  have g3 : ∀ f k, f ≠ 5 → vI V3 6 f k = vI V 6 f k := fun f k hf => by rw [e3, wrI_ne (fun z => hf z.2.1)]
  have g5 : ∀ f k, f ≠ 5 → f ≠ 6 → vI V5 6 f k = vI V 6 f k := fun f k h1 h2 => by rw [e5, wrI_ne (fun z => h2 z.2.1), g3 f k h1]
  have g7 : ∀ f k, f ≠ 5 → f ≠ 6 → f ≠ 7 → vI V7 6 f k = vI V 6 f k := fun f k h1 h2 h3 => by rw [e7, wrI_ne (fun z => h3 z.2.1), g5 f k h1 h2]
  have g9 : ∀ f k, f ≠ 5 → f ≠ 6 → f ≠ 7 → f ≠ 8 → vI V9 6 f k = vI V 6 f k := fun f k h1 h2 h3 h4 => by rw [e9, wrI_ne (fun z => h4 z.2.1), g7 f k h1 h2 h3]
  rw [g9 0 47 (by omega) (by omega) (by omega) (by omega), e47, ec, g9 9 p (by omega) (by omega) (by omega) (by omega), h.2.2.2.2.1, nI_1]
  refine ⟨vp_in_nI hp (by decide), vp_in_nI hp (by decide), fun V12 e12 => ?_⟩
  have f12 : Fc V V12 (mrS p i) := by
    rw [e12, e9, e7, e5, e3]
    refine ((((Fc_wrI ⟨rfl, ?_⟩).trans (Fc_wrI ⟨rfl, ?_⟩)).trans (Fc_wrI ⟨rfl, ?_⟩)).trans (Fc_wrI ⟨rfl, ?_⟩)).trans (Fc_wrI ⟨rfl, ?_⟩) <;> omega
  have g12 : ∀ f k, f ≠ 5 → f ≠ 6 → f ≠ 7 → f ≠ 8 → f ≠ 9 → vI V12 6 f k = vI V 6 f k := fun f k h1 h2 h3 h4 h5 => by rw [e12, wrI_ne (fun z => h5 z.2.1), g9 f k h1 h2 h3 h4]
  have x12 := h.1.fc f12
  have a12 : vI V12 6 0 40 = nI (tkT t n i).e := by rw [g12 0 40 (by omega) (by omega) (by omega) (by omega) (by omega)]; exact h.2.2.1.1
  have en := (tkT_ok t n i).2.2.2.1
  refine c_next hF (by omega) x12.1 a12 en (fun V13 f13 r13 => ?_)
  have f13' : Fc V12 V13 (mrS p (i + 1)) := f13.mono (fun a f j z => ⟨z.1, Or.inl ⟨z.2.1, Or.inl ⟨z.2.2.1, by have := z.2.2.2; omega⟩⟩⟩)
  have q13 : ∀ f k, f ≠ 0 → vI V13 6 f k = vI V12 6 f k := fun f k hf => f13.i (fun z => hf z.2.1)
  refine hk V13 (f12.trans (f13'.mono (fun a f j z => mrS_mono (by omega) z))) ⟨x12.fc f13', ?_, r13, hlt, ?_, ?_, h.2.2.2.2.2.2⟩ ?_ ?_ ?_ ?_
  · rw [f13.i (fun z => by have := z.2.2; omega), g12 0 45 (by omega) (by omega) (by omega) (by omega) (by omega)]; exact h.2.1
  · rw [q13 9 p (by omega), e12, wrI_at]
  · rw [f13.i (fun z => by have := z.2.2; omega), g12 0 48 (by omega) (by omega) (by omega) (by omega) (by omega)]; exact h.2.2.2.2.2.1
  · rw [q13 5 _ (by omega), e12, wrI_ne (fun z => by omega), e9, wrI_ne (fun z => by omega), e7, wrI_ne (fun z => by omega), e5, wrI_ne (fun z => by omega), e3, wrI_at]; exact t1
  · rw [q13 6 _ (by omega), e12, wrI_ne (fun z => by omega), e9, wrI_ne (fun z => by omega), e7, wrI_ne (fun z => by omega), e5, wrI_at]
  · rw [q13 7 _ (by omega), e12, wrI_ne (fun z => by omega), e9, wrI_ne (fun z => by omega), e7, wrI_at, g5 0 43 (by omega) (by omega)]; exact t2
  · rw [q13 8 _ (by omega), e12, wrI_ne (fun z => by omega), e9, wrI_at, g7 0 44 (by omega) (by omega) (by omega)]; exact t3
theorem ms_keep {x : Int32} {K : VH → Prop} (hF : eFr E) (h0 : 7 < d) (h : MZ V p t n tc nm i o) (n0 : (tkT t n i).1 ≠ 0) (n3 : (tkT t n i).1 ≠ 3) (hx : x = nuv (tkT t n) (lku tc nm) i ∧ nuk (tkT t n) (lku tc nm) i) (hk : ∀ V', MO V V' p t n tc nm o i (.inr (i + 1)) → K V') : vMV E d M_X12_keep [sl 6 0, wi x] V K :=
  ms_keepR hF h0 h n0 n3 (fun V' f s a b c e => hk V' ⟨f, s, fun j j1 j2 => by
    have : j = i := by omega
    subst this
    exact ⟨a, b.trans hx.1, c, e, hx.2⟩, by omega⟩)
theorem nuv_0 {T : Nat → TK} {M : MN} {j : Nat} (h1 : (T j).1 ≠ 1) (h2 : (T j).1 ≠ 2) : nuv T M j = 0 := by unfold nuv; rw [if_neg h1, if_neg h2]
theorem nuq_0 {T : Nat → TK} {M : MN} {j : Nat} (h1 : (T j).1 ≠ 1) (h2 : (T j).1 ≠ 2) : (0 : Int32) = nuv T M j ∧ nuk T M j := ⟨(nuv_0 h1 h2).symm, fun z => absurd z h1⟩
theorem md_need {x : Int32} {K : VH → Prop} (h0 : 0 < d) (h : ¬ vI V 6 0 45 = 0) (hk : K V) : vMV E d M_X12_need [sl 6 0, wi x] V K := w_X12_need_0 h0 ⟨fun q => absurd q h, fun _ => hk⟩
/-- a sign is needed -/
def nee (T : Nat → TK) (c i : Nat) : (Nat × Nat) ⊕ Nat := if (T i).1 = c then .inr (i + 1) else .inl (rfe T i)
theorem ms_need {c : Nat} {x : Int32} {K : VH → Prop} (hF : eFr E) (h0 : 8 < d) (h : MZ V p t n tc nm i o) (hx : x = nI c) (hc : 4 ≤ c) (hc2 : c < 1000) (hk : ∀ V', MO V V' p t n tc nm o i (nee (tkT t n) c i) → K V') : vMV E d M_X12_need [sl 6 0, wi x] V K := by
  have e := h.is c hc2
  rw [← hx] at e
  refine w_X12_need_0 (by omega) ⟨fun _ => ⟨fun q => ?_, fun q => ms_failHere (by omega) h (fun V' z => hk V' (by unfold nee; rw [if_neg (fun y => q (e.mpr y))]; exact z))⟩, fun q => absurd h.2.1 q⟩
  have c1 := e.mp q
  exact ms_keep hF (by omega) h (by omega) (by omega) (nuq_0 (by omega) (by omega)) (fun V' z => hk V' (by unfold nee; rw [if_pos c1]; exact z))
theorem ms_opens {K : Int32 → VH → Prop} (h0 : 0 < d) (h : MZ V p t n tc nm i o) (hn : 12 ≤ o → ∀ V', MO V V' p t n tc nm o i (.inl (7, (tkT t n i).f)) → K 0 V') (hy : ¬ 12 ≤ o → ∀ V', MZ V' p t n tc nm i (o + 1) → Fc V V' (mrS p i) → K 1 V') : vMI E d M_X12_opens [sl 6 0] V K := by
  have ho := h.2.2.2.2.2.2
  have e : vI V 6 0 48 = 12 ↔ o = 12 := by rw [h.2.2.2.2.2.1]; exact nI_eq (b := 12) (by omega) (by decide)
  refine w_X12_opens_0 h0 ⟨fun q V1 e1 => ?_, fun q => ms_fail h rfl h.tok.2.1 (by decide) (by decide) (hn (by have := e.mp q; omega))⟩
  have : o ≠ 12 := fun z => q (e.mpr z)
  rw [h.2.2.2.2.2.1, nI_1] at e1
  obtain ⟨s1, f1⟩ := h.op e1 (by omega)
  exact hy (by omega) V1 s1 f1
theorem MZ.id (h : MZ V p t n tc nm i o) : MO V V p t n tc nm o i (.inr i) := ⟨Fc.refl, h, fun j a b => by omega, Nat.le_refl _⟩
end
