/-! the class reads: what it holds at a token -/
theorem fsb_true {P : Nat → Bool} {k : Nat} : ∀ {n : Nat}, fsb P n = some k → P k = true := by
  intro n
  induction n with
  | zero => intro h; rw [fsb] at h; cases h
  | succ n ih =>
    intro h
    rw [fsb] at h
    cases w : fsb P n with
    | some j => rw [w] at h; have h : some j = some k := h; exact ih (by rw [w]; exact h)
    | none =>
      rw [w] at h
      have h : (if P n = true then some n else none) = some k := h
      by_cases c : P n = true
      · rw [if_pos c] at h; rw [← Option.some.inj h]; exact c
      · rw [if_neg c] at h; cases h
/-- kind and number of a name -/
def lkf (tc : Nat → Nat) (nm : Nat → Nat → Int64) (key : Int64) : Nat → Nat → Option (Nat × Nat)
  | 0, _ => none
  | m + 1, s => match fsb (fun k => decide (nm s k = key)) (tc s) with
    | some k => some (s, k)
    | none => lkf tc nm key m (s + 1)
def lku (tc : Nat → Nat) (nm : Nat → Nat → Int64) : MN := fun key => lkf tc nm key 4 0
/-- the class's names -/
def NmC (V : VH) (g : Nat) (tc : Nat → Nat) (nm : Nat → Nat → Int64) : Prop := (∀ s, s < 4 → vI V g 4 s = nI (tc s) ∧ tc s ≤ 24) ∧ ∀ s, s < 4 → ∀ k, k < tc s → vJ V g 3 (24 * s + k) = nm s k
/-- the bit of token j, if it names a var; those of k tokens from i on -/
def vbt (T : Nat → TK) (M : MN) (j : Nat) : Int32 := if (T j).1 = 1 then (match M (T j).2.1 with
  | some q => if q.1 = 1 then 1 <<< (nI q.2 &&& 31) else 0
  | none => 0) else 0
def vsb (T : Nat → TK) (M : MN) (i : Nat) : Nat → Int32
  | 0 => 0
  | k + 1 => vsb T M i k ||| vbt T M (i + k)
theorem vsb_add (T : Nat → TK) (M : MN) (i a : Nat) : ∀ b, vsb T M i (a + b) = vsb T M i a ||| vsb T M (i + a) b := by
  intro b
  induction b with
  | zero => rw [Nat.add_zero, vsb, Int32.or_zero]
  | succ b ih => rw [← Nat.add_assoc, vsb, vsb, ih, Int32.or_assoc, Nat.add_assoc i a b]
/-- rows that reading changes -/
def rdR (g : Nat) : Nat → Nat → Prop := fun a f => a = 0 ∧ (f = 2 ∨ f = 7) ∨ a = g ∧ (f = 9 ∨ f = 15 ∨ f = 16)
/-- what stays, whatever is read -/
def Rdf (V V' : VH) (g : Nat) : Prop := Fr V V' (rdR g) ∧ (∀ k, k ≠ 3 → k ≠ 10 → vI V' g 9 k = vI V g 9 k) ∧ (∀ k, k < 5 ∨ 8 < k → vI V' 0 7 k = vI V 0 7 k ∧ vJ V' 0 7 k = vJ V 0 7 k) ∧ vI V' 0 2 5 = vI V 0 2 5 ∧ 64 ≤ vN V' g 15 ∧ vN V' g 15 ≤ 100000 ∧ 64 ≤ vN V' g 16 ∧ vN V' g 16 ≤ 50000
theorem Rdf.trans {V V1 V2 : VH} {g : Nat} (h : Rdf V V1 g) (k : Rdf V1 V2 g) : Rdf V V2 g := ⟨h.1.trans k.1, fun j a b => (k.2.1 j a b).trans (h.2.1 j a b), fun j a => ⟨(k.2.2.1 j a).1.trans (h.2.2.1 j a).1, (k.2.2.1 j a).2.trans (h.2.2.1 j a).2⟩, k.2.2.2.1.trans h.2.2.2.1, k.2.2.2.2⟩
/-- steps and notes that came -/
def Apd (V V' : VH) (g ub nb : Nat) (C : CD) (N : List Int32) : Prop := (∀ k, k < ub → vI V' g 15 k = vI V g 15 k) ∧ (∀ k, k < C.length → vI V' g 15 (ub + 2 * k) = (C.getD k (0, 0)).1 ∧ vI V' g 15 (ub + 2 * k + 1) = (C.getD k (0, 0)).2) ∧ (∀ k, k < nb → vI V' g 16 k = vI V g 16 k) ∧ ∀ k, k < N.length → vI V' g 16 (nb + k) = N.getD k 0
theorem Apd.refl {V : VH} {g ub nb : Nat} : Apd V V g ub nb [] [] := ⟨fun _ _ => rfl, fun k hk => absurd hk (Nat.not_lt_zero k), fun _ _ => rfl, fun k hk => absurd hk (Nat.not_lt_zero k)⟩
theorem getD_appl {α : Type} (A B : List α) (x : α) (k : Nat) : (A ++ B).getD k x = if k < A.length then A.getD k x else B.getD (k - A.length) x := by
  rw [List.getD_eq_getElem?_getD, List.getD_eq_getElem?_getD, List.getD_eq_getElem?_getD]
  by_cases c : k < A.length
  · rw [if_pos c, List.getElem?_append_left c]
  · rw [if_neg c, List.getElem?_append_right (by omega)]
theorem Apd.trans {V V1 V2 : VH} {g ub nb : Nat} {C1 C2 : CD} {N1 N2 : List Int32} (h : Apd V V1 g ub nb C1 N1) (k : Apd V1 V2 g (ub + 2 * C1.length) (nb + N1.length) C2 N2) : Apd V V2 g ub nb (C1 ++ C2) (N1 ++ N2) := by
  obtain ⟨h1, h2, h3, h4⟩ := h
  obtain ⟨k1, k2, k3, k4⟩ := k
  refine ⟨fun j hj => (k1 j (by omega)).trans (h1 j hj), fun j hj => ?_, fun j hj => (k3 j (by omega)).trans (h3 j hj), fun j hj => ?_⟩
  · rw [List.length_append] at hj
    rw [getD_appl]
    by_cases c : j < C1.length
    · rw [if_pos c, k1 _ (by omega), k1 _ (by omega)]; exact h2 j c
    · rw [if_neg c]
      have := k2 (j - C1.length) (by omega)
      rw [show ub + 2 * C1.length + 2 * (j - C1.length) = ub + 2 * j from by omega] at this
      exact this
  · rw [List.length_append] at hj
    rw [getD_appl]
    by_cases c : j < N1.length
    · rw [if_pos c, k3 _ (by omega)]; exact h4 j c
    · rw [if_neg c]
      have := k4 (j - N1.length) (by omega)
      rw [show nb + N1.length + (j - N1.length) = nb + j from by omega] at this
      exact this
/-- what stays while a text is read: its tokens, its names -/
def CX (V : VH) (g : Nat) (T : Nat → TK) (L : Nat) (tc : Nat → Nat) (nm : Nat → Nat → Int64) : Prop := vP V = g ∧ vQ V = g ∧ PG (vL V) g ∧ (∃ cap c, TkN V cap ∧ vI V 0 2 5 = nI c ∧ L ≤ c ∧ c < cap) ∧ (∀ j, j ≤ L → TkR V j (T j)) ∧ (TL T L ∧ L ≤ 20000 ∧ ∀ j, vcd (T j).1 = true ∧ (T j).e ≤ 20000 ∧ (T j).f ≤ 20000 ∧ ((T j).1 = 2 → (T j).2.2.1 ≤ 9999)) ∧ NmC V g tc nm
/-- token i is come to; o things are open; nb notes, ub steps; vars seen -/
def CS (V : VH) (g : Nat) (T : Nat → TK) (L : Nat) (tc : Nat → Nat) (nm : Nat → Nat → Int64) (i o nb ub : Nat) (sv : Int32) : Prop := CX V g T L tc nm ∧ TkA V i ∧ i ≤ L ∧ (vI V 0 7 7 = nI o ∧ vI V 0 2 10 = 0) ∧ o ≤ 12 ∧ vI V 0 7 8 = sv ∧ (vI V g 9 3 = nI nb ∧ vI V g 9 10 = nI ub ∧ nb ≤ i ∧ ub ≤ 2 * i) ∧ (nb ≤ vN V g 16 ∧ ub ≤ vN V g 15 ∧ 64 ≤ vN V g 15 ∧ vN V g 15 ≤ 100000 ∧ 64 ≤ vN V g 16 ∧ vN V g 16 ≤ 50000)
/-- a fault is told -/
def Flt (V : VH) (e : Nat × Nat) : Prop := vI V 0 2 10 = nI e.1 ∧ vI V 0 2 11 = nI e.2
section
variable {E : EE} {d : Nat} {V : VH} {g : Nat} {T : Nat → TK} {L : Nat} {tc : Nat → Nat} {nm : Nat → Nat → Int64} {i o nb ub : Nat} {sv : Int32}
theorem CS.g0 (h : CS V g T L tc nm i o nb ub sv) : g ≠ 0 ∧ g ≠ 6 := h.1.2.2.1.2
theorem CS.caps (h : CS V g T L tc nm i o nb ub sv) : Rdf V V g := ⟨Fr.refl, fun _ _ _ => rfl, fun _ _ => ⟨rfl, rfl⟩, rfl, h.2.2.2.2.2.2.2.2.2.1, h.2.2.2.2.2.2.2.2.2.2.1, h.2.2.2.2.2.2.2.2.2.2.2.1, h.2.2.2.2.2.2.2.2.2.2.2.2⟩
theorem CX.r {V' : VH} (h : CX V g T L tc nm) (k : Rdf V V' g) : CX V' g T L tc nm := by
  obtain ⟨h1, h2, h3, ⟨cap, c, h4, h5, h6, h7⟩, h8, h9, h10, h11⟩ := h
  have g0 : g ≠ 0 := h3.2.1
  have nr : ∀ f, f = 3 ∨ f = 4 ∨ f = 5 ∨ f = 6 → ¬ rdR g 0 f := fun f hf z => by rcases z with ⟨_, z⟩ | ⟨z, _⟩; omega; exact g0 z.symm
  have ng : ∀ f, f = 3 ∨ f = 4 → ¬ rdR g g f := fun f hf z => by rcases z with ⟨z, _⟩ | ⟨_, z⟩; exact g0 z; omega
  refine ⟨by rw [k.1.2.1]; exact h1, by rw [k.1.2.2.1]; exact h2, by rw [k.1.1]; exact h3, ⟨cap, c, ?_, by rw [k.2.2.2.1]; exact h5, h6, h7⟩, fun j hj => ?_, h9, fun s hs => ?_, fun s hs k' hk' => ?_⟩
  · exact ⟨by rw [k.1.n (nr 3 (by omega))]; exact h4.1, by rw [k.1.n (nr 4 (by omega))]; exact h4.2.1, by rw [k.1.n (nr 5 (by omega))]; exact h4.2.2.1, by rw [k.1.n (nr 6 (by omega))]; exact h4.2.2.2.1, h4.2.2.2.2⟩
  · have q := h8 j hj
    exact ⟨by rw [k.1.i (nr 3 (by omega))]; exact q.1, fun z => by rw [k.1.j (nr 4 (by omega))]; exact q.2.1 z, by rw [k.1.i (nr 5 (by omega))]; exact q.2.2.1, by rw [k.1.i (nr 6 (by omega))]; exact q.2.2.2⟩
  · rw [k.1.i (ng 4 (by omega))]; exact h10 s hs
  · rw [k.1.j (ng 3 (by omega))]; exact h11 s hs k' hk'
/-- a token's row, by the fields that come with it -/
theorem CS.tok (h : CS V g T L tc nm i o nb ub sv) : vI V 0 2 4 = nI i ∧ vI V 0 2 6 = clK (T i).1 ∧ ((T i).1 ≠ 3 → vJ V 0 2 7 = clX (T i)) ∧ vI V 0 2 8 = nI (T i).f ∧ vI V 0 2 9 = nI (T i).e := by
  have r := h.1.2.2.2.2.1 i h.2.2.1
  obtain ⟨t1, t2, t3, t4, t5⟩ := h.2.1
  exact ⟨t1, t2.trans r.1, fun z => t3.trans (r.2.1 z), t4.trans r.2.2.1, t5.trans r.2.2.2⟩
theorem clK_4 {c : Nat} : clK c = 4 ↔ 4 ≤ c := by
  unfold clK
  constructor
  · intro h
    by_cases c0 : c = 0
    · rw [if_pos c0] at h; exact absurd h (by decide)
    · rw [if_neg c0] at h
      by_cases c1 : c = 1
      · rw [if_pos c1] at h; exact absurd h (by decide)
      · rw [if_neg c1] at h
        by_cases c2 : c = 2
        · rw [if_pos c2] at h; exact absurd h (by decide)
        · rw [if_neg c2] at h
          by_cases c3 : c = 3
          · rw [if_pos c3] at h; exact absurd h (by decide)
          · omega
  · intro h
    rw [if_neg (by omega), if_neg (by omega), if_neg (by omega), if_neg (by omega)]
theorem clK_2 {c : Nat} : clK c = 2 ↔ c = 1 := by
  constructor
  · intro h
    by_cases c4 : 4 ≤ c
    · rw [clK_4.mpr c4] at h; exact absurd h (by decide)
    · have : c = 0 ∨ c = 1 ∨ c = 2 ∨ c = 3 := by omega
      rcases this with q | q | q | q
      · rw [q] at h; exact absurd h (by decide)
      · exact q
      · rw [q] at h; exact absurd h (by decide)
      · rw [q] at h; exact absurd h (by decide)
  · intro h; rw [h]; rfl
theorem clK_3 {c : Nat} : clK c = 3 ↔ c = 2 := by
  constructor
  · intro h
    by_cases c4 : 4 ≤ c
    · rw [clK_4.mpr c4] at h; exact absurd h (by decide)
    · have : c = 0 ∨ c = 1 ∨ c = 2 ∨ c = 3 := by omega
      rcases this with q | q | q | q
      · rw [q] at h; exact absurd h (by decide)
      · rw [q] at h; exact absurd h (by decide)
      · exact q
      · rw [q] at h; exact absurd h (by decide)
  · intro h; rw [h]; rfl
theorem clK_1 {c : Nat} : clK c = 1 ↔ c = 3 := by
  constructor
  · intro h
    by_cases c4 : 4 ≤ c
    · rw [clK_4.mpr c4] at h; exact absurd h (by decide)
    · have : c = 0 ∨ c = 1 ∨ c = 2 ∨ c = 3 := by omega
      rcases this with q | q | q | q
      · rw [q] at h; exact absurd h (by decide)
      · rw [q] at h; exact absurd h (by decide)
      · rw [q] at h; exact absurd h (by decide)
      · exact q
  · intro h; rw [h]; rfl
theorem clX_m {t : TK} (h : 4 ≤ t.1) : clX t = nL (clM t.1) := by unfold clX; rw [if_neg (by omega), if_neg (by omega)]
/-- the mark of code c -/
theorem CS.mark (h : CS V g T L tc nm i o nb ub sv) {c : Nat} {m : Int32} (hc : vcd c = true ∧ 4 ≤ c) (hm : m = nI (clM c)) : (vI V 0 2 6 = 4 ∧ vJ V 0 2 7 = Int32.toInt64 m) ↔ (T i).1 = c := by
  obtain ⟨_, t2, t3, _⟩ := h.tok
  have vc := (h.1.2.2.2.2.2.1.2.2 i).1
  have em : Int32.toInt64 m = nL (clM c) := by rw [hm]; exact i2l_nI (Nat.lt_trans (clM_lt c (vcd_lt hc.1)) (by decide))
  rw [t2, em, clK_4]
  constructor
  · rintro ⟨a, b⟩
    have b := (t3 (by omega)).symm.trans b
    rw [clX_m a] at b
    have l1 := clM_lt (T i).1 (vcd_lt vc)
    have l2 := clM_lt c (vcd_lt hc.1)
    exact clM_inj vc hc.1 a hc.2 (nL_inj (by omega) (by omega) b)
  · intro e
    have h4 : 4 ≤ (T i).1 := by omega
    exact ⟨h4, by rw [t3 (by omega), clX_m h4, e]⟩
theorem cs_is {c : Nat} {m : Int32} {K : Int32 → VH → Prop} (h : CS V g T L tc nm i o nb ub sv) (hc : vcd c = true ∧ 4 ≤ c) (hm : m = nI (clM c)) (hk : K (bI (decide ((T i).1 = c))) V) : vMI E d M_X10_is [sl 0 2, wi m] V K := by
  have q := h.mark hc hm
  refine c_is ?_
  by_cases z : (T i).1 = c
  · rw [decide_eq_true z] at hk
    rw [if_pos (q.mpr z)]; exact hk
  · rw [decide_eq_false z] at hk
    rw [if_neg (fun y => z (q.mp y))]; exact hk
theorem CS.fi {V' : VH} {S : Nat → Nat → Nat → Prop} (h : CS V g T L tc nm i o nb ub sv) (k : Fc V V' S) (q : ∀ a f j, S a f j → a = 0 ∧ f = 2 ∧ j ≠ 5 ∨ a = 0 ∧ f = 7 ∧ 5 ≤ j ∧ j ≤ 8) : Rdf V V' g := by
  obtain ⟨g0, g6⟩ := h.g0
  obtain ⟨c1, c2, c3, c4⟩ := h.2.2.2.2.2.2.2.2.2
  exact ⟨k.fr (fun a f j z => Or.inl (by have := q a f j z; omega)), fun j _ _ => k.i (fun z => by have := q _ _ _ z; omega), fun j hj => ⟨k.i (fun z => by have := q _ _ _ z; omega), k.j (fun z => by have := q _ _ _ z; omega)⟩, k.i (fun z => by have := q _ _ _ z; omega), by rw [k.n]; exact c1, by rw [k.n]; exact c2, by rw [k.n]; exact c3, by rw [k.n]; exact c4⟩
/-- cells of reading that change, but not those of steps and notes -/
theorem CS.mv {V' : VH} {S : Nat → Nat → Nat → Prop} {i' o' : Nat} {sv' : Int32} (h : CS V g T L tc nm i o nb ub sv) (k : Fc V V' S) (q : ∀ a f j, S a f j → a = 0 ∧ f = 2 ∧ j ≠ 5 ∨ a = 0 ∧ f = 7 ∧ 5 ≤ j ∧ j ≤ 8) (ht : TkA V' i') (hi : i ≤ i') (hL : i' ≤ L) (ho : vI V' 0 7 7 = nI o') (ho2 : o' ≤ 12) (hs : vI V' 0 7 8 = sv') (hz : ¬ S 0 2 10) : CS V' g T L tc nm i' o' nb ub sv' := by
  have r := h.fi k q
  obtain ⟨g0, g6⟩ := h.g0
  obtain ⟨hx, _, _, ⟨_, hcd⟩, _, _, ⟨n1, n2, n3, n4⟩, m1, m2, m3⟩ := h
  refine ⟨hx.r r, ht, hL, ⟨ho, by rw [k.i hz]; exact hcd⟩, ho2, hs, ⟨by rw [k.i (fun z => by have := q _ _ _ z; omega)]; exact n1, by rw [k.i (fun z => by have := q _ _ _ z; omega)]; exact n2, by omega, by omega⟩, by rw [k.n]; exact m1, by rw [k.n]; exact m2, ?_⟩
  rw [k.n]; exact m3
/-- the next token -/
theorem cs_step {K : VH → Prop} (h : CS V g T L tc nm i o nb ub sv) (h0 : (T i).1 ≠ 0) (h3 : (T i).1 ≠ 3) (hk : ∀ V', Rdf V V' g → CS V' g T L tc nm (i + 1) o nb ub sv → Apd V V' g ub nb [] [] → K V') : vMV E d M_X10_step [sl 0 2] V K := by
  obtain ⟨g0, g6⟩ := h.g0
  have hlt := h.1.2.2.2.2.2.1.1.lt h.2.2.1 h0 h3
  obtain ⟨cap, c, c1, c2, c3, c4⟩ := h.1.2.2.2.1
  refine c_step c1 c2 c4 h.tok.1 (by omega) (fun V' f t => ?_)
  rw [show min (i + 1) c = i + 1 from by omega] at t
  have q : ∀ a f j, stS a f j → a = 0 ∧ f = 2 ∧ j ≠ 5 ∨ a = 0 ∧ f = 7 ∧ 5 ≤ j ∧ j ≤ 8 := fun a f j z => Or.inl ⟨z.1, z.2.1, by have := z.2.2; omega⟩
  refine hk V' (h.fi f q) (h.mv f q t (by omega) hlt (by rw [f.i (fun z => by have := z.2.1; omega)]; exact h.2.2.2.1.1) h.2.2.2.2.1 (by rw [f.i (fun z => by have := z.2.1; omega)]; exact h.2.2.2.2.2.1) (fun z => by have := z.2.2; omega)) ⟨fun j _ => f.i (fun z => g0 z.1), fun j hj => absurd hj (Nat.not_lt_zero j), fun j _ => f.i (fun z => g0 z.1), fun j hj => absurd hj (Nat.not_lt_zero j)⟩
theorem rfe_c {V : VH} (h : CS V g T L tc nm i o nb ub sv) : (if vI V 0 2 6 = 1 then (1 : Int32) else 2) = nI (rfe T i).1 := by
  have t2 := h.tok.2.1
  unfold rfe
  by_cases c : (T i).1 = 3
  · rw [if_pos (by rw [t2]; exact clK_1.mpr c), if_pos c]; rfl
  · rw [if_neg (by rw [t2]; exact fun z => c (clK_1.mp z)), if_neg c]; rfl
theorem cs_refuse {K : Int32 → VH → Prop} (h : CS V g T L tc nm i o nb ub sv) (hk : ∀ V', Rdf V V' g → Flt V' (rfe T i) → K 0 V') : vMI E d M_X10_refuse [sl 0 2] V K := by
  refine c_refuse (fun V' f a b => hk V' (h.fi f (fun a f j z => Or.inl ⟨z.1, z.2.1, by have := z.2.2; omega⟩)) ⟨by rw [a]; exact rfe_c h, by rw [b]; exact h.tok.2.2.2.1⟩)
theorem cs_fail {c p : Nat} {x y : Int32} {K : Int32 → VH → Prop} (h : CS V g T L tc nm i o nb ub sv) (hx : x = nI c) (hy : y = nI p) (hk : ∀ V', Rdf V V' g → Flt V' (c, p) → K 0 V') : vMI E d M_X10_fail [sl 0 2, wi x, wi y] V K :=
  c_fail (fun V' f a b => hk V' (h.fi f (fun a f j z => Or.inl ⟨z.1, z.2.1, by have := z.2.2; omega⟩)) ⟨a.trans hx, b.trans hy⟩)
theorem cs_accept {c : Nat} {m : Int32} {K : Int32 → VH → Prop} (h0 : 0 < d) (h : CS V g T L tc nm i o nb ub sv) (hc : vcd c = true ∧ 4 ≤ c) (hm : m = nI (clM c)) (hn : (T i).1 ≠ c → ∀ V', Rdf V V' g → Flt V' (rfe T i) → K 0 V') (hy : (T i).1 = c → ∀ V', Rdf V V' g → CS V' g T L tc nm (i + 1) o nb ub sv → Apd V V' g ub nb [] [] → K 1 V') : vMI E d M_X10_accept [sl 0 2, wi m] V K := by
  have q := h.mark hc hm
  have no : (T i).1 ≠ c → vwp E d M_X10_accept 18 [some (sl 0 2), some (wi m)] [] V (zi K) := fun z => w_X10_accept_18 h0 (cs_refuse h (fun V' a b => ⟨Or.inl rfl, hn z V' a b⟩))
  refine w_X10_accept_0 h0 ⟨fun z => no (fun y => z (q.mpr y).1), fun z => ⟨fun z2 => ?_, fun z2 => no (fun y => z2 (q.mpr y).2)⟩⟩
  have e := q.mp ⟨z, z2⟩
  exact cs_step h (by omega) (by omega) (hy e)
theorem nI_lt12 {o : Nat} (h : o ≤ 12) : nI o < 12 ↔ ¬ 12 ≤ o := by
  rw [show (12 : Int32) = nI 12 from rfl, nI_ltI (by omega) (by decide)]; omega
theorem cs_enter {c : Nat} {m : Int32} {K : Int32 → VH → Prop} (h0 : 0 < d) (h : CS V g T L tc nm i o nb ub sv) (hc : vcd c = true ∧ 4 ≤ c) (hm : m = nI (clM c)) (hn : (T i).1 ≠ c → ∀ V', Rdf V V' g → Flt V' (rfe T i) → K 0 V') (h7 : (T i).1 = c → 12 ≤ o → ∀ V', Rdf V V' g → Flt V' (7, (T i).f) → K 0 V') (hy : (T i).1 = c → ¬ 12 ≤ o → ∀ V', Rdf V V' g → CS V' g T L tc nm (i + 1) (o + 1) nb ub sv → Apd V V' g ub nb [] [] → K 1 V') : vMI E d M_X5_enter [sl 0 7, wi m] V K := by
  obtain ⟨g0, g6⟩ := h.g0
  refine w_X5_enter_0 h0 (cs_is h hc hm ?_)
  by_cases e : (T i).1 = c
  · rw [decide_eq_true e]
    refine ⟨fun _ => ?_, fun z => absurd z (by decide)⟩
    rw [h.2.2.2.1.1, nI_lt12 h.2.2.2.2.1]
    refine ⟨fun z V3 e3 => ?_, fun z => cs_fail h rfl h.tok.2.2.2.1 (fun V' a b => ⟨Or.inl rfl, h7 e (by omega) V' a b⟩)⟩
    have f3 : Fc V V3 (fun a f j => a = 0 ∧ f = 7 ∧ j = 7) := by rw [e3]; exact Fc_wrI ⟨rfl, rfl, rfl⟩
    have q3 : ∀ a f j, (fun a f j => a = 0 ∧ f = 7 ∧ j = 7) a f j → a = 0 ∧ f = 2 ∧ j ≠ 5 ∨ a = 0 ∧ f = 7 ∧ 5 ≤ j ∧ j ≤ 8 := fun a f j z => Or.inr ⟨z.1, z.2.1, by omega, by omega⟩
    have t3 : TkA V3 i := by
      rw [e3]
      obtain ⟨t1, t2, t3, t4, t5⟩ := h.2.1
      exact ⟨(wrI_ne (fun z => by omega)).trans t1, (wrI_ne (fun z => by omega)).trans (t2.trans (wrI_ne (fun z => by omega)).symm), t3, (wrI_ne (fun z => by omega)).trans (t4.trans (wrI_ne (fun z => by omega)).symm), (wrI_ne (fun z => by omega)).trans (t5.trans (wrI_ne (fun z => by omega)).symm)⟩
    have s3 : CS V3 g T L tc nm i (o + 1) nb ub sv := h.mv f3 q3 t3 (Nat.le_refl _) h.2.2.1 (by rw [e3, wrI_at, nI_1]) (by omega) (by rw [e3, wrI_ne (fun z => by omega)]; exact h.2.2.2.2.2.1) (fun z => by have := z.2.1; omega)
    refine cs_step s3 (by omega) (by omega) (fun V' r s a => hy e z V' ((h.fi f3 q3).trans r) s ?_)
    have a3 : Apd V V3 g ub nb [] [] := ⟨fun j _ => by rw [e3, wrI_ne (fun z => g0 z.1)], fun j hj => absurd hj (Nat.not_lt_zero j), fun j _ => by rw [e3, wrI_ne (fun z => g0 z.1)], fun j hj => absurd hj (Nat.not_lt_zero j)⟩
    exact a3.trans a
  · rw [decide_eq_false e]
    exact ⟨fun z => absurd rfl z, fun _ => cs_refuse h (fun V' a b => ⟨Or.inl rfl, hn e V' a b⟩)⟩
/-- one thing less is open -/
theorem CS.less {V1 : VH} (h : CS V g T L tc nm i (o + 1) nb ub sv) (e1 : V1 = wrI V 0 7 7 (vI V 0 7 7 - 1)) : Rdf V V1 g ∧ CS V1 g T L tc nm i o nb ub sv ∧ Apd V V1 g ub nb [] [] := by
  obtain ⟨g0, g6⟩ := h.g0
  have f3 : Fc V V1 (fun a f j => a = 0 ∧ f = 7 ∧ j = 7) := by rw [e1]; exact Fc_wrI ⟨rfl, rfl, rfl⟩
  have q3 : ∀ a f j, (fun a f j => a = 0 ∧ f = 7 ∧ j = 7) a f j → a = 0 ∧ f = 2 ∧ j ≠ 5 ∨ a = 0 ∧ f = 7 ∧ 5 ≤ j ∧ j ≤ 8 := fun a f j z => Or.inr ⟨z.1, z.2.1, by omega, by omega⟩
  have t3 : TkA V1 i := by
    rw [e1]
    obtain ⟨t1, t2, t3, t4, t5⟩ := h.2.1
    exact ⟨(wrI_ne (fun z => by omega)).trans t1, (wrI_ne (fun z => by omega)).trans (t2.trans (wrI_ne (fun z => by omega)).symm), t3, (wrI_ne (fun z => by omega)).trans (t4.trans (wrI_ne (fun z => by omega)).symm), (wrI_ne (fun z => by omega)).trans (t5.trans (wrI_ne (fun z => by omega)).symm)⟩
  refine ⟨h.fi f3 q3, h.mv f3 q3 t3 (Nat.le_refl _) h.2.2.1 ?_ (by have := h.2.2.2.2.1; omega) (by rw [e1, wrI_ne (fun z => by omega)]; exact h.2.2.2.2.2.1) (fun z => by have := z.2.1; omega), ⟨fun j _ => by rw [e1, wrI_ne (fun z => g0 z.1)], fun j hj => absurd hj (Nat.not_lt_zero j), fun j _ => by rw [e1, wrI_ne (fun z => g0 z.1)], fun j hj => absurd hj (Nat.not_lt_zero j)⟩⟩
  rw [e1, wrI_at, h.2.2.2.1.1, nI_pred]
theorem cs_leave {c : Nat} {m : Int32} {K : Int32 → VH → Prop} (h0 : 1 < d) (h : CS V g T L tc nm i (o + 1) nb ub sv) (hc : vcd c = true ∧ 4 ≤ c) (hm : m = nI (clM c)) (hn : (T i).1 ≠ c → ∀ V', Rdf V V' g → Flt V' (rfe T i) → K 0 V') (hy : (T i).1 = c → ∀ V', Rdf V V' g → CS V' g T L tc nm (i + 1) o nb ub sv → Apd V V' g ub nb [] [] → K 1 V') : vMI E d M_X5_leave [sl 0 7, wi m] V K := by
  refine w_X5_leave_0 (by omega) (fun V1 e1 => ?_)
  obtain ⟨r, s, a⟩ := h.less e1
  exact cs_accept (by omega) s hc hm (fun z V' r2 f => ⟨Or.inl rfl, hn z V' (r.trans r2) f⟩) (fun z V' r2 s2 a2 => ⟨Or.inr rfl, hy z V' (r.trans r2) s2 (a.trans a2)⟩)
/-- one more step -/
theorem cs_emit {x y : Int32} {K : Int32 → VH → Prop} (h0 : 1 < d) (h : CS V g T L tc nm i o nb ub sv) (hu : ub + 2 ≤ 2 * i) (hk : ∀ V', Rdf V V' g → CS V' g T L tc nm i o nb (ub + 2) sv → Apd V V' g ub nb [(x, y)] [] → K 1 V') : vMI E d M_X2_emit [sl g 9, wi x, wi y] V K := by
  obtain ⟨g0, g6⟩ := h.g0
  obtain ⟨hx, ht, hi, ho, ho2, hs, ⟨n1, n2, n3, n4⟩, m1, m2, m3, m4, m5, m6⟩ := id h
  have hL := hx.2.2.2.2.2.1.2.1
  have go : ∀ W : VH, Fr V W (fun a f => a = g ∧ f = 15) → (∀ k, k < ub → vI W g 15 k = vI V g 15 k) → ub + 2 ≤ vN W g 15 → 64 ≤ vN W g 15 → vN W g 15 ≤ 100000 → vwp E d M_X2_emit 32 [some (sl g 9), some (wi x), some (wi y)] [] W (zi K) := fun W w wk w1 w2 w3 => by
    have hgw : PG (vL W) g := by rw [w.1]; exact hx.2.2.1
    have u1 : vI W g 9 10 = nI ub := by rw [w.i (fun z => by omega)]; exact n2
    refine w_X2_emit_32 hgw ?_
    rw [u1, show nI ub + 2 = nI (ub + 2) from nI_add ub 2, nI_clamp (show ub < 2 ^ 31 by omega)]
    refine ⟨fun _ => ⟨vp_in_nI (by omega) (by omega), fun V2 e2 => ?_⟩, fun z => absurd (nI_le w1 (by omega)) z⟩
    have u2 : vI V2 g 9 10 = nI ub := by rw [e2, wrI_ne (fun z => by omega)]; exact u1
    rw [u2, nI_1, nI_clamp (show ub + 1 < 2 ^ 31 by omega)]
    refine ⟨by rw [e2]; exact vp_in_nI (show ub + 1 < vN W g 15 by omega) (show vN W g 15 < 2 ^ 31 by omega), fun V4 e4 => ?_⟩
    have u4 : vI V4 g 9 10 = nI ub := by rw [e4, wrI_ne (fun z => by omega)]; exact u2
    rw [u4, show nI ub + 2 = nI (ub + 2) from nI_add ub 2]
    intro V5 e5
    have f5 : Fr W V5 (rdR g) := by
      rw [e5, e4, e2]
      exact ((Fr_wrI (Or.inr ⟨rfl, Or.inr (Or.inl rfl)⟩)).trans (Fr_wrI (Or.inr ⟨rfl, Or.inr (Or.inl rfl)⟩))).trans (Fr_wrI (Or.inr ⟨rfl, Or.inl rfl⟩))
    have fw : Fr V W (rdR g) := w.mono (fun a f z => Or.inr ⟨z.1, Or.inr (Or.inl z.2)⟩)
    have i5 : ∀ a f k, ¬ (a = g ∧ f = 15) → ¬ (a = g ∧ f = 9 ∧ k = 10) → vI V5 a f k = vI V a f k := fun a f k q1 q2 => by
      rw [e5, wrI_ne (fun z => q2 z), e4, wrI_ne (fun z => q1 ⟨z.1, z.2.1⟩), e2, wrI_ne (fun z => q1 ⟨z.1, z.2.1⟩), w.i q1]
    have j5 : ∀ a f, ¬ (a = g ∧ f = 15) → vJ V5 a f = vJ V a f := fun a f q1 => by
      rw [e5, e4, e2]; exact w.j q1
    have n5 : ∀ a f, vN V5 a f = vN W a f := fun a f => by rw [e5, e4, e2]; rfl
    have n16 : vN V5 g 16 = vN V g 16 := by rw [n5, w.n (fun z => by omega)]
    have r : Rdf V V5 g := ⟨fw.trans f5, fun k k3 k10 => i5 g 9 k (fun z => by omega) (fun z => by omega), fun k _ => ⟨i5 0 7 k (fun z => g0 z.1.symm) (fun z => g0 z.1.symm), by rw [j5 0 7 (fun z => g0 z.1.symm)]⟩, i5 0 2 5 (fun z => g0 z.1.symm) (fun z => g0 z.1.symm), by rw [n5]; exact w2, by rw [n5]; exact w3, by rw [n16]; exact m5, by rw [n16]; exact m6⟩
    have t5 : TkA V5 i := by
      obtain ⟨t1, t2, t3, t4, t5⟩ := ht
      have z : ∀ f k, vI V5 0 f k = vI V 0 f k := fun f k => i5 0 f k (fun z => g0 z.1.symm) (fun z => g0 z.1.symm)
      have zj : ∀ f, vJ V5 0 f = vJ V 0 f := fun f => j5 0 f (fun z => g0 z.1.symm)
      exact ⟨by rw [z]; exact t1, by rw [z, z]; exact t2, by rw [zj, zj]; exact t3, by rw [z, z]; exact t4, by rw [z, z]; exact t5⟩
    refine hk V5 r ⟨hx.r r, t5, hi, ⟨by rw [i5 0 7 7 (fun z => g0 z.1.symm) (fun z => g0 z.1.symm)]; exact ho.1, by rw [i5 0 2 10 (fun z => g0 z.1.symm) (fun z => g0 z.1.symm)]; exact ho.2⟩, ho2, by rw [i5 0 7 8 (fun z => g0 z.1.symm) (fun z => g0 z.1.symm)]; exact hs, ⟨by rw [i5 g 9 3 (fun z => by omega) (fun z => by omega)]; exact n1, by rw [e5, wrI_at], n3, hu⟩, by rw [n16]; exact m1, by rw [n5]; exact w1, by rw [n5]; exact w2, by rw [n5]; exact w3, by rw [n16]; exact m5, by rw [n16]; exact m6⟩ ⟨fun k hk2 => ?_, fun k hk2 => ?_, fun k hk2 => ?_, fun k hk2 => absurd hk2 (Nat.not_lt_zero k)⟩
    · rw [e5, wrI_ne (fun z => by omega), e4, wrI_ne (fun z => by omega), e2, wrI_ne (fun z => by omega)]; exact wk k hk2
    · have : k = 0 := by have hk2 : k < 1 := hk2; omega
      subst this
      refine ⟨?_, ?_⟩
      · show vI V5 g 15 ub = x
        rw [e5, wrI_ne (fun z => by omega), e4, wrI_ne (fun z => by omega), e2, wrI_at]
      · show vI V5 g 15 (ub + 1) = y
        rw [e5, wrI_ne (fun z => by omega), e4, wrI_at]
    · exact i5 g 16 k (fun z => by omega) (fun z => by omega)
  refine w_X2_emit_0 h0 hx.2.2.1 m3 (by omega) (fun q => ?_) (fun q => ?_)
  · rw [n2, show nI ub + 2 = nI (ub + 2) from nI_add ub 2] at q
    have := (nI_leI (by omega) (by omega)).mp q
    exact go V Fr.refl (fun _ _ => rfl) this m3 m4
  · rw [n2, show nI ub + 2 = nI (ub + 2) from nI_add ub 2] at q
    have : ¬ ub + 2 ≤ vN V g 15 := fun z => q (nI_le z (by omega))
    have eN : vN (grI V g 15 (2 * vN V g 15)) g 15 = 2 * vN V g 15 := grN_at
    exact go _ (Fr_gro ⟨rfl, rfl⟩) (fun k hk2 => grI_lt k (by omega)) (by rw [eN]; omega) (by rw [eN]; omega) (by rw [eN]; omega)
/-- one more note -/
theorem cs_note {x : Int32} {K : Int32 → VH → Prop} (h0 : 1 < d) (h : CS V g T L tc nm i o nb ub sv) (hu : nb + 1 ≤ i) (hk : ∀ V', Rdf V V' g → CS V' g T L tc nm i o (nb + 1) ub sv → Apd V V' g ub nb [] [x] → K (nI nb) V') : vMI E d M_X2_note [sl g 9, wi x] V K := by
  obtain ⟨g0, g6⟩ := h.g0
  obtain ⟨hx, ht, hi, ho, ho2, hs, ⟨n1, n2, n3, n4⟩, m1, m2, m3, m4, m5, m6⟩ := id h
  have hL := hx.2.2.2.2.2.1.2.1
  have go : ∀ W : VH, Fr V W (fun a f => a = g ∧ f = 16) → (∀ k, k < nb → vI W g 16 k = vI V g 16 k) → nb + 1 ≤ vN W g 16 → 64 ≤ vN W g 16 → vN W g 16 ≤ 50000 → vwp E d M_X2_note 30 [some (sl g 9), some (wi x)] [] W (zi K) := fun W w wk w1 w2 w3 => by
    have hgw : PG (vL W) g := by rw [w.1]; exact hx.2.2.1
    have u1 : vI W g 9 3 = nI nb := by rw [w.i (fun z => by omega)]; exact n1
    refine w_X2_note_30 hgw ?_
    rw [u1, nI_clamp (show nb < 2 ^ 31 by omega)]
    refine ⟨fun _ => ⟨vp_in_nI (by omega) (by omega), fun V2 e2 => ?_⟩, fun z => absurd (nI_lt (by omega) (by omega)) z⟩
    have u2 : vI V2 g 9 3 = nI nb := by rw [e2, wrI_ne (fun z => by omega)]; exact u1
    rw [u2, nI_1]
    intro V5 e5
    have f5 : Fr W V5 (rdR g) := by
      rw [e5, e2]
      exact (Fr_wrI (Or.inr ⟨rfl, Or.inr (Or.inr rfl)⟩)).trans (Fr_wrI (Or.inr ⟨rfl, Or.inl rfl⟩))
    have fw : Fr V W (rdR g) := w.mono (fun a f z => Or.inr ⟨z.1, Or.inr (Or.inr z.2)⟩)
    have i5 : ∀ a f k, ¬ (a = g ∧ f = 16) → ¬ (a = g ∧ f = 9 ∧ k = 3) → vI V5 a f k = vI V a f k := fun a f k q1 q2 => by
      rw [e5, wrI_ne (fun z => q2 z), e2, wrI_ne (fun z => q1 ⟨z.1, z.2.1⟩), w.i q1]
    have j5 : ∀ a f, ¬ (a = g ∧ f = 16) → vJ V5 a f = vJ V a f := fun a f q1 => by
      rw [e5, e2]; exact w.j q1
    have n5 : ∀ a f, vN V5 a f = vN W a f := fun a f => by rw [e5, e2]; rfl
    have n15 : vN V5 g 15 = vN V g 15 := by rw [n5, w.n (fun z => by omega)]
    have r : Rdf V V5 g := ⟨fw.trans f5, fun k k3 k10 => i5 g 9 k (fun z => by omega) (fun z => by omega), fun k _ => ⟨i5 0 7 k (fun z => g0 z.1.symm) (fun z => g0 z.1.symm), by rw [j5 0 7 (fun z => g0 z.1.symm)]⟩, i5 0 2 5 (fun z => g0 z.1.symm) (fun z => g0 z.1.symm), by rw [n15]; exact m3, by rw [n15]; exact m4, by rw [n5]; exact w2, by rw [n5]; exact w3⟩
    have t5 : TkA V5 i := by
      obtain ⟨t1, t2, t3, t4, t5⟩ := ht
      have z : ∀ f k, vI V5 0 f k = vI V 0 f k := fun f k => i5 0 f k (fun z => g0 z.1.symm) (fun z => g0 z.1.symm)
      have zj : ∀ f, vJ V5 0 f = vJ V 0 f := fun f => j5 0 f (fun z => g0 z.1.symm)
      exact ⟨by rw [z]; exact t1, by rw [z, z]; exact t2, by rw [zj, zj]; exact t3, by rw [z, z]; exact t4, by rw [z, z]; exact t5⟩
    refine hk V5 r ⟨hx.r r, t5, hi, ⟨by rw [i5 0 7 7 (fun z => g0 z.1.symm) (fun z => g0 z.1.symm)]; exact ho.1, by rw [i5 0 2 10 (fun z => g0 z.1.symm) (fun z => g0 z.1.symm)]; exact ho.2⟩, ho2, by rw [i5 0 7 8 (fun z => g0 z.1.symm) (fun z => g0 z.1.symm)]; exact hs, ⟨by rw [e5, wrI_at], by rw [i5 g 9 10 (fun z => by omega) (fun z => by omega)]; exact n2, hu, n4⟩, by rw [n5]; exact w1, by rw [n15]; exact m2, by rw [n15]; exact m3, by rw [n15]; exact m4, by rw [n5]; exact w2, by rw [n5]; exact w3⟩ ⟨fun k hk2 => ?_, fun k hk2 => absurd hk2 (Nat.not_lt_zero k), fun k hk2 => ?_, fun k hk2 => ?_⟩
    · exact i5 g 15 k (fun z => by omega) (fun z => by omega)
    · rw [e5, wrI_ne (fun z => by omega), e2, wrI_ne (fun z => by omega)]; exact wk k hk2
    · have : k = 0 := by have hk2 : k < 1 := hk2; omega
      subst this
      show vI V5 g 16 nb = x
      rw [e5, wrI_ne (fun z => by omega), e2, wrI_at]
  refine w_X2_note_0 h0 hx.2.2.1 m5 (by omega) (fun q => ?_) (fun q => ?_)
  · rw [n1] at q
    have := (nI_ltI (by omega) (by omega)).mp q
    exact go V Fr.refl (fun _ _ => rfl) this m5 m6
  · rw [n1] at q
    have : ¬ nb < vN V g 16 := fun z => q (nI_lt z (by omega))
    have eN : vN (grI V g 16 (2 * vN V g 16)) g 16 = 2 * vN V g 16 := grN_at
    exact go _ (Fr_gro ⟨rfl, rfl⟩) (fun k hk2 => grI_lt k (by omega)) (by rw [eN]; omega) (by rw [eN]; omega) (by rw [eN]; omega)
/-- a note is amended -/
theorem cs_amend {j : Nat} {x : Int32} {K : VH → Prop} (h : CS V g T L tc nm i o nb ub sv) (hj : j < nb) (hk : ∀ V', Rdf V V' g → CS V' g T L tc nm i o nb ub sv → (∀ k, vI V' g 15 k = vI V g 15 k) → (∀ k, k ≠ j → vI V' g 16 k = vI V g 16 k) → vI V' g 16 j = x → K V') : vMV E d M_X2_amend [sl g 9, wi (nI j), wi x] V K := by
  obtain ⟨g0, g6⟩ := h.g0
  obtain ⟨hx, ht, hi, ho, ho2, hs, ⟨n1, n2, n3, n4⟩, m1, m2, m3, m4, m5, m6⟩ := id h
  have hL := hx.2.2.2.2.2.1.2.1
  refine w_X2_amend_0 hx.2.2.1 ⟨fun q => absurd q (nI_pos (by omega)), fun _ => ⟨fun q => absurd q (by rw [n1]; exact nI_ge hj (by omega)), fun _ => ⟨vp_in_nI (by omega) (by omega), fun V5 e5 => ?_⟩⟩⟩
  rw [nI_clamp (show j < 2 ^ 31 by omega)] at e5
  have i5 : ∀ a f k, ¬ (a = g ∧ f = 16) → vI V5 a f k = vI V a f k := fun a f k q1 => by rw [e5, wrI_ne (fun z => q1 ⟨z.1, z.2.1⟩)]
  have r : Rdf V V5 g := ⟨by rw [e5]; exact Fr_wrI (Or.inr ⟨rfl, Or.inr (Or.inr rfl)⟩), fun k _ _ => i5 g 9 k (fun z => by omega), fun k _ => ⟨i5 0 7 k (fun z => g0 z.1.symm), by rw [e5]; rfl⟩, i5 0 2 5 (fun z => g0 z.1.symm), by rw [e5]; exact m3, by rw [e5]; exact m4, by rw [e5]; exact m5, by rw [e5]; exact m6⟩
  have t5 : TkA V5 i := by
    obtain ⟨t1, t2, t3, t4, t5⟩ := ht
    have z : ∀ f k, vI V5 0 f k = vI V 0 f k := fun f k => i5 0 f k (fun z => g0 z.1.symm)
    have zj : ∀ f, vJ V5 0 f = vJ V 0 f := fun f => by rw [e5]; rfl
    exact ⟨by rw [z]; exact t1, by rw [z, z]; exact t2, by rw [zj, zj]; exact t3, by rw [z, z]; exact t4, by rw [z, z]; exact t5⟩
  refine hk V5 r ⟨hx.r r, t5, hi, ⟨by rw [i5 0 7 7 (fun z => g0 z.1.symm)]; exact ho.1, by rw [i5 0 2 10 (fun z => g0 z.1.symm)]; exact ho.2⟩, ho2, by rw [i5 0 7 8 (fun z => g0 z.1.symm)]; exact hs, ⟨by rw [i5 g 9 3 (fun z => by omega)]; exact n1, by rw [i5 g 9 10 (fun z => by omega)]; exact n2, n3, n4⟩, by rw [e5]; exact m1, by rw [e5]; exact m2, by rw [e5]; exact m3, by rw [e5]; exact m4, by rw [e5]; exact m5, by rw [e5]; exact m6⟩ (fun k => i5 g 15 k (fun z => by omega)) (fun k hk2 => by rw [e5, wrI_ne (fun z => hk2 z.2.2)]) (by rw [e5, wrI_at])
end
