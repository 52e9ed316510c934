/-! the invariant -/
/-- the tape -/
def TpJ (V : VH) : Prop := ∃ n, Byt V 0 0 n ∧ TpM V n ∧ ∀ i, i < n → vI V 0 1 i = vI V 6 1 i
/-- the last fault; above and below -/
def BdJ (V : VH) : Prop := vI V 0 28 9 = vI V 6 0 4 ∧ vJ V 0 28 10 = vJ V 6 0 2 ∧ vJ V 0 28 11 = vJ V 6 0 3
/-- the last search -/
def SeJ (V : VH) : Prop := (vI V 0 16 0 = 0 ↔ vI V 6 0 79 = 0) ∧ (¬ vI V 0 16 0 = 0 → vI V 0 16 1 = vI V 6 0 77 ∧ vI V 0 16 2 = vI V 6 0 76 ∧ vI V 0 16 3 = vI V 6 0 78)
/-- a row of the store that can be loaded -/
def RowOK (b : Nat → Nat) (s e : Nat) : Prop := ∃ (t : Nat → Int32) (n : Nat) (R : List SR) (nt fa : Nat → Int32) (pl cs : Nat → Nat) (x : Nat), PrS t n R nt ∧ b s = 211 ∧ pkb (fun j => b (s + 1 + j)) 2 = n ∧ (∀ i, i < n → b (s + 3 + i) = bt t i) ∧ (∀ k, k < tcR R 0 → Bd (fa k) ∧ pkb (fun j => b (s + 3 + n + 4 * k + j)) 4 = (fa k).toBitVec.toNat) ∧ (∀ v, v < tcR R 1 → pl v < szR R v ∧ b (s + 3 + n + 4 * tcR R 0 + 3 * v) = bt (vlR R v) (pl v) ∧ pkb (fun j => b (s + 3 + n + 4 * tcR R 0 + 3 * v + 1 + j)) 2 = cs v ∧ cs v ≤ 1000) ∧ pkb (fun j => b (s + 3 + n + 4 * tcR R 0 + 3 * tcR R 1 + j)) 2 = x ∧ x < 2 ^ tcR R 1 ∧ e = s + 3 + n + 4 * tcR R 0 + 3 * tcR R 1 + 10
/-- the store -/
def StJ (V : VH) : Prop := ∃ (c m : Nat) (en : Nat → Nat), (vI V 0 23 1 = nI c ∧ vI V 6 0 91 = nI c ∧ c ≤ 100) ∧ (Byt V 0 24 m ∧ StM V m ∧ ∀ i, i < m → vI V 0 25 i = vI V 6 59 i) ∧ (en 0 = 0 ∧ en c = m ∧ (∀ k, k < c → vI V 0 26 k = nI (en (k + 1)) ∧ en k ≤ en (k + 1) ∧ RowOK (bt (vI V 0 25)) (en k) (en (k + 1))) ∧ ∀ k, k ≤ c → vI V 6 60 k = nI (en k)) ∧ (vI V 0 23 4 = -1 ∧ vI V 6 0 92 = -1 ∨ ∃ w, w ≤ c ∧ vI V 0 23 4 = nI w ∧ vI V 6 0 92 = nI w)
/-- rows of problems that there are -/
def GrJ (V : VH) : Prop := (∀ g, 1 ≤ g → g ≤ 5 → ¬ vL V g = true → vP V ≠ g ∧ vQ V ≠ g) ∧ ∀ g, 1 ≤ g → g ≤ 5 → vL V g = true → CpS V g ∧ TbN V g ∧ ∃ n, Byt V g 1 n
/-- stamps -/
def StpJ (B : Nat) (V : VH) : Prop := ∃ (s : Nat → Nat) (c : Nat), (∀ q, q < 5 → vI V 6 33 q = nI (s q) ∧ s q ≤ B) ∧ vI V 6 0 63 = nI c ∧ c ≤ B ∧ ∀ q, q < 5 → vI V 6 0 62 = nI q → c ≤ s q
/-- futures -/
def FuJ (V : VH) (q nf : Nat) : Prop := ∃ u, u ≤ 6 ∧ vI V (q + 1) 0 11 = nI u ∧ vI V 6 29 q = nI u ∧ ∀ j, j < u → (∃ o, vI V (q + 1) 29 j = nI o ∧ vI V 6 30 (6 * q + j) = nI o ∧ 1 ≤ o ∧ o ≤ 100) ∧ ∀ f, f < nf → (tst (vI V (q + 1) 25 j) f = true ↔ ¬ vI V 6 31 (96 * q + (16 * j + f)) = 0) ∧ (tst (vI V (q + 1) 25 j) f = true → vI V (q + 1) 26 (16 * j + f) = vI V 6 32 (96 * q + (16 * j + f)) ∧ Bd (vI V 6 32 (96 * q + (16 * j + f))))
/-- the class's table -/
def TabC (V : VH) (g : Nat) (R : List SR) (nt fa : Nat → Int32) : Prop := vI V g 19 0 = 0 ∨ Tb V g (plR R) (stP (szR R) (tcR R 1) (vlR R) (DR R nt) (tcR R 2) fa) (scP (szR R) (tcR R 1) (vlR R) (DR R nt) (DRa R nt) (lvn R) (aln R) (wtR R) (tcR R 2) (tcR R 3) fa) ∧ vI V g 19 1 = evb (stP (szR R) (tcR R 1) (vlR R) (DR R nt) (tcR R 2) fa) (plR R)
def WqR (V : VH) (R : List SR) (nt fa : Nat → Int32) : Prop := Wq V (tcR R 1) (szR R) (vlR R) (tcR R 2) (tcR R 3) (lvn R) (aln R) (wtR R) (DR R nt) (DRa R nt) fa (plR R)
/-- what the reference knows -/
def CchM (V : VH) (q : Nat) (R : List SR) (nt fa : Nat → Int32) : Prop := vI V 6 0 62 = nI q → vI V 6 0 63 = vI V 6 33 q → WqR V R nt fa
/-- problem q is in both -/
def PbI (V : VH) (q : Nat) (t : Nat → Int32) (n : Nat) (R : List SR) (nt fa : Nat → Int32) (h : Nat) (x : Int32) (cs : Nat → Int32) : Prop := PrS t n R nt ∧ PrC V (q + 1) t n R nt fa h x cs ∧ PrM V q t n R fa h x cs ∧ (¬ vI V (q + 1) 0 0 = 0 ∧ ¬ vI V 6 2 q = 0) ∧ FuJ V q (tcR R 0) ∧ TabC V (q + 1) R nt fa ∧ CchM V q R nt fa ∧ ∀ v, tcR R 1 ≤ v → tst x v = false
def PbJ (V : VH) (q : Nat) : Prop := (vI V 6 2 q = 0 ∧ (vL V (q + 1) = true → vI V (q + 1) 0 0 = 0)) ∨ ∃ t n R nt fa h x cs, PbI V q t n R nt fa h x cs
/-- rows of tokens; the row of sets is empty or long enough -/
def TkJ (V : VH) (cap : Nat) : Prop := TkN V cap ∧ (vN V 0 15 = 0 ∨ 4096 ≤ vN V 0 15)
def JS (B : Nat) (V : VH) : Prop := TpJ V ∧ BdJ V ∧ (∃ cap, TkJ V cap) ∧ SeJ V ∧ StJ V ∧ GrJ V ∧ StpJ B V ∧ CapOK V ∧ ∀ q, q < 4 → PbJ V q
/-- cells of both that are kept from call to call, but those of problems -/
def Glo (a f j : Nat) : Prop := a = 0 ∧ (f = 0 ∨ f = 1 ∨ f = 16 ∧ j < 4 ∨ f = 23 ∨ f = 24 ∨ f = 25 ∨ f = 26 ∨ f = 28) ∨ a = 6 ∧ (f = 0 ∧ (j = 1 ∨ j = 2 ∨ j = 3 ∨ j = 4 ∨ 76 ≤ j ∧ j ≤ 79 ∨ j = 89 ∨ j = 91 ∨ j = 92) ∨ f = 1 ∨ f = 59 ∨ f = 60)
/-- cells of problem q -/
def OfP (q a f j : Nat) : Prop := a = q + 1 ∨ a = 6 ∧ (f = 2 ∧ j = q ∨ ofQ q f j)
/-- cells of what the reference knows -/
def Cch (a f j : Nat) : Prop := a = 6 ∧ (f = 0 ∧ (j = 62 ∨ j = 63) ∨ f = 43 ∨ f = 44 ∨ f = 45)
section
variable {V V' : VH} {S : Nat → Nat → Nat → Prop} {B q : Nat}
theorem Byt.fc2 {b c n : Nat} (h : Byt V b c n) (k : Fc V V' S) (q1 : ¬ S b c 1) : Byt V' b c n := by
  obtain ⟨h1, h2, h3, h4, h5⟩ := h
  exact ⟨by rw [k.l]; exact h1, by rw [k.i q1]; exact h2, by rw [k.n]; exact h3, by rw [k.n]; exact h4, by rw [k.n]; exact h5⟩
theorem TpJ.fc (h : TpJ V) (k : Fc V V' S) (q : ∀ a f j, S a f j → ¬ Glo a f j) : TpJ V' := by
  obtain ⟨n, h1, h2, h3⟩ := h
  have g : ∀ a f j, Glo a f j → vI V' a f j = vI V a f j := fun a f j z => k.i (fun y => q a f j y z)
  exact ⟨n, h1.fc2 k (fun y => q _ _ _ y (by unfold Glo; omega)), ⟨by rw [g 6 0 1 (by unfold Glo; omega)]; exact h2.1, h2.2⟩, fun i hi => by rw [g 0 1 i (by unfold Glo; omega), g 6 1 i (by unfold Glo; omega)]; exact h3 i hi⟩
theorem BdJ.fc (h : BdJ V) (k : Fc V V' S) (q : ∀ a f j, S a f j → ¬ Glo a f j) : BdJ V' := by
  have g : ∀ a f j, Glo a f j → vI V' a f j = vI V a f j := fun a f j z => k.i (fun y => q a f j y z)
  have gj : ∀ a f j, Glo a f j → vJ V' a f j = vJ V a f j := fun a f j z => k.j (fun y => q a f j y z)
  exact ⟨by rw [g 0 28 9 (by unfold Glo; omega), g 6 0 4 (by unfold Glo; omega)]; exact h.1, by rw [gj 0 28 10 (by unfold Glo; omega), gj 6 0 2 (by unfold Glo; omega)]; exact h.2.1, by rw [gj 0 28 11 (by unfold Glo; omega), gj 6 0 3 (by unfold Glo; omega)]; exact h.2.2⟩
theorem SeJ.fc (h : SeJ V) (k : Fc V V' S) (q : ∀ a f j, S a f j → ¬ Glo a f j) : SeJ V' := by
  have g : ∀ a f j, Glo a f j → vI V' a f j = vI V a f j := fun a f j z => k.i (fun y => q a f j y z)
  unfold SeJ
  rw [g 0 16 0 (by unfold Glo; omega), g 0 16 1 (by unfold Glo; omega), g 0 16 2 (by unfold Glo; omega), g 0 16 3 (by unfold Glo; omega), g 6 0 79 (by unfold Glo; omega), g 6 0 76 (by unfold Glo; omega), g 6 0 77 (by unfold Glo; omega), g 6 0 78 (by unfold Glo; omega)]
  exact h
theorem StJ.fc (h : StJ V) (k : Fc V V' S) (q : ∀ a f j, S a f j → ¬ Glo a f j) : StJ V' := by
  obtain ⟨c, m, en, ⟨a1, a2, a3⟩, ⟨b1, b2, b3⟩, ⟨c1, c2, c3, c4⟩, e⟩ := h
  have g : ∀ a f j, Glo a f j → vI V' a f j = vI V a f j := fun a f j z => k.i (fun y => q a f j y z)
  have r25 : vI V' 0 25 = vI V 0 25 := funext fun j => g 0 25 j (by unfold Glo; omega)
  refine ⟨c, m, en, ⟨by rw [g 0 23 1 (by unfold Glo; omega)]; exact a1, by rw [g 6 0 91 (by unfold Glo; omega)]; exact a2, a3⟩, ⟨b1.fc2 k (fun y => q _ _ _ y (by unfold Glo; omega)), ⟨by rw [g 6 0 89 (by unfold Glo; omega)]; exact b2.1, b2.2⟩, fun i hi => by rw [r25, g 6 59 i (by unfold Glo; omega)]; exact b3 i hi⟩, ⟨c1, c2, fun i hi => by rw [g 0 26 i (by unfold Glo; omega), r25]; exact c3 i hi, fun i hi => by rw [g 6 60 i (by unfold Glo; omega)]; exact c4 i hi⟩, ?_⟩
  rw [g 0 23 4 (by unfold Glo; omega), g 6 0 92 (by unfold Glo; omega)]
  exact e
theorem FuJ.ex {nf : Nat} (h : FuJ V q nf) (hn : nf ≤ 16) (hi : ∀ f j, f = 25 ∨ f = 26 ∨ f = 29 ∨ f = 0 ∧ j = 11 → vI V' (q + 1) f j = vI V (q + 1) f j) (hm : ∀ f j, ofQ q f j → 29 ≤ f → f ≤ 32 → vI V' 6 f j = vI V 6 f j) : FuJ V' q nf := by
  obtain ⟨u, u6, a1, a2, a3⟩ := h
  have m1 : vI V' 6 29 q = vI V 6 29 q := hm 29 q ⟨by decide, by decide, by show 1 * q ≤ q; omega, by show q < 1 * q + 1; omega⟩ (by decide) (by decide)
  refine ⟨u, u6, by rw [hi 0 11 (by omega)]; exact a1, by rw [m1]; exact a2, fun j hj => ?_⟩
  obtain ⟨b1, b2⟩ := a3 j hj
  have m2 : vI V' 6 30 (6 * q + j) = vI V 6 30 (6 * q + j) := hm 30 _ ⟨by decide, by decide, by show 6 * q ≤ _; omega, by show _ < 6 * q + 6; omega⟩ (by decide) (by decide)
  refine ⟨by rw [hi 29 j (by omega), m2]; exact b1, fun f hf => ?_⟩
  have m3 : vI V' 6 31 (96 * q + (16 * j + f)) = vI V 6 31 (96 * q + (16 * j + f)) := hm 31 _ ⟨by decide, by decide, by show 96 * q ≤ _; omega, by show _ < 96 * q + 96; omega⟩ (by decide) (by decide)
  have m4 : vI V' 6 32 (96 * q + (16 * j + f)) = vI V 6 32 (96 * q + (16 * j + f)) := hm 32 _ ⟨by decide, by decide, by show 96 * q ≤ _; omega, by show _ < 96 * q + 96; omega⟩ (by decide) (by decide)
  rw [hi 25 j (by omega), hi 26 _ (by omega), m3, m4]
  exact b2 f hf
theorem Tb.ex {g n : Nat} {st : Nat → Int32} {sc : Nat → Nat → Int64} (h : Tb V g n st sc) (hn : ∀ f, f = 20 ∨ f = 21 ∨ f = 22 → vN V' g f = vN V g f) (hi : ∀ j, vI V' g 22 j = vI V g 22 j) (hj : ∀ j, vJ V' g 21 j = vJ V g 21 j) : Tb V' g n st sc := by
  obtain ⟨a1, a2, a3, a4, a5⟩ := h
  exact ⟨by rw [hn 22 (by omega)]; exact a1, by rw [hn 22 (by omega)]; exact a2, by rw [hn 20 (by omega), hn 22 (by omega)]; exact a3, by rw [hn 21 (by omega), hn 22 (by omega)]; exact a4, fun p hp => ⟨by rw [hi]; exact (a5 p hp).1, fun l hl => by rw [hj]; exact (a5 p hp).2 l hl⟩⟩
theorem Wq.ex {nv nr na b : Nat} {sz : Nat → Nat} {vl : Nat → Nat → Int32} {lv al : Nat → Nat} {wt : Nat → Int32} {D DA : Nat → Den} {fa : Nat → Int32} (h : Wq V nv sz vl nr na lv al wt D DA fa b) (hi : ∀ f j, f = 43 ∨ f = 44 → vI V' 6 f j = vI V 6 f j) (hj : ∀ j, vJ V' 6 45 j = vJ V 6 45 j) : Wq V' nv sz vl nr na lv al wt D DA fa b := fun q hq => ⟨fun r hr => by rw [hi 43 _ (by omega)]; exact (h q hq).1 r hr, fun a ha => by rw [hi 44 _ (by omega)]; exact (h q hq).2.1 a ha, fun l hl => by rw [hj]; exact (h q hq).2.2 l hl⟩
/-- a problem whose cells stay -/
theorem PbJ.fc (h : PbJ V q) (hq : q < 4) (k : Fc V V' S) (q1 : ∀ a f j, S a f j → ¬ OfP q a f j) (q2 : (∀ a f j, S a f j → ¬ Cch a f j) ∨ ¬ vI V' 6 0 62 = nI q) : PbJ V' q := by
  have c : ∀ f j, vI V' (q + 1) f j = vI V (q + 1) f j := fun f j => k.i (fun y => q1 _ _ _ y (Or.inl rfl))
  have cj : ∀ f j, vJ V' (q + 1) f j = vJ V (q + 1) f j := fun f j => k.j (fun y => q1 _ _ _ y (Or.inl rfl))
  have m2 : vI V' 6 2 q = vI V 6 2 q := k.i (fun y => q1 _ _ _ y (Or.inr ⟨rfl, Or.inl ⟨rfl, rfl⟩⟩))
  have m : ∀ f j, ofQ q f j → vI V' 6 f j = vI V 6 f j := fun f j z => k.i (fun y => q1 _ _ _ y (Or.inr ⟨rfl, Or.inr z⟩))
  rcases h with ⟨a, b⟩ | ⟨t, n, R, nt, fa, h, x, cs, hs, hc, hm, ⟨l1, l2⟩, fu, tb, ch, px⟩
  · exact Or.inl ⟨by rw [m2]; exact a, fun z => by rw [c]; rw [k.l] at z; exact b z⟩
  · refine Or.inr ⟨t, n, R, nt, fa, h, x, cs, hs, hc.fr (by rw [k.l]) (fun f _ => by rw [k.n]) (fun f j _ => c f j) (fun j => cj 3 j), hm.fr hs (fun f j z _ => m f j z), ⟨by rw [c]; exact l1, by rw [m2]; exact l2⟩, fu.ex (hs.2.2.2.1.1 0 (by decide)) (fun f j _ => c f j) (fun f j z _ _ => m f j z), ?_, fun e1 e2 => ?_, px⟩
    · rcases tb with z | ⟨z1, z2⟩
      · exact Or.inl (by rw [c]; exact z)
      · exact Or.inr ⟨z1.ex (fun f _ => by rw [k.n]) (fun j => c 22 j) (fun j => cj 21 j), by rw [c]; exact z2⟩
    · rcases q2 with z | z
      · have e33 : vI V' 6 33 q = vI V 6 33 q := m 33 q ⟨by decide, by decide, by show 1 * q ≤ q; omega, by show q < 1 * q + 1; omega⟩
        rw [k.i (fun y => z _ _ _ y (by unfold Cch; omega))] at e1
        rw [k.i (fun y => z _ _ _ y (by unfold Cch; omega)), e33] at e2
        exact Wq.ex (ch e1 e2) (fun f j hf => k.i (fun y => z _ _ _ y (by unfold Cch; omega))) (fun j => k.j (fun y => z _ _ _ y (by unfold Cch; omega)))
      · exact absurd e1 z
theorem GrJ.fc (h : GrJ V) (k : Fc V V' S) (q : ∀ g j, 1 ≤ g → g ≤ 5 → ¬ S g 1 j) : GrJ V' := ⟨fun g h1 h2 h3 => by
  rw [k.l] at h3
  have e : V'.2.2.1 = V.2.2.1 := k.2.2.1
  unfold vP vQ
  rw [e]
  exact h.1 g h1 h2 h3, fun g h1 h2 h3 => by
  rw [k.l] at h3
  obtain ⟨a, b, n, e⟩ := h.2 g h1 h2 h3
  exact ⟨k.cp a, by unfold TbN; rw [k.n]; exact b, n, e.fc2 k (q g 1 h1 h2)⟩⟩
theorem TkN.fc {cap : Nat} (h : TkN V cap) (k : Fc V V' S) : TkN V' cap := by unfold TkN; rw [k.n]; exact h
theorem TkJ.fc {cap : Nat} (h : TkJ V cap) (k : Fc V V' S) : TkJ V' cap := ⟨h.1.fc k, by rw [k.n]; exact h.2⟩
theorem StpJ.fc (h : StpJ B V) (k : Fc V V' S) (q : ∀ f j, S 6 f j → ¬ (f = 33 ∨ f = 0 ∧ (j = 62 ∨ j = 63))) : StpJ B V' := by
  obtain ⟨s, c, a1, a2, a3, a4⟩ := h
  exact ⟨s, c, fun q' hq => by rw [k.i (fun y => q _ _ y (by omega))]; exact a1 q' hq, by rw [k.i (fun y => q _ _ y (by omega))]; exact a2, a3, fun q' hq e => a4 q' hq (by rw [k.i (fun y => q _ _ y (by omega))] at e; exact e)⟩
/-- problem p's cells and scratch change -/
theorem JS.fc (p : Nat) (h : JS B V) (k : Fc V V' S) (q1 : ∀ a f j, S a f j → ¬ Glo a f j) (q2 : ∀ q a f j, q < 4 → q ≠ p → S a f j → ¬ OfP q a f j) (q3 : ∀ g j, 1 ≤ g → g ≤ 5 → ¬ S g 1 j) (hc : (∀ a f j, S a f j → ¬ Cch a f j) ∨ ∀ q, q < 4 → q ≠ p → ¬ vI V' 6 0 62 = nI q) (hs : StpJ B V') (hp : p < 4 → PbJ V' p) : JS B V' := by
  obtain ⟨a1, a2, ⟨cap, a3⟩, a4, a5, a6, a7, a8, a9⟩ := h
  refine ⟨a1.fc k q1, a2.fc k q1, ⟨cap, a3.fc k⟩, a4.fc k q1, a5.fc k q1, a6.fc k q3, hs, k.cap a8, fun q hq => ?_⟩
  by_cases z : q = p
  · subst z; exact hp hq
  · exact (a9 q hq).fc hq k (fun a f j y => q2 q a f j hq z y) (by rcases hc with w | w; exact Or.inl w; exact Or.inr (w q hq z))
end
