/-! THE VIEW: the cells of class and reference by group and number, whatever their addresses (by program).
    Group 0: the class (numbers as in XSh; 28 the object); 1 .. 4: its problems, 5: the spare one; 6: the reference (0 the object, its rows behind it); others: null -/
abbrev VH : Type := (Nat × Nat) × (Nat → Bool) × (Nat × Nat) × (Nat → Nat → Nat) × (Nat → Nat → Nat → Int32) × (Nat → Nat → Nat → Int64)
def vT (V : VH) : Nat := V.1.1
def vU (V : VH) : Nat := V.1.2
/-- which groups there are -/
def vL (V : VH) : Nat → Bool := V.2.1
/-- the groups of the reader's problem and judge -/
def vP (V : VH) : Nat := V.2.2.1.1
def vQ (V : VH) : Nat := V.2.2.1.2
def vN (V : VH) : Nat → Nat → Nat := V.2.2.2.1
def vI (V : VH) : Nat → Nat → Nat → Int32 := V.2.2.2.2.1
def vJ (V : VH) : Nat → Nat → Nat → Int64 := V.2.2.2.2.2
def u3 {α : Type} (F : Nat → Nat → Nat → α) (g f k : Nat) (v : α) : Nat → Nat → Nat → α := fun a b j => if a = g ∧ b = f ∧ j = k then v else F a b j
def r2 {α : Type} (F : Nat → Nat → Nat → α) (g f : Nat) (v : Nat → α) : Nat → Nat → Nat → α := fun a b => if a = g ∧ b = f then v else F a b
def wrI (V : VH) (g f k : Nat) (v : Int32) : VH := (V.1, V.2.1, V.2.2.1, V.2.2.2.1, u3 V.2.2.2.2.1 g f k v, V.2.2.2.2.2)
def wrJ (V : VH) (g f k : Nat) (v : Int64) : VH := (V.1, V.2.1, V.2.2.1, V.2.2.2.1, V.2.2.2.2.1, u3 V.2.2.2.2.2 g f k v)
def wrP (V : VH) (g : Nat) : VH := (V.1, V.2.1, (g, V.2.2.1.2), V.2.2.2)
def wrQ (V : VH) (g : Nat) : VH := (V.1, V.2.1, (V.2.2.1.1, g), V.2.2.2)
/-- a copy into row (g', f') -/
def cpyI (V : VH) (g f g' f' sp dp n : Nat) : VH := (V.1, V.2.1, V.2.2.1, V.2.2.2.1, r2 V.2.2.2.2.1 g' f' (va_cpy (vI V g f) (vI V g' f') sp dp n), V.2.2.2.2.2)
def pl (G : AH) (A : Nat → Nat → Nat) (L : Nat → Bool) (P : Nat × Nat) : VH := ((gT G, gU G), L, P, fun g f => gN G (A g f), fun g f => gI G (A g f), fun g f => gJ G (A g f))
def K0 : List Nat := [0, 13, 10, 14, 15, 14, 14, 5, 14, 17, 1, 14, 14, 14, 14, 16, 6, 14, 14, 14, 4, 14, 15, 8, 0, 13, 14, 14, 11]
def KP : List Nat := [3, 0, 13, 15, 14, 7, 14, 14, 14, 2, 14, 14, 14, 14, 14, 14, 14, 14, 14, 9, 14, 15, 14, 14, 14, 14, 14, 15, 15, 14, 14, 15]
def K6 : List Nat := [12, 13, 16, 13, 14, 14, 14, 14, 14, 14, 14, 14, 14, 14, 14, 14, 14, 14, 14, 14, 14, 16, 14, 14, 14, 14, 14, 14, 14, 14, 14, 16, 14, 14, 14, 14, 14, 15, 15, 15, 15, 15, 15, 14, 14, 15, 16, 16, 16, 14, 15, 16, 14, 14, 14, 14, 15, 15, 13, 13, 14, 14]
def kd (g f : Nat) : Nat := if g = 0 then K0.getD f 99 else if g = 6 then K6.getD f 99 else KP.getD f 99
def nf (g : Nat) : Nat := if g = 0 then 29 else if g = 6 then 62 else 32
def LK0 : List (Nat × Nat × Nat) := [(0, 0, 1), (2, 0, 3), (2, 1, 4), (2, 2, 5), (2, 3, 6), (7, 0, 2), (7, 9, 8), (10, 0, 11), (10, 1, 12), (10, 2, 13), (10, 3, 14), (10, 5, 15), (16, 4, 17), (16, 6, 18), (16, 7, 19), (20, 0, 2), (20, 1, 21), (20, 2, 22), (23, 0, 24), (23, 2, 26), (23, 3, 27), (24, 0, 25), (28, 0, 0), (28, 1, 2), (28, 2, 7), (28, 3, 9), (28, 4, 10), (28, 5, 16), (28, 6, 20), (28, 7, 23)]
def LKP : List (Nat × Nat × Nat) := [(0, 1, 1), (0, 2, 3), (0, 3, 4), (0, 4, 5), (0, 5, 9), (0, 6, 19), (0, 7, 23), (0, 10, 24), (0, 12, 25), (0, 13, 26), (0, 14, 27), (0, 15, 28), (0, 16, 29), (0, 17, 30), (0, 18, 31), (1, 0, 2), (5, 2, 6), (5, 3, 7), (5, 4, 8), (9, 4, 10), (9, 5, 11), (9, 6, 12), (9, 7, 13), (9, 8, 14), (9, 9, 15), (9, 11, 16), (9, 12, 17), (9, 14, 18), (19, 2, 20), (19, 6, 21), (19, 7, 22)]
def LK6 : List (Nat × Nat × Nat) := [(0, 0, 1), (0, 5, 2), (0, 6, 3), (0, 7, 4), (0, 8, 5), (0, 9, 6), (0, 10, 7), (0, 11, 8), (0, 12, 9), (0, 13, 10), (0, 14, 11), (0, 15, 12), (0, 16, 13), (0, 17, 14), (0, 18, 15), (0, 19, 16), (0, 20, 17), (0, 21, 18), (0, 22, 19), (0, 23, 20), (0, 24, 21), (0, 25, 22), (0, 26, 23), (0, 27, 24), (0, 28, 25), (0, 29, 26), (0, 30, 27), (0, 31, 28), (0, 32, 29), (0, 33, 30), (0, 34, 31), (0, 35, 32), (0, 36, 33), (0, 49, 34), (0, 52, 35), (0, 53, 36), (0, 55, 37), (0, 56, 38), (0, 58, 39), (0, 59, 40), (0, 60, 41), (0, 61, 42), (0, 64, 43), (0, 65, 44), (0, 66, 45), (0, 67, 46), (0, 68, 47), (0, 71, 48), (0, 72, 49), (0, 74, 50), (0, 75, 51), (0, 80, 52), (0, 81, 53), (0, 82, 54), (0, 83, 55), (0, 85, 56), (0, 86, 57), (0, 87, 58), (0, 88, 59), (0, 90, 60), (0, 94, 61)]
/-- links: number, field, number -/
def LK (g : Nat) : List (Nat × Nat × Nat) := if g = 0 then LK0 else if g = 6 then LK6 else LKP
def LN0 : List (Nat × Nat) := [(8, 199), (9, 4), (11, 12), (12, 288), (13, 12), (14, 12), (17, 12), (18, 20), (19, 12), (21, 30), (22, 3), (26, 100), (27, 100), (0, 0), (2, 0), (7, 0), (10, 0), (16, 0), (20, 0), (23, 0), (24, 0), (28, 0)]
def LNP : List (Nat × Nat) := [(3, 96), (4, 4), (6, 12), (7, 240), (8, 12), (10, 30), (11, 24), (12, 24), (13, 30), (14, 30), (17, 128), (18, 12), (23, 16), (24, 12), (25, 6), (26, 96), (27, 3), (28, 3), (29, 6), (30, 16), (31, 3), (0, 0), (1, 0), (5, 0), (9, 0), (19, 0)]
def LN6 : List (Nat × Nat) := [(0, 0), (1, 20000), (2, 5), (3, 100000), (4, 5), (5, 100000), (6, 100000), (7, 100000), (8, 100000), (9, 5), (10, 320), (11, 5), (12, 480), (13, 480), (14, 20), (15, 80), (16, 60), (17, 60), (18, 1200), (19, 60), (20, 60), (21, 60), (22, 5), (23, 5), (24, 120), (25, 120), (26, 120), (27, 30), (28, 30), (29, 5), (30, 30), (31, 480), (32, 480), (33, 5), (34, 200), (35, 12), (36, 16), (37, 12), (38, 12), (39, 40), (40, 40), (41, 40), (42, 40), (43, 480000), (44, 120000), (45, 60000), (46, 240), (47, 240), (48, 4096), (49, 12), (50, 40000), (51, 20000), (52, 12), (53, 12), (54, 20), (55, 12), (56, 3), (57, 30), (58, 20001), (59, 20000), (60, 101), (61, 2048)]
/-- lengths that stay -/
def LN (g : Nat) : List (Nat × Nat) := if g = 0 then LN0 else if g = 6 then LN6 else LNP
/-- 1 a byte, 2 a boolean, 0 any int -/
def tyk (c k : Nat) : Nat := if c = 13 then 1 else if c = 16 then 2 else if (c = 3 ∨ c = 9 ∨ c = 6) ∧ k = 0 then 2 else if c = 12 ∧ (k = 37 ∨ k = 79 ∨ k = 93) then 2 else 0
def okT (t : Nat) (v : Int32) : Prop := if t = 1 then fits .byte (.int v) = true else if t = 2 then v = 0 ∨ v = 1 else True
def SL (L : Nat → Bool) (g f c : Nat) : Prop := L g = true ∧ f < nf g ∧ kd g f = c
/-- a problem that there is -/
def PG (L : Nat → Bool) (g : Nat) : Prop := L g = true ∧ g ≠ 0 ∧ g ≠ 6
/-- a row of bytes, and its cells behind it -/
def BS (L : Nat → Bool) (g f : Nat) : Prop := L g = true ∧ ((g = 0 ∧ (f = 0 ∨ f = 24)) ∨ (g ≠ 0 ∧ g ≠ 6 ∧ f = 1))
def Sh (E : EE) (G : AH) (A : Nat → Nat → Nat) (L : Nat → Bool) (P : Nat × Nat) : Prop :=
  (L 0 = true ∧ L 6 = true ∧ ∀ g, 6 < g → L g = false) ∧
  (∀ g f, L g = true → f < nf g → isO E G (A g f) (kd g f)) ∧
  (∀ g f g' f', L g = true → f < nf g → L g' = true → f' < nf g' → A g f = A g' f' → g = g' ∧ f = f') ∧
  (∀ g f, ¬ (L g = true ∧ f < nf g) → A g f = 0) ∧
  (∀ g, L g = true → ∀ q ∈ LK g, gR G (A g q.1) q.2.1 = A g q.2.2) ∧
  ((∀ p, p < 4 → gR G (A 0 9) p = A (p + 1) 0) ∧ gR G (A 0 28) 8 = A 5 0 ∧ gR G (A 0 7) 1 = A P.1 0 ∧ gR G (A 0 7) 2 = A P.2 9) ∧
  (∀ g, L g = true → ∀ q ∈ LN g, gN G (A g q.1) = q.2) ∧
  (∀ g f k, L g = true → f < nf g → okT (tyk (kd g f) k) (gI G (A g f) k)) ∧
  (0 < eB E ∧ eB E ≤ gT G)
/-- an int, a long, a reference (group and number), a text -/
abbrev WV : Type := Int32 ⊕ Int64 ⊕ (Nat × Nat) ⊕ Nat
abbrev wi (x : Int32) : WV := Sum.inl x
abbrev wj (x : Int64) : WV := Sum.inr (Sum.inl x)
abbrev sl (g f : Nat) : WV := Sum.inr (Sum.inr (Sum.inl (g, f)))
def rl (E : EE) (A : Nat → Nat → Nat) : WV → AV := fun w => match w with
  | .inl x => vi x
  | .inr (.inl x) => vj x
  | .inr (.inr (.inl q)) => vr (A q.1 q.2)
  | .inr (.inr (.inr n)) => vs (eK E n)
/-- the heap holds this -/
def Rp (E : EE) (G : AH) (A : Nat → Nat → Nat) (V : VH) : Prop := ∃ (L : Nat → Bool) (P : Nat × Nat), V = pl G A L P ∧ Sh E G A L P
/-- groups stay; rows whose length stays lie where they lay -/
def sumN : Nat → (Nat → Nat) → Nat
  | 0, _ => 0
  | n + 1, F => sumN n F + F n
/-- how dear a row of n entries is, in cells (64 for one) and in slots -/
def w64 (g f n : Nat) : Nat := if g ≠ 0 ∧ (f = 20 ∨ f = 21 ∨ f = 22) then 64 * n else 2 * n
def w2 (g f n : Nat) : Nat := if g ≠ 0 ∧ (f = 20 ∨ f = 22) then (if n < 20000 then 2 * n else 60000) else if g ≠ 0 ∧ f = 21 then (if n < 60000 then 2 * n else 180000) else 2 * n
/-- all rows of the class, weighed -/
def rs (w : Nat → Nat → Nat → Nat) (V : VH) : Nat := sumN 6 (fun g => if vL V g = true then sumN (nf g) (fun f => w g f (vN V g f)) else 0)
/-- what is made is paid by rows that are longer -/
def RmS (V V' : VH) : Prop := vU V' + rs w2 V ≤ vU V + rs w2 V' ∧ 64 * vT V' + rs w64 V ≤ 64 * vT V + rs w64 V'
theorem RmS.trans {V V' V2 : VH} (h : RmS V V') (k : RmS V' V2) : RmS V V2 := ⟨by have := h.1; have := k.1; omega, by have := h.2; have := k.2; omega⟩
def Xl (V V' : VH) : Prop := (∀ g, vL V g = true → vL V' g = true) ∧ (∀ g f, vL V g = true → vN V g f ≤ vN V' g f) ∧ RmS V V'
def Xt (V : VH) (A : Nat → Nat → Nat) (V' : VH) (A' : Nat → Nat → Nat) : Prop := Xl V V' ∧ ∀ g f, vL V g = true → vN V' g f = vN V g f → A' g f = A g f
/-- what the view of a heap always has -/
def WF (V : VH) : Prop := (vL V 0 = true ∧ vL V 6 = true ∧ ∀ g, 6 < g → vL V g = false) ∧ (∀ g, vL V g = true → ∀ q ∈ LN g, vN V g q.1 = q.2) ∧ ∀ g f k, vL V g = true → f < nf g → okT (tyk (kd g f) k) (vI V g f k)
def qx (E : EE) (V : VH) (A : Nat → Nat → Nat) (Q : Option WV → VH → Prop) : Option AV → AH → Prop := fun r G' => ∃ (A' : Nat → Nat → Nat) (V' : VH) (w : Option WV), Rp E G' A' V' ∧ Xt V A V' A' ∧ r = w.map (rl E A') ∧ Q w V'
def vwp (E : EE) (d : Nat) (M : MD) (pc : Nat) (lv : List (Option WV)) (st : List WV) (V : VH) (Q : Option WV → VH → Prop) : Prop := ∀ (G : AH) (A : Nat → Nat → Nat), Rp E G A V → wp E d M pc (lv.map (fun o => o.map (rl E A))) (st.map (rl E A)) G (qx E V A Q)
def vM (E : EE) (d : Nat) (N : MD) (as : List WV) (V : VH) (Q : Option WV → VH → Prop) : Prop := ∀ (G : AH) (A : Nat → Nat → Nat), Rp E G A V → wpM E d N (as.map (rl E A)) G (qx E V A Q)
def zi (K : Int32 → VH → Prop) : Option WV → VH → Prop := fun w V => ∃ x : Int32, w = some (wi x) ∧ K x V
def zj (K : Int64 → VH → Prop) : Option WV → VH → Prop := fun w V => ∃ x : Int64, w = some (wj x) ∧ K x V
def zr (K : Nat → Nat → VH → Prop) : Option WV → VH → Prop := fun w V => ∃ g f : Nat, w = some (sl g f) ∧ K g f V
def zp (K : Nat → VH → Prop) : Option WV → VH → Prop := fun w V => ∃ g : Nat, w = some (sl g 0) ∧ K g V
def zv (K : VH → Prop) : Option WV → VH → Prop := fun w V => w = none ∧ K V
abbrev vMI (E : EE) (d : Nat) (N : MD) (as : List WV) (V : VH) (K : Int32 → VH → Prop) : Prop := vM E d N as V (zi K)
abbrev vMJ (E : EE) (d : Nat) (N : MD) (as : List WV) (V : VH) (K : Int64 → VH → Prop) : Prop := vM E d N as V (zj K)
abbrev vMR (E : EE) (d : Nat) (N : MD) (as : List WV) (V : VH) (K : Nat → Nat → VH → Prop) : Prop := vM E d N as V (zr K)
abbrev vMP (E : EE) (d : Nat) (N : MD) (as : List WV) (V : VH) (K : Nat → VH → Prop) : Prop := vM E d N as V (zp K)
abbrev vMV (E : EE) (d : Nat) (N : MD) (as : List WV) (V : VH) (K : VH → Prop) : Prop := vM E d N as V (zv K)
/-- a boolean -/
def bz (x : Int32) : Prop := x = 0 ∨ x = 1
theorem bz_and1 (v : Int32) : v &&& 1 = 0 ∨ v &&& 1 = 1 := by
  have h : (v &&& 1).toBitVec = v.toBitVec &&& 1#32 := rfl
  have : v.toBitVec &&& 1#32 = 0#32 ∨ v.toBitVec &&& 1#32 = 1#32 := by
    generalize v.toBitVec = b
    rw [BitVec.and_one_eq_setWidth_ofBool_getLsbD]
    cases b.getLsbD 0
    · left; rfl
    · right; rfl
  rcases this with q | q
  · left; exact Int32.toBitVec_inj.mp (h.trans q)
  · right; exact Int32.toBitVec_inj.mp (h.trans q)
theorem fits_b (v : Int32) : fits .byte (.int (i2b v)) = true := pk_fb v
section
variable {E : EE} {G G1 : AH} {A A' A0 : Nat → Nat → Nat} {L : Nat → Bool} {P : Nat × Nat} {g f g' f' k c c' : Nat} {V V0 : VH}
theorem Sh.o (h : Sh E G A L P) (s : SL L g f c) : isO E G (A g f) c := by
  have q := h.2.1 g f s.1 s.2.1
  rw [s.2.2] at q; exact q
theorem Sh.ne0 (h : Sh E G A L P) (hl : L g = true) (hf : f < nf g) : A g f ≠ 0 := fun q => by
  have z := (h.2.1 g f hl hf).1
  have := h.2.2.2.2.2.2.2.2.1
  rw [q] at z; omega
theorem Sh.inj (h : Sh E G A L P) (hl : L g = true) (hf : f < nf g) (q : A g' f' = A g f) : g' = g ∧ f' = f := by
  by_cases c : L g' = true ∧ f' < nf g'
  · exact h.2.2.1 g' f' g f c.1 c.2 hl hf q
  · exact absurd ((q.symm.trans (h.2.2.2.1 g' f' c))) (h.ne0 hl hf)
theorem Sh.null (h : Sh E G A L P) (hf : f < nf g) : A g f = 0 ↔ ¬ L g = true := by
  constructor
  · intro q hl; exact h.ne0 hl hf q
  · intro q; exact h.2.2.2.1 g f (fun z => q z.1)
theorem Sh_sI {v : Int32} (e : G1 = sI G (A g f) k v) (h : Sh E G A L P) (s : SL L g f c) (ho : okT (tyk c k) v) : Sh E G1 A L P := by
  subst e
  obtain ⟨h1, h2, h3, h4, h5, h6, h7, h8, h9⟩ := id h
  refine ⟨h1, h2, h3, h4, h5, h6, h7, fun a b j ha hb => ?_, h9⟩
  show okT (tyk (kd a b) j) (if A a b = A g f ∧ j = k then v else gI G (A a b) j)
  by_cases q : A a b = A g f ∧ j = k
  · rw [if_pos q]
    obtain ⟨rfl, rfl⟩ := h.inj s.1 s.2.1 q.1
    rw [s.2.2, q.2]; exact ho
  · rw [if_neg q]; exact h8 a b j ha hb
theorem pl_sI {v : Int32} (e : G1 = sI G (A g f) k v) (h : Sh E G A L P) (s : SL L g f c) : pl G1 A L P = wrI (pl G A L P) g f k v := by
  subst e
  refine Prod.ext rfl (Prod.ext rfl (Prod.ext rfl (Prod.ext rfl (Prod.ext (funext fun a => funext fun b => funext fun j => ?_) rfl))))
  show (if A a b = A g f ∧ j = k then v else gI G (A a b) j) = if a = g ∧ b = f ∧ j = k then v else gI G (A a b) j
  by_cases q : A a b = A g f ∧ j = k
  · rw [if_pos q, if_pos ⟨(h.inj s.1 s.2.1 q.1).1, (h.inj s.1 s.2.1 q.1).2, q.2⟩]
  · rw [if_neg q, if_neg (fun z => q ⟨by rw [z.1, z.2.1], z.2.2⟩)]
theorem Sh_sJ {v : Int64} (e : G1 = sJ G (A g f) k v) (h : Sh E G A L P) : Sh E G1 A L P := by subst e; exact h
theorem pl_sJ {v : Int64} (e : G1 = sJ G (A g f) k v) (h : Sh E G A L P) (s : SL L g f c) : pl G1 A L P = wrJ (pl G A L P) g f k v := by
  subst e
  refine Prod.ext rfl (Prod.ext rfl (Prod.ext rfl (Prod.ext rfl (Prod.ext rfl (funext fun a => funext fun b => funext fun j => ?_)))))
  show (if A a b = A g f ∧ j = k then v else gJ G (A a b) j) = if a = g ∧ b = f ∧ j = k then v else gJ G (A a b) j
  by_cases q : A a b = A g f ∧ j = k
  · rw [if_pos q, if_pos ⟨(h.inj s.1 s.2.1 q.1).1, (h.inj s.1 s.2.1 q.1).2, q.2⟩]
  · rw [if_neg q, if_neg (fun z => q ⟨by rw [z.1, z.2.1], z.2.2⟩)]
theorem Sh_cpI {sp dp n : Nat} (e : G1 = cpI G (A g f) (A g' f') sp dp n) (h : Sh E G A L P) (s : SL L g' f' c) (s0 : SL L g f c) (hc : ∀ j, tyk c j = tyk c 0) : Sh E G1 A L P := by
  subst e
  obtain ⟨h1, h2, h3, h4, h5, h6, h7, h8, h9⟩ := id h
  refine ⟨h1, h2, h3, h4, h5, h6, h7, fun a b j ha hb => ?_, h9⟩
  show okT (tyk (kd a b) j) ((if A a b = A g' f' then va_cpy (gI G (A g f)) (gI G (A g' f')) sp dp n else gI G (A a b)) j)
  by_cases q : A a b = A g' f'
  · rw [if_pos q]
    obtain ⟨rfl, rfl⟩ := h.inj s.1 s.2.1 q
    have t1 := fun i => h8 g f i s0.1 s0.2.1
    have t2 := fun i => h8 a b i s.1 s.2.1
    rw [s.2.2, hc j]
    simp only [s.2.2, s0.2.2, hc] at t1 t2
    have : ∀ i, tyk c i = tyk c 0 := hc
    unfold va_cpy
    split
    · exact (this _) ▸ t1 _
    · exact (this _) ▸ t2 _
  · rw [if_neg q]; exact h8 a b j ha hb
theorem pl_cpI {sp dp n : Nat} (e : G1 = cpI G (A g f) (A g' f') sp dp n) (h : Sh E G A L P) (s : SL L g' f' c) : pl G1 A L P = cpyI (pl G A L P) g f g' f' sp dp n := by
  subst e
  refine Prod.ext rfl (Prod.ext rfl (Prod.ext rfl (Prod.ext rfl (Prod.ext (funext fun a => funext fun b => ?_) rfl))))
  show (if A a b = A g' f' then va_cpy (gI G (A g f)) (gI G (A g' f')) sp dp n else gI G (A a b)) = if a = g' ∧ b = f' then va_cpy (gI G (A g f)) (gI G (A g' f')) sp dp n else gI G (A a b)
  by_cases q : A a b = A g' f'
  · rw [if_pos q, if_pos (h.inj s.1 s.2.1 q)]
  · rw [if_neg q, if_neg (fun z => q (by rw [z.1, z.2]))]
theorem Sh_sR (h : Sh E G A L P) (hk : k = 1 ∨ k = 2) (v : Nat) (e : G1 = sR G (A 0 7) k v) (P' : Nat × Nat) (h1 : gR G1 (A 0 7) 1 = A P'.1 0) (h2 : gR G1 (A 0 7) 2 = A P'.2 9) : Sh E G1 A L P' := by
  obtain ⟨z1, z2, z3, z4, z5, z6, z7, z8, z9⟩ := id h
  have nz : ∀ a b j, L a = true → b < nf a → ¬ (a = 0 ∧ b = 7 ∧ j = k) → gR G1 (A a b) j = gR G (A a b) j := fun a b j ha hb hn => by
    subst e
    show (if A a b = A 0 7 ∧ j = k then v else gR G (A a b) j) = _
    rw [if_neg (fun z => hn ⟨(h.inj z1.1 (by decide) z.1).1, (h.inj z1.1 (by decide) z.1).2, z.2⟩)]
  have lk : ∀ q ∈ LK 0, q.1 < 29 ∧ ¬ (q.1 = 7 ∧ (q.2.1 = 1 ∨ q.2.1 = 2)) := by decide
  have lk6 : ∀ q ∈ LK6, q.1 < 62 := by decide
  have lkP : ∀ q ∈ LKP, q.1 < 32 := by decide
  refine ⟨z1, by subst e; exact z2, z3, z4, fun a ha q hq => ?_, ⟨fun p hp => ?_, ?_, h1, h2⟩, by subst e; exact z7, by subst e; exact z8, by subst e; exact z9⟩
  · by_cases a0 : a = 0
    · subst a0
      rw [nz 0 _ _ ha (lk q hq).1 (fun z => (lk q hq).2 ⟨z.2.1, by rcases hk with hk | hk <;> rw [z.2.2, hk] <;> decide⟩)]
      exact z5 0 ha q hq
    · have hb : q.1 < nf a := by
        unfold nf LK at *
        rw [if_neg a0] at hq ⊢
        by_cases a6 : a = 6
        · rw [if_pos a6] at hq ⊢; exact lk6 q hq
        · rw [if_neg a6] at hq ⊢; exact lkP q hq
      rw [nz a _ _ ha hb (fun z => a0 z.1)]
      exact z5 a ha q hq
  · rw [nz 0 9 p z1.1 (by decide) (fun z => by have := z.2.1; omega)]
    exact z6.1 p hp
  · rw [nz 0 28 8 z1.1 (by decide) (fun z => by have := z.2.1; omega)]
    exact z6.2.1
theorem Sh_sP (e : G1 = sR G (A 0 7) 1 (A g 0)) (h : Sh E G A L P) : Sh E G1 A L (g, P.2) := by
  refine Sh_sR h (Or.inl rfl) _ e (g, P.2) (by rw [e]; exact if_pos ⟨rfl, rfl⟩) ?_
  rw [e]
  show (if A 0 7 = A 0 7 ∧ 2 = 1 then A g 0 else gR G (A 0 7) 2) = _
  rw [if_neg (fun z => by have := z.2; omega)]
  exact h.2.2.2.2.2.1.2.2.2
theorem Sh_sQ (e : G1 = sR G (A 0 7) 2 (A g 9)) (h : Sh E G A L P) : Sh E G1 A L (P.1, g) := by
  refine Sh_sR h (Or.inr rfl) _ e (P.1, g) ?_ (by rw [e]; exact if_pos ⟨rfl, rfl⟩)
  rw [e]
  show (if A 0 7 = A 0 7 ∧ 1 = 2 then A g 9 else gR G (A 0 7) 1) = _
  rw [if_neg (fun z => by have := z.2; omega)]
  exact h.2.2.2.2.2.1.2.2.1
theorem pl_sP {v : Nat} (e : G1 = sR G (A 0 7) 1 v) : pl G1 A L (g, P.2) = wrP (pl G A L P) g := by subst e; rfl
theorem pl_sQ {v : Nat} (e : G1 = sR G (A 0 7) 2 v) : pl G1 A L (P.1, g) = wrQ (pl G A L P) g := by subst e; rfl
theorem Xl.refl : Xl V V := ⟨fun _ h => h, fun _ _ _ => Nat.le_refl _, Nat.le_refl _, Nat.le_refl _⟩
theorem nf_pos (g : Nat) : 0 < nf g := by unfold nf; split; omega; split <;> omega
theorem Sh.lv0 (h : Sh E G A L P) (hc : ¬ A g 0 = 0) : L g = true := by
  by_cases c : L g = true
  · exact c
  · exact absurd ((h.null (nf_pos g)).mpr c) hc
theorem Sh.fit (h : Sh E G A L P) (s : SL L g f 13) (j : Nat) : fits .byte (.int (gI G (A g f) j)) = true := by
  have q := h.2.2.2.2.2.2.2.1 g f j s.1 s.2.1
  rw [s.2.2] at q; exact q
theorem Xt_sI {a : Nat} {v : Int32} (e : G1 = sI G a k v) (h : Xt V0 A0 (pl G A L P) A) : Xt V0 A0 (pl G1 A L P) A := by subst e; exact h
theorem Xt_sJ {a : Nat} {v : Int64} (e : G1 = sJ G a k v) (h : Xt V0 A0 (pl G A L P) A) : Xt V0 A0 (pl G1 A L P) A := by subst e; exact h
theorem Xt_sR {a v : Nat} {P' : Nat × Nat} (e : G1 = sR G a k v) (h : Xt V0 A0 (pl G A L P) A) : Xt V0 A0 (pl G1 A L P') A := by subst e; exact h
theorem Xt_cpI {a b sp dp n : Nat} (e : G1 = cpI G a b sp dp n) (h : Xt V0 A0 (pl G A L P) A) : Xt V0 A0 (pl G1 A L P) A := by subst e; exact h
theorem Xt.refl : Xt V A V A := ⟨Xl.refl, fun _ _ _ _ => rfl⟩
theorem Sh.n7 (h : Sh E G A L P) : A 7 0 = 0 := h.2.2.2.1 7 0 (fun z => by have := h.1.2.2 7 (by decide); rw [this] at z; cases z.1)
theorem Sh.kdn (h : Sh E G A L P) (hl : L g = true) (hq : (f, k) ∈ LN g) : gN G (A g f) = k := h.2.2.2.2.2.2.1 g hl (f, k) hq
theorem qx_i {x : Int32} {K : Int32 → VH → Prop} (hS : Sh E G A L P) (hx : Xt V0 A0 (pl G A L P) A) (h : K x (pl G A L P)) : qx E V0 A0 (zi K) (some (vi x)) G := ⟨A, _, some (wi x), ⟨L, P, rfl, hS⟩, hx, rfl, x, rfl, h⟩
theorem qx_j {x : Int64} {K : Int64 → VH → Prop} (hS : Sh E G A L P) (hx : Xt V0 A0 (pl G A L P) A) (h : K x (pl G A L P)) : qx E V0 A0 (zj K) (some (vj x)) G := ⟨A, _, some (wj x), ⟨L, P, rfl, hS⟩, hx, rfl, x, rfl, h⟩
theorem qx_p {K : Nat → VH → Prop} (hS : Sh E G A L P) (hx : Xt V0 A0 (pl G A L P) A) (h : K g (pl G A L P)) : qx E V0 A0 (zp K) (some (vr (A g 0))) G := ⟨A, _, some (sl g 0), ⟨L, P, rfl, hS⟩, hx, rfl, g, rfl, h⟩
theorem qx_n {K : Nat → VH → Prop} (hS : Sh E G A L P) (hx : Xt V0 A0 (pl G A L P) A) (h : K 7 (pl G A L P)) : qx E V0 A0 (zp K) (some (vr 0)) G := ⟨A, _, some (sl 7 0), ⟨L, P, rfl, hS⟩, hx, by
  have : A 7 0 = 0 := hS.n7
  show some (vr 0) = some (vr (A 7 0)); rw [this], 7, rfl, h⟩
theorem qx_v {K : VH → Prop} (hS : Sh E G A L P) (hx : Xt V0 A0 (pl G A L P) A) (h : K (pl G A L P)) : qx E V0 A0 (zv K) none G := ⟨A, _, none, ⟨L, P, rfl, hS⟩, hx, rfl, rfl, h⟩
end
theorem PG.up {V V' : VH} {A A' : Nat → Nat → Nat} {g : Nat} (hx : Xt V A V' A') (h : PG (vL V) g) : PG (vL V') g := ⟨hx.1.1 g h.1, h.2⟩
theorem SL.ux {V V' : VH} {A A' : Nat → Nat → Nat} {g f c : Nat} (hx : Xt V A V' A') (h : SL (vL V) g f c) : SL (vL V') g f c := ⟨hx.1.1 g h.1, h.2⟩
theorem BS.up {V V' : VH} {A A' : Nat → Nat → Nat} {g f : Nat} (hx : Xt V A V' A') (h : BS (vL V) g f) : BS (vL V') g f := ⟨hx.1.1 g h.1, h.2⟩
theorem Xl.trans {V V' V'' : VH} (h : Xl V V') (h' : Xl V' V'') : Xl V V'' := ⟨fun g q => h'.1 g (h.1 g q), fun g f q => Nat.le_trans (h.2.1 g f q) (h'.2.1 g f (h.1 g q)), h.2.2.trans h'.2.2⟩
theorem Xt.trans {V V' V'' : VH} {A A' A'' : Nat → Nat → Nat} (h : Xt V A V' A') (h' : Xt V' A' V'' A'') : Xt V A V'' A'' := by
  refine ⟨h.1.trans h'.1, fun g f q e => ?_⟩
  have z1 := h.1.2.1 g f q
  have z2 := h'.1.2.1 g f (h.1.1 g q)
  have e1 : vN V' g f = vN V g f := by omega
  have e2 : vN V'' g f = vN V' g f := by omega
  rw [h'.2 g f (h.1.1 g q) e2, h.2 g f q e1]
theorem qx_trans {E : EE} {V V' : VH} {A A' : Nat → Nat → Nat} {Q : Option WV → VH → Prop} {r : Option AV} {G' : AH} (h : Xt V A V' A') (q : qx E V' A' Q r G') : qx E V A Q r G' := by
  obtain ⟨B, W, w, q1, q2, q3, q4⟩ := q
  exact ⟨B, W, w, q1, h.trans q2, q3, q4⟩
theorem Rp.wf {E : EE} {G : AH} {A : Nat → Nat → Nat} {V : VH} (h : Rp E G A V) : WF V := by
  obtain ⟨L, P, rfl, h⟩ := h
  exact ⟨h.1, h.2.2.2.2.2.2.1, h.2.2.2.2.2.2.2.1⟩
theorem bz_ok {x : Int32} (h : bz x) : okI .boolean x := by rcases h with rfl | rfl; exact okI_z0; exact okI_z1
theorem okT_0 {c k : Nat} {v : Int32} (h : tyk c k = 0) : okT (tyk c k) v := by rw [h]; exact trivial
theorem okT_2 {c k : Nat} {v : Int32} (h : tyk c k = 2) (hv : bz v) : okT (tyk c k) v := by rw [h]; exact hv
theorem okT_nz {c k : Nat} {v : Int32} (h : tyk c k = 2) : okT (tyk c k) (nz v) := by
  rw [h]
  show nz v = 0 ∨ nz v = 1
  have e : nz v = v &&& 1 := rfl
  rw [e]
  exact bz_and1 v
theorem okT_b {c k : Nat} {v : Int32} (h : tyk c k = 1) : okT (tyk c k) (i2b v) := by
  rw [h]
  exact fits_b v
theorem vM.mono {E : EE} {d : Nat} {N : MD} {as : List WV} {V : VH} {Q Q' : Option WV → VH → Prop} (h : vM E d N as V Q) (hq : ∀ w V', Q w V' → Q' w V') : vM E d N as V Q' := fun G A hR => wpM.mono (h G A hR) (fun r G' ⟨A', V', w, h1, h2, h3, h4⟩ => ⟨A', V', w, h1, h2, h3, hq w V' h4⟩)
theorem vwp.mono {E : EE} {d : Nat} {M : MD} {pc : Nat} {lv : List (Option WV)} {st : List WV} {V : VH} {Q Q' : Option WV → VH → Prop} (h : vwp E d M pc lv st V Q) (hq : ∀ w V', Q w V' → Q' w V') : vwp E d M pc lv st V Q' := fun G A hR => wp.mono (h G A hR) (fun r G' ⟨A', V', w, h1, h2, h3, h4⟩ => ⟨A', V', w, h1, h2, h3, hq w V' h4⟩)
theorem vMI.mono {E : EE} {d : Nat} {N : MD} {as : List WV} {V : VH} {K K' : Int32 → VH → Prop} (h : vMI E d N as V K) (hk : ∀ x V', K x V' → K' x V') : vMI E d N as V K' := vM.mono h (fun _ V' ⟨x, e, q⟩ => ⟨x, e, hk x V' q⟩)
theorem vMJ.mono {E : EE} {d : Nat} {N : MD} {as : List WV} {V : VH} {K K' : Int64 → VH → Prop} (h : vMJ E d N as V K) (hk : ∀ x V', K x V' → K' x V') : vMJ E d N as V K' := vM.mono h (fun _ V' ⟨x, e, q⟩ => ⟨x, e, hk x V' q⟩)
theorem vMR.mono {E : EE} {d : Nat} {N : MD} {as : List WV} {V : VH} {K K' : Nat → Nat → VH → Prop} (h : vMR E d N as V K) (hk : ∀ g f V', K g f V' → K' g f V') : vMR E d N as V K' := vM.mono h (fun _ V' ⟨g, f, e, q⟩ => ⟨g, f, e, hk g f V' q⟩)
theorem vMP.mono {E : EE} {d : Nat} {N : MD} {as : List WV} {V : VH} {K K' : Nat → VH → Prop} (h : vMP E d N as V K) (hk : ∀ g V', K g V' → K' g V') : vMP E d N as V K' := vM.mono h (fun _ V' ⟨g, e, q⟩ => ⟨g, e, hk g V' q⟩)
theorem vMV.mono {E : EE} {d : Nat} {N : MD} {as : List WV} {V : VH} {K K' : VH → Prop} (h : vMV E d N as V K) (hk : ∀ V', K V' → K' V') : vMV E d N as V K' := vM.mono h (fun _ V' ⟨e, q⟩ => ⟨e, hk V' q⟩)
theorem vM.wf {E : EE} {d : Nat} {N : MD} {as : List WV} {V : VH} {Q : Option WV → VH → Prop} (h : WF V → vM E d N as V Q) : vM E d N as V Q := fun G A hR => h hR.wf G A hR
theorem vwp.wf {E : EE} {d : Nat} {M : MD} {pc : Nat} {lv : List (Option WV)} {st : List WV} {V : VH} {Q : Option WV → VH → Prop} (h : WF V → vwp E d M pc lv st V Q) : vwp E d M pc lv st V Q := fun G A hR => h hR.wf G A hR
/-- groups stay and lengths don't shrink, whatever is called -/
theorem vM.up {E : EE} {d : Nat} {N : MD} {as : List WV} {V : VH} {Q : Option WV → VH → Prop} (h : vM E d N as V Q) : vM E d N as V (fun w V' => Q w V' ∧ WF V' ∧ Xl V V') := fun G A hR => wpM.mono (h G A hR) (fun r G' ⟨A', V', w, h1, h2, h3, h4⟩ => ⟨A', V', w, h1, h2, h3, h4, h1.wf, h2.1⟩)
theorem vMI.up {E : EE} {d : Nat} {N : MD} {as : List WV} {V : VH} {K : Int32 → VH → Prop} (h : vMI E d N as V K) : vMI E d N as V (fun x V' => K x V' ∧ WF V' ∧ Xl V V') := vM.mono (vM.up h) (fun _ V' ⟨⟨x, e, q⟩, u⟩ => ⟨x, e, q, u⟩)
theorem vMV.up {E : EE} {d : Nat} {N : MD} {as : List WV} {V : VH} {K : VH → Prop} (h : vMV E d N as V K) : vMV E d N as V (fun V' => K V' ∧ WF V' ∧ Xl V V') := vM.mono (vM.up h) (fun _ V' ⟨⟨e, q⟩, u⟩ => ⟨e, q, u⟩)
theorem kdP {L : Nat → Bool} {g : Nat} (h : PG L g) (f : Nat) : kd g f = KP.getD f 99 := by unfold kd; rw [if_neg h.2.1, if_neg h.2.2]
theorem nfP {L : Nat → Bool} {g : Nat} (h : PG L g) : nf g = 32 := by unfold nf; rw [if_neg h.2.1, if_neg h.2.2]
theorem LKeqP {L : Nat → Bool} {g : Nat} (h : PG L g) : LK g = LKP := by unfold LK; rw [if_neg h.2.1, if_neg h.2.2]
theorem LNeqP {L : Nat → Bool} {g : Nat} (h : PG L g) : LN g = LNP := by unfold LN; rw [if_neg h.2.1, if_neg h.2.2]
section
variable {E : EE} {G : AH} {A : Nat → Nat → Nat} {L : Nat → Bool} {P : Nat × Nat} {g : Nat}
theorem sPx (h : PG L g) (f c : Nat) (hf : f < 32) (hc : KP.getD f 99 = c) : SL L g f c := ⟨h.1, by rw [nfP h]; exact hf, by rw [kdP h]; exact hc⟩
theorem sP_0 (h : PG L g) : SL L g 0 3 := sPx h 0 3 (by decide) rfl
theorem sP_1 (h : PG L g) : SL L g 1 0 := sPx h 1 0 (by decide) rfl
theorem sP_2 (h : PG L g) : SL L g 2 13 := sPx h 2 13 (by decide) rfl
theorem sP_3 (h : PG L g) : SL L g 3 15 := sPx h 3 15 (by decide) rfl
theorem sP_4 (h : PG L g) : SL L g 4 14 := sPx h 4 14 (by decide) rfl
theorem sP_5 (h : PG L g) : SL L g 5 7 := sPx h 5 7 (by decide) rfl
theorem sP_6 (h : PG L g) : SL L g 6 14 := sPx h 6 14 (by decide) rfl
theorem sP_7 (h : PG L g) : SL L g 7 14 := sPx h 7 14 (by decide) rfl
theorem sP_9 (h : PG L g) : SL L g 9 2 := sPx h 9 2 (by decide) rfl
theorem sP_10 (h : PG L g) : SL L g 10 14 := sPx h 10 14 (by decide) rfl
theorem sP_11 (h : PG L g) : SL L g 11 14 := sPx h 11 14 (by decide) rfl
theorem sP_12 (h : PG L g) : SL L g 12 14 := sPx h 12 14 (by decide) rfl
theorem sP_19 (h : PG L g) : SL L g 19 9 := sPx h 19 9 (by decide) rfl
theorem sP_20 (h : PG L g) : SL L g 20 14 := sPx h 20 14 (by decide) rfl
theorem sP_23 (h : PG L g) : SL L g 23 14 := sPx h 23 14 (by decide) rfl
theorem sP_24 (h : PG L g) : SL L g 24 14 := sPx h 24 14 (by decide) rfl
theorem sP_25 (h : PG L g) : SL L g 25 14 := sPx h 25 14 (by decide) rfl
theorem sP_26 (h : PG L g) : SL L g 26 14 := sPx h 26 14 (by decide) rfl
theorem sP_27 (h : PG L g) : SL L g 27 15 := sPx h 27 15 (by decide) rfl
theorem sP_28 (h : PG L g) : SL L g 28 15 := sPx h 28 15 (by decide) rfl
theorem s0_0 (h : Sh E G A L P) : SL L 0 0 0 := ⟨h.1.1, by decide, rfl⟩
theorem s0_2 (h : Sh E G A L P) : SL L 0 2 10 := ⟨h.1.1, by decide, rfl⟩
theorem s0_3 (h : Sh E G A L P) : SL L 0 3 14 := ⟨h.1.1, by decide, rfl⟩
theorem s0_4 (h : Sh E G A L P) : SL L 0 4 15 := ⟨h.1.1, by decide, rfl⟩
theorem s0_5 (h : Sh E G A L P) : SL L 0 5 14 := ⟨h.1.1, by decide, rfl⟩
theorem s0_6 (h : Sh E G A L P) : SL L 0 6 14 := ⟨h.1.1, by decide, rfl⟩
theorem s0_7 (h : Sh E G A L P) : SL L 0 7 5 := ⟨h.1.1, by decide, rfl⟩
theorem s0_9 (h : Sh E G A L P) : SL L 0 9 17 := ⟨h.1.1, by decide, rfl⟩
theorem s0_10 (h : Sh E G A L P) : SL L 0 10 1 := ⟨h.1.1, by decide, rfl⟩
theorem s0_11 (h : Sh E G A L P) : SL L 0 11 14 := ⟨h.1.1, by decide, rfl⟩
theorem s0_16 (h : Sh E G A L P) : SL L 0 16 6 := ⟨h.1.1, by decide, rfl⟩
theorem s0_20 (h : Sh E G A L P) : SL L 0 20 4 := ⟨h.1.1, by decide, rfl⟩
theorem s0_23 (h : Sh E G A L P) : SL L 0 23 8 := ⟨h.1.1, by decide, rfl⟩
theorem s0_24 (h : Sh E G A L P) : SL L 0 24 0 := ⟨h.1.1, by decide, rfl⟩
theorem s0_26 (h : Sh E G A L P) : SL L 0 26 14 := ⟨h.1.1, by decide, rfl⟩
theorem s0_28 (h : Sh E G A L P) : SL L 0 28 11 := ⟨h.1.1, by decide, rfl⟩
theorem s6_0 (h : Sh E G A L P) : SL L 6 0 12 := ⟨h.1.2.1, by decide, rfl⟩
theorem s6_1 (h : Sh E G A L P) : SL L 6 1 13 := ⟨h.1.2.1, by decide, rfl⟩
theorem s6_2 (h : Sh E G A L P) : SL L 6 2 16 := ⟨h.1.2.1, by decide, rfl⟩
theorem s6_3 (h : Sh E G A L P) : SL L 6 3 13 := ⟨h.1.2.1, by decide, rfl⟩
theorem s6_4 (h : Sh E G A L P) : SL L 6 4 14 := ⟨h.1.2.1, by decide, rfl⟩
theorem s6_9 (h : Sh E G A L P) : SL L 6 9 14 := ⟨h.1.2.1, by decide, rfl⟩
theorem s6_10 (h : Sh E G A L P) : SL L 6 10 14 := ⟨h.1.2.1, by decide, rfl⟩
theorem s6_11 (h : Sh E G A L P) : SL L 6 11 14 := ⟨h.1.2.1, by decide, rfl⟩
theorem s6_12 (h : Sh E G A L P) : SL L 6 12 14 := ⟨h.1.2.1, by decide, rfl⟩
theorem s6_13 (h : Sh E G A L P) : SL L 6 13 14 := ⟨h.1.2.1, by decide, rfl⟩
theorem s6_14 (h : Sh E G A L P) : SL L 6 14 14 := ⟨h.1.2.1, by decide, rfl⟩
theorem s6_15 (h : Sh E G A L P) : SL L 6 15 14 := ⟨h.1.2.1, by decide, rfl⟩
theorem s6_16 (h : Sh E G A L P) : SL L 6 16 14 := ⟨h.1.2.1, by decide, rfl⟩
theorem s6_17 (h : Sh E G A L P) : SL L 6 17 14 := ⟨h.1.2.1, by decide, rfl⟩
theorem s6_18 (h : Sh E G A L P) : SL L 6 18 14 := ⟨h.1.2.1, by decide, rfl⟩
theorem s6_19 (h : Sh E G A L P) : SL L 6 19 14 := ⟨h.1.2.1, by decide, rfl⟩
theorem s6_20 (h : Sh E G A L P) : SL L 6 20 14 := ⟨h.1.2.1, by decide, rfl⟩
theorem s6_21 (h : Sh E G A L P) : SL L 6 21 16 := ⟨h.1.2.1, by decide, rfl⟩
theorem s6_22 (h : Sh E G A L P) : SL L 6 22 14 := ⟨h.1.2.1, by decide, rfl⟩
theorem s6_23 (h : Sh E G A L P) : SL L 6 23 14 := ⟨h.1.2.1, by decide, rfl⟩
theorem s6_24 (h : Sh E G A L P) : SL L 6 24 14 := ⟨h.1.2.1, by decide, rfl⟩
theorem s6_26 (h : Sh E G A L P) : SL L 6 26 14 := ⟨h.1.2.1, by decide, rfl⟩
theorem s6_29 (h : Sh E G A L P) : SL L 6 29 14 := ⟨h.1.2.1, by decide, rfl⟩
theorem s6_30 (h : Sh E G A L P) : SL L 6 30 14 := ⟨h.1.2.1, by decide, rfl⟩
theorem s6_31 (h : Sh E G A L P) : SL L 6 31 16 := ⟨h.1.2.1, by decide, rfl⟩
theorem s6_32 (h : Sh E G A L P) : SL L 6 32 14 := ⟨h.1.2.1, by decide, rfl⟩
theorem s6_33 (h : Sh E G A L P) : SL L 6 33 14 := ⟨h.1.2.1, by decide, rfl⟩
theorem s6_43 (h : Sh E G A L P) : SL L 6 43 14 := ⟨h.1.2.1, by decide, rfl⟩
theorem s6_44 (h : Sh E G A L P) : SL L 6 44 14 := ⟨h.1.2.1, by decide, rfl⟩
theorem s6_45 (h : Sh E G A L P) : SL L 6 45 15 := ⟨h.1.2.1, by decide, rfl⟩
theorem s6_46 (h : Sh E G A L P) : SL L 6 46 16 := ⟨h.1.2.1, by decide, rfl⟩
theorem s6_59 (h : Sh E G A L P) : SL L 6 59 13 := ⟨h.1.2.1, by decide, rfl⟩
theorem s6_60 (h : Sh E G A L P) : SL L 6 60 14 := ⟨h.1.2.1, by decide, rfl⟩
theorem lP_0_1 (h : Sh E G A L P) (hg : PG L g) : gR G (A g 0) 1 = A g 1 := h.2.2.2.2.1 g hg.1 (0, 1, 1) (by rw [LKeqP hg]; decide)
theorem lP_0_2 (h : Sh E G A L P) (hg : PG L g) : gR G (A g 0) 2 = A g 3 := h.2.2.2.2.1 g hg.1 (0, 2, 3) (by rw [LKeqP hg]; decide)
theorem lP_0_3 (h : Sh E G A L P) (hg : PG L g) : gR G (A g 0) 3 = A g 4 := h.2.2.2.2.1 g hg.1 (0, 3, 4) (by rw [LKeqP hg]; decide)
theorem lP_0_4 (h : Sh E G A L P) (hg : PG L g) : gR G (A g 0) 4 = A g 5 := h.2.2.2.2.1 g hg.1 (0, 4, 5) (by rw [LKeqP hg]; decide)
theorem lP_0_5 (h : Sh E G A L P) (hg : PG L g) : gR G (A g 0) 5 = A g 9 := h.2.2.2.2.1 g hg.1 (0, 5, 9) (by rw [LKeqP hg]; decide)
theorem lP_0_6 (h : Sh E G A L P) (hg : PG L g) : gR G (A g 0) 6 = A g 19 := h.2.2.2.2.1 g hg.1 (0, 6, 19) (by rw [LKeqP hg]; decide)
theorem lP_0_7 (h : Sh E G A L P) (hg : PG L g) : gR G (A g 0) 7 = A g 23 := h.2.2.2.2.1 g hg.1 (0, 7, 23) (by rw [LKeqP hg]; decide)
theorem lP_0_10 (h : Sh E G A L P) (hg : PG L g) : gR G (A g 0) 10 = A g 24 := h.2.2.2.2.1 g hg.1 (0, 10, 24) (by rw [LKeqP hg]; decide)
theorem lP_0_12 (h : Sh E G A L P) (hg : PG L g) : gR G (A g 0) 12 = A g 25 := h.2.2.2.2.1 g hg.1 (0, 12, 25) (by rw [LKeqP hg]; decide)
theorem lP_0_13 (h : Sh E G A L P) (hg : PG L g) : gR G (A g 0) 13 = A g 26 := h.2.2.2.2.1 g hg.1 (0, 13, 26) (by rw [LKeqP hg]; decide)
theorem lP_0_14 (h : Sh E G A L P) (hg : PG L g) : gR G (A g 0) 14 = A g 27 := h.2.2.2.2.1 g hg.1 (0, 14, 27) (by rw [LKeqP hg]; decide)
theorem lP_0_15 (h : Sh E G A L P) (hg : PG L g) : gR G (A g 0) 15 = A g 28 := h.2.2.2.2.1 g hg.1 (0, 15, 28) (by rw [LKeqP hg]; decide)
theorem lP_1_0 (h : Sh E G A L P) (hg : PG L g) : gR G (A g 1) 0 = A g 2 := h.2.2.2.2.1 g hg.1 (1, 0, 2) (by rw [LKeqP hg]; decide)
theorem lP_5_2 (h : Sh E G A L P) (hg : PG L g) : gR G (A g 5) 2 = A g 6 := h.2.2.2.2.1 g hg.1 (5, 2, 6) (by rw [LKeqP hg]; decide)
theorem lP_5_3 (h : Sh E G A L P) (hg : PG L g) : gR G (A g 5) 3 = A g 7 := h.2.2.2.2.1 g hg.1 (5, 3, 7) (by rw [LKeqP hg]; decide)
theorem lP_9_4 (h : Sh E G A L P) (hg : PG L g) : gR G (A g 9) 4 = A g 10 := h.2.2.2.2.1 g hg.1 (9, 4, 10) (by rw [LKeqP hg]; decide)
theorem lP_9_5 (h : Sh E G A L P) (hg : PG L g) : gR G (A g 9) 5 = A g 11 := h.2.2.2.2.1 g hg.1 (9, 5, 11) (by rw [LKeqP hg]; decide)
theorem lP_9_6 (h : Sh E G A L P) (hg : PG L g) : gR G (A g 9) 6 = A g 12 := h.2.2.2.2.1 g hg.1 (9, 6, 12) (by rw [LKeqP hg]; decide)
theorem lP_19_2 (h : Sh E G A L P) (hg : PG L g) : gR G (A g 19) 2 = A g 20 := h.2.2.2.2.1 g hg.1 (19, 2, 20) (by rw [LKeqP hg]; decide)
theorem l0_0_0 (h : Sh E G A L P) : gR G (A 0 0) 0 = A 0 1 := h.2.2.2.2.1 0 h.1.1 (0, 0, 1) (by decide)
theorem l0_2_0 (h : Sh E G A L P) : gR G (A 0 2) 0 = A 0 3 := h.2.2.2.2.1 0 h.1.1 (2, 0, 3) (by decide)
theorem l0_2_1 (h : Sh E G A L P) : gR G (A 0 2) 1 = A 0 4 := h.2.2.2.2.1 0 h.1.1 (2, 1, 4) (by decide)
theorem l0_2_2 (h : Sh E G A L P) : gR G (A 0 2) 2 = A 0 5 := h.2.2.2.2.1 0 h.1.1 (2, 2, 5) (by decide)
theorem l0_2_3 (h : Sh E G A L P) : gR G (A 0 2) 3 = A 0 6 := h.2.2.2.2.1 0 h.1.1 (2, 3, 6) (by decide)
theorem l0_7_0 (h : Sh E G A L P) : gR G (A 0 7) 0 = A 0 2 := h.2.2.2.2.1 0 h.1.1 (7, 0, 2) (by decide)
theorem l0_10_0 (h : Sh E G A L P) : gR G (A 0 10) 0 = A 0 11 := h.2.2.2.2.1 0 h.1.1 (10, 0, 11) (by decide)
theorem l0_23_0 (h : Sh E G A L P) : gR G (A 0 23) 0 = A 0 24 := h.2.2.2.2.1 0 h.1.1 (23, 0, 24) (by decide)
theorem l0_23_2 (h : Sh E G A L P) : gR G (A 0 23) 2 = A 0 26 := h.2.2.2.2.1 0 h.1.1 (23, 2, 26) (by decide)
theorem l0_24_0 (h : Sh E G A L P) : gR G (A 0 24) 0 = A 0 25 := h.2.2.2.2.1 0 h.1.1 (24, 0, 25) (by decide)
theorem l0_28_0 (h : Sh E G A L P) : gR G (A 0 28) 0 = A 0 0 := h.2.2.2.2.1 0 h.1.1 (28, 0, 0) (by decide)
theorem l0_28_1 (h : Sh E G A L P) : gR G (A 0 28) 1 = A 0 2 := h.2.2.2.2.1 0 h.1.1 (28, 1, 2) (by decide)
theorem l0_28_2 (h : Sh E G A L P) : gR G (A 0 28) 2 = A 0 7 := h.2.2.2.2.1 0 h.1.1 (28, 2, 7) (by decide)
theorem l0_28_3 (h : Sh E G A L P) : gR G (A 0 28) 3 = A 0 9 := h.2.2.2.2.1 0 h.1.1 (28, 3, 9) (by decide)
theorem l0_28_4 (h : Sh E G A L P) : gR G (A 0 28) 4 = A 0 10 := h.2.2.2.2.1 0 h.1.1 (28, 4, 10) (by decide)
theorem l0_28_5 (h : Sh E G A L P) : gR G (A 0 28) 5 = A 0 16 := h.2.2.2.2.1 0 h.1.1 (28, 5, 16) (by decide)
theorem l0_28_6 (h : Sh E G A L P) : gR G (A 0 28) 6 = A 0 20 := h.2.2.2.2.1 0 h.1.1 (28, 6, 20) (by decide)
theorem l0_28_7 (h : Sh E G A L P) : gR G (A 0 28) 7 = A 0 23 := h.2.2.2.2.1 0 h.1.1 (28, 7, 23) (by decide)
theorem l6_0_0 (h : Sh E G A L P) : gR G (A 6 0) 0 = A 6 1 := h.2.2.2.2.1 6 h.1.2.1 (0, 0, 1) (by decide)
theorem l6_0_5 (h : Sh E G A L P) : gR G (A 6 0) 5 = A 6 2 := h.2.2.2.2.1 6 h.1.2.1 (0, 5, 2) (by decide)
theorem l6_0_6 (h : Sh E G A L P) : gR G (A 6 0) 6 = A 6 3 := h.2.2.2.2.1 6 h.1.2.1 (0, 6, 3) (by decide)
theorem l6_0_7 (h : Sh E G A L P) : gR G (A 6 0) 7 = A 6 4 := h.2.2.2.2.1 6 h.1.2.1 (0, 7, 4) (by decide)
theorem l6_0_12 (h : Sh E G A L P) : gR G (A 6 0) 12 = A 6 9 := h.2.2.2.2.1 6 h.1.2.1 (0, 12, 9) (by decide)
theorem l6_0_13 (h : Sh E G A L P) : gR G (A 6 0) 13 = A 6 10 := h.2.2.2.2.1 6 h.1.2.1 (0, 13, 10) (by decide)
theorem l6_0_14 (h : Sh E G A L P) : gR G (A 6 0) 14 = A 6 11 := h.2.2.2.2.1 6 h.1.2.1 (0, 14, 11) (by decide)
theorem l6_0_15 (h : Sh E G A L P) : gR G (A 6 0) 15 = A 6 12 := h.2.2.2.2.1 6 h.1.2.1 (0, 15, 12) (by decide)
theorem l6_0_16 (h : Sh E G A L P) : gR G (A 6 0) 16 = A 6 13 := h.2.2.2.2.1 6 h.1.2.1 (0, 16, 13) (by decide)
theorem l6_0_17 (h : Sh E G A L P) : gR G (A 6 0) 17 = A 6 14 := h.2.2.2.2.1 6 h.1.2.1 (0, 17, 14) (by decide)
theorem l6_0_18 (h : Sh E G A L P) : gR G (A 6 0) 18 = A 6 15 := h.2.2.2.2.1 6 h.1.2.1 (0, 18, 15) (by decide)
theorem l6_0_19 (h : Sh E G A L P) : gR G (A 6 0) 19 = A 6 16 := h.2.2.2.2.1 6 h.1.2.1 (0, 19, 16) (by decide)
theorem l6_0_20 (h : Sh E G A L P) : gR G (A 6 0) 20 = A 6 17 := h.2.2.2.2.1 6 h.1.2.1 (0, 20, 17) (by decide)
theorem l6_0_21 (h : Sh E G A L P) : gR G (A 6 0) 21 = A 6 18 := h.2.2.2.2.1 6 h.1.2.1 (0, 21, 18) (by decide)
theorem l6_0_22 (h : Sh E G A L P) : gR G (A 6 0) 22 = A 6 19 := h.2.2.2.2.1 6 h.1.2.1 (0, 22, 19) (by decide)
theorem l6_0_23 (h : Sh E G A L P) : gR G (A 6 0) 23 = A 6 20 := h.2.2.2.2.1 6 h.1.2.1 (0, 23, 20) (by decide)
theorem l6_0_24 (h : Sh E G A L P) : gR G (A 6 0) 24 = A 6 21 := h.2.2.2.2.1 6 h.1.2.1 (0, 24, 21) (by decide)
theorem l6_0_25 (h : Sh E G A L P) : gR G (A 6 0) 25 = A 6 22 := h.2.2.2.2.1 6 h.1.2.1 (0, 25, 22) (by decide)
theorem l6_0_26 (h : Sh E G A L P) : gR G (A 6 0) 26 = A 6 23 := h.2.2.2.2.1 6 h.1.2.1 (0, 26, 23) (by decide)
theorem l6_0_27 (h : Sh E G A L P) : gR G (A 6 0) 27 = A 6 24 := h.2.2.2.2.1 6 h.1.2.1 (0, 27, 24) (by decide)
theorem l6_0_29 (h : Sh E G A L P) : gR G (A 6 0) 29 = A 6 26 := h.2.2.2.2.1 6 h.1.2.1 (0, 29, 26) (by decide)
theorem l6_0_32 (h : Sh E G A L P) : gR G (A 6 0) 32 = A 6 29 := h.2.2.2.2.1 6 h.1.2.1 (0, 32, 29) (by decide)
theorem l6_0_33 (h : Sh E G A L P) : gR G (A 6 0) 33 = A 6 30 := h.2.2.2.2.1 6 h.1.2.1 (0, 33, 30) (by decide)
theorem l6_0_34 (h : Sh E G A L P) : gR G (A 6 0) 34 = A 6 31 := h.2.2.2.2.1 6 h.1.2.1 (0, 34, 31) (by decide)
theorem l6_0_35 (h : Sh E G A L P) : gR G (A 6 0) 35 = A 6 32 := h.2.2.2.2.1 6 h.1.2.1 (0, 35, 32) (by decide)
theorem l6_0_36 (h : Sh E G A L P) : gR G (A 6 0) 36 = A 6 33 := h.2.2.2.2.1 6 h.1.2.1 (0, 36, 33) (by decide)
theorem l6_0_64 (h : Sh E G A L P) : gR G (A 6 0) 64 = A 6 43 := h.2.2.2.2.1 6 h.1.2.1 (0, 64, 43) (by decide)
theorem l6_0_65 (h : Sh E G A L P) : gR G (A 6 0) 65 = A 6 44 := h.2.2.2.2.1 6 h.1.2.1 (0, 65, 44) (by decide)
theorem l6_0_66 (h : Sh E G A L P) : gR G (A 6 0) 66 = A 6 45 := h.2.2.2.2.1 6 h.1.2.1 (0, 66, 45) (by decide)
theorem l6_0_67 (h : Sh E G A L P) : gR G (A 6 0) 67 = A 6 46 := h.2.2.2.2.1 6 h.1.2.1 (0, 67, 46) (by decide)
theorem l6_0_88 (h : Sh E G A L P) : gR G (A 6 0) 88 = A 6 59 := h.2.2.2.2.1 6 h.1.2.1 (0, 88, 59) (by decide)
theorem l6_0_90 (h : Sh E G A L P) : gR G (A 6 0) 90 = A 6 60 := h.2.2.2.2.1 6 h.1.2.1 (0, 90, 60) (by decide)
theorem nP_3 (h : Sh E G A L P) (hg : PG L g) : gN G (A g 3) = 96 := h.kdn hg.1 (by rw [LNeqP hg]; decide)
theorem nP_4 (h : Sh E G A L P) (hg : PG L g) : gN G (A g 4) = 4 := h.kdn hg.1 (by rw [LNeqP hg]; decide)
theorem nP_6 (h : Sh E G A L P) (hg : PG L g) : gN G (A g 6) = 12 := h.kdn hg.1 (by rw [LNeqP hg]; decide)
theorem nP_7 (h : Sh E G A L P) (hg : PG L g) : gN G (A g 7) = 240 := h.kdn hg.1 (by rw [LNeqP hg]; decide)
theorem nP_10 (h : Sh E G A L P) (hg : PG L g) : gN G (A g 10) = 30 := h.kdn hg.1 (by rw [LNeqP hg]; decide)
theorem nP_11 (h : Sh E G A L P) (hg : PG L g) : gN G (A g 11) = 24 := h.kdn hg.1 (by rw [LNeqP hg]; decide)
theorem nP_12 (h : Sh E G A L P) (hg : PG L g) : gN G (A g 12) = 24 := h.kdn hg.1 (by rw [LNeqP hg]; decide)
theorem nP_23 (h : Sh E G A L P) (hg : PG L g) : gN G (A g 23) = 16 := h.kdn hg.1 (by rw [LNeqP hg]; decide)
theorem nP_24 (h : Sh E G A L P) (hg : PG L g) : gN G (A g 24) = 12 := h.kdn hg.1 (by rw [LNeqP hg]; decide)
theorem nP_25 (h : Sh E G A L P) (hg : PG L g) : gN G (A g 25) = 6 := h.kdn hg.1 (by rw [LNeqP hg]; decide)
theorem nP_26 (h : Sh E G A L P) (hg : PG L g) : gN G (A g 26) = 96 := h.kdn hg.1 (by rw [LNeqP hg]; decide)
theorem nP_27 (h : Sh E G A L P) (hg : PG L g) : gN G (A g 27) = 3 := h.kdn hg.1 (by rw [LNeqP hg]; decide)
theorem nP_28 (h : Sh E G A L P) (hg : PG L g) : gN G (A g 28) = 3 := h.kdn hg.1 (by rw [LNeqP hg]; decide)
theorem nP_0 (h : Sh E G A L P) (hg : PG L g) : gN G (A g 0) = 0 := h.kdn hg.1 (by rw [LNeqP hg]; decide)
theorem nP_1 (h : Sh E G A L P) (hg : PG L g) : gN G (A g 1) = 0 := h.kdn hg.1 (by rw [LNeqP hg]; decide)
theorem nP_5 (h : Sh E G A L P) (hg : PG L g) : gN G (A g 5) = 0 := h.kdn hg.1 (by rw [LNeqP hg]; decide)
theorem nP_19 (h : Sh E G A L P) (hg : PG L g) : gN G (A g 19) = 0 := h.kdn hg.1 (by rw [LNeqP hg]; decide)
theorem n0_9 (h : Sh E G A L P) : gN G (A 0 9) = 4 := h.kdn h.1.1 (by decide)
theorem n0_11 (h : Sh E G A L P) : gN G (A 0 11) = 12 := h.kdn h.1.1 (by decide)
theorem n0_26 (h : Sh E G A L P) : gN G (A 0 26) = 100 := h.kdn h.1.1 (by decide)
theorem n0_0 (h : Sh E G A L P) : gN G (A 0 0) = 0 := h.kdn h.1.1 (by decide)
theorem n0_2 (h : Sh E G A L P) : gN G (A 0 2) = 0 := h.kdn h.1.1 (by decide)
theorem n0_7 (h : Sh E G A L P) : gN G (A 0 7) = 0 := h.kdn h.1.1 (by decide)
theorem n0_23 (h : Sh E G A L P) : gN G (A 0 23) = 0 := h.kdn h.1.1 (by decide)
theorem n0_24 (h : Sh E G A L P) : gN G (A 0 24) = 0 := h.kdn h.1.1 (by decide)
theorem n0_28 (h : Sh E G A L P) : gN G (A 0 28) = 0 := h.kdn h.1.1 (by decide)
theorem n6_0 (h : Sh E G A L P) : gN G (A 6 0) = 0 := h.kdn h.1.2.1 (by decide)
theorem n6_1 (h : Sh E G A L P) : gN G (A 6 1) = 20000 := h.kdn h.1.2.1 (by decide)
theorem n6_2 (h : Sh E G A L P) : gN G (A 6 2) = 5 := h.kdn h.1.2.1 (by decide)
theorem n6_3 (h : Sh E G A L P) : gN G (A 6 3) = 100000 := h.kdn h.1.2.1 (by decide)
theorem n6_4 (h : Sh E G A L P) : gN G (A 6 4) = 5 := h.kdn h.1.2.1 (by decide)
theorem n6_9 (h : Sh E G A L P) : gN G (A 6 9) = 5 := h.kdn h.1.2.1 (by decide)
theorem n6_10 (h : Sh E G A L P) : gN G (A 6 10) = 320 := h.kdn h.1.2.1 (by decide)
theorem n6_11 (h : Sh E G A L P) : gN G (A 6 11) = 5 := h.kdn h.1.2.1 (by decide)
theorem n6_12 (h : Sh E G A L P) : gN G (A 6 12) = 480 := h.kdn h.1.2.1 (by decide)
theorem n6_13 (h : Sh E G A L P) : gN G (A 6 13) = 480 := h.kdn h.1.2.1 (by decide)
theorem n6_14 (h : Sh E G A L P) : gN G (A 6 14) = 20 := h.kdn h.1.2.1 (by decide)
theorem n6_15 (h : Sh E G A L P) : gN G (A 6 15) = 80 := h.kdn h.1.2.1 (by decide)
theorem n6_16 (h : Sh E G A L P) : gN G (A 6 16) = 60 := h.kdn h.1.2.1 (by decide)
theorem n6_17 (h : Sh E G A L P) : gN G (A 6 17) = 60 := h.kdn h.1.2.1 (by decide)
theorem n6_18 (h : Sh E G A L P) : gN G (A 6 18) = 1200 := h.kdn h.1.2.1 (by decide)
theorem n6_19 (h : Sh E G A L P) : gN G (A 6 19) = 60 := h.kdn h.1.2.1 (by decide)
theorem n6_20 (h : Sh E G A L P) : gN G (A 6 20) = 60 := h.kdn h.1.2.1 (by decide)
theorem n6_21 (h : Sh E G A L P) : gN G (A 6 21) = 60 := h.kdn h.1.2.1 (by decide)
theorem n6_22 (h : Sh E G A L P) : gN G (A 6 22) = 5 := h.kdn h.1.2.1 (by decide)
theorem n6_23 (h : Sh E G A L P) : gN G (A 6 23) = 5 := h.kdn h.1.2.1 (by decide)
theorem n6_24 (h : Sh E G A L P) : gN G (A 6 24) = 120 := h.kdn h.1.2.1 (by decide)
theorem n6_26 (h : Sh E G A L P) : gN G (A 6 26) = 120 := h.kdn h.1.2.1 (by decide)
theorem n6_29 (h : Sh E G A L P) : gN G (A 6 29) = 5 := h.kdn h.1.2.1 (by decide)
theorem n6_30 (h : Sh E G A L P) : gN G (A 6 30) = 30 := h.kdn h.1.2.1 (by decide)
theorem n6_31 (h : Sh E G A L P) : gN G (A 6 31) = 480 := h.kdn h.1.2.1 (by decide)
theorem n6_32 (h : Sh E G A L P) : gN G (A 6 32) = 480 := h.kdn h.1.2.1 (by decide)
theorem n6_33 (h : Sh E G A L P) : gN G (A 6 33) = 5 := h.kdn h.1.2.1 (by decide)
theorem n6_43 (h : Sh E G A L P) : gN G (A 6 43) = 480000 := h.kdn h.1.2.1 (by decide)
theorem n6_44 (h : Sh E G A L P) : gN G (A 6 44) = 120000 := h.kdn h.1.2.1 (by decide)
theorem n6_45 (h : Sh E G A L P) : gN G (A 6 45) = 60000 := h.kdn h.1.2.1 (by decide)
theorem n6_46 (h : Sh E G A L P) : gN G (A 6 46) = 240 := h.kdn h.1.2.1 (by decide)
theorem n6_59 (h : Sh E G A L P) : gN G (A 6 59) = 20000 := h.kdn h.1.2.1 (by decide)
theorem n6_60 (h : Sh E G A L P) : gN G (A 6 60) = 101 := h.kdn h.1.2.1 (by decide)
theorem BS.o {f : Nat} (h : BS L g f) : SL L g f 0 := by
  obtain ⟨h, ⟨rfl, rfl | rfl⟩ | ⟨h1, h2, rfl⟩⟩ := h
  · exact ⟨h, by decide, rfl⟩
  · exact ⟨h, by decide, rfl⟩
  · exact sP_1 ⟨h, h1, h2⟩
theorem BS.a {f : Nat} (h : BS L g f) : SL L g (f + 1) 13 := by
  obtain ⟨h, ⟨rfl, rfl | rfl⟩ | ⟨h1, h2, rfl⟩⟩ := h
  · exact ⟨h, by decide, rfl⟩
  · exact ⟨h, by decide, rfl⟩
  · exact sP_2 ⟨h, h1, h2⟩
theorem BS.l {f : Nat} (h : BS L g f) (hS : Sh E G A L P) : gR G (A g f) 0 = A g (f + 1) := by
  obtain ⟨h, ⟨rfl, rfl | rfl⟩ | ⟨h1, h2, rfl⟩⟩ := h
  · exact l0_0_0 hS
  · exact l0_24_0 hS
  · exact lP_1_0 hS ⟨h, h1, h2⟩
theorem BS.n {f : Nat} (h : BS L g f) (hS : Sh E G A L P) : gN G (A g f) = 0 := by
  obtain ⟨h, ⟨rfl, rfl | rfl⟩ | ⟨h1, h2, rfl⟩⟩ := h
  · exact n0_0 hS
  · exact n0_24 hS
  · exact nP_1 hS ⟨h, h1, h2⟩
theorem bs_tape (h : L 0 = true) : BS L 0 0 := ⟨h, Or.inl ⟨rfl, Or.inl rfl⟩⟩
theorem bs_store (h : L 0 = true) : BS L 0 24 := ⟨h, Or.inl ⟨rfl, Or.inr rfl⟩⟩
theorem bs_text (h : PG L g) : BS L g 1 := ⟨h.1, Or.inr ⟨h.2.1, h.2.2, rfl⟩⟩
theorem l0_28_8 (h : Sh E G A L P) : gR G (A 0 28) 8 = A 5 0 := h.2.2.2.2.2.1.2.1
theorem l0_9 {p : Int32} (h : Sh E G A L P) (hp : vp_in p 4) : gR G (A 0 9) (Int32.toNatClampNeg p) = A (Int32.toNatClampNeg p + 1) 0 := h.2.2.2.2.2.1.1 _ (by unfold vp_in at hp; omega)
end
