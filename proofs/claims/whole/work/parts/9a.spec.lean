/-! how a text is read: tests and sums -/
abbrev CD : Type := List (Int32 × Int32)
/-- a fault (its code, its place), or what is read: behind which token, steps, notes -/
abbrev RS : Type := (Nat × Nat) ⊕ (Nat × CD × List Int32)
abbrev NR (α : Type) : Type := (Nat × Nat) ⊕ (Nat × α)
def rsE (c p : Nat) : RS := Sum.inl (c, p)
def rsO (i : Nat) (C : CD) (N : List Int32) : RS := Sum.inr (i, C, N)
def rsB (r : RS) (f : Nat → CD → List Int32 → RS) : RS := match r with
  | .inl e => .inl e
  | .inr q => f q.1 q.2.1 q.2.2
def nrB {α : Type} {β : Type} (r : NR α) (f : Nat → α → (Nat × Nat) ⊕ β) : (Nat × Nat) ⊕ β := match r with
  | .inl e => .inl e
  | .inr q => f q.1 q.2
/-- the token can't stand there -/
def rfe (T : Nat → TK) (i : Nat) : Nat × Nat := (if (T i).1 = 3 then 1 else 2, (T i).f)
def nmj (T : Nat → TK) (sg : Bool) (i : Nat) : Nat := if sg = true ∧ (T i).1 = 45 then i + 1 else i
/-- a number, with a sign if it may have one -/
def nmr (T : Nat → TK) (sg : Bool) (lo hi i : Nat) : NR Int32 :=
  if (T (nmj T sg i)).1 = 2 then (if (T (nmj T sg i)).2.2.1 < lo ∨ hi < (T (nmj T sg i)).2.2.1 then .inl (5, (T (nmj T sg i)).f) else .inr (nmj T sg i + 1, if nmj T sg i = i then nI (T (nmj T sg i)).2.2.1 else - nI (T (nmj T sg i)).2.2.1))
  else .inl (rfe T (nmj T sg i))
/-- what a name means: kind and number -/
abbrev MN : Type := Int64 → Option (Nat × Nat)
def vrb (T : Nat → TK) (M : MN) (i : Nat) : NR Nat :=
  if (T i).1 = 1 then (match M (T i).2.1 with
    | some q => if q.1 = 1 then .inr (i + 1, q.2) else .inl (4, (T i).f)
    | none => .inl (4, (T i).f)) else .inl (rfe T i)
/-- names with , between: m may come, n have -/
def nms (T : Nat → TK) (M : MN) (least : Nat) : Nat → Nat → Nat → NR (List Nat)
  | 0, _, i => .inr (i, [])
  | m + 1, n, i => nrB (vrb T M i) (fun i1 v => if m = 0 ∨ (least ≤ n + 1 ∧ (T i1).1 ≠ 44) then .inr (i1, [v]) else if (T i1).1 = 44 then nrB (nms T M least m (n + 1) (i1 + 1)) (fun i2 vs => .inr (i2, v :: vs)) else .inl (rfe T i1))
/-- an entry of a group: 0 a var, 1 a signed number, 2 a number, 3 a state -/
def ent (T : Nat → TK) (M : MN) (s i : Nat) : NR Int32 := if s = 0 then nrB (vrb T M i) (fun i1 v => .inr (i1, nI v)) else nmr T (decide (s = 1)) 0 (if s = 3 then 9 else 9999) i
def grp (T : Nat → TK) (M : MN) (sh : Nat → Nat) : Nat → Nat → Nat → NR (List Int32)
  | 0, _, i => .inr (i, [])
  | m + 1, j, i => if (T i).1 = (if j = 0 then 40 else 44) then nrB (ent T M (sh j) (i + 1)) (fun i1 x => nrB (grp T M sh m (j + 1) i1) (fun i2 xs => .inr (i2, x :: xs))) else .inl (rfe T i)
/-- groups with , between, m may come: how many, their entries -/
def grs (T : Nat → TK) (M : MN) (sh : Nat → Nat) (wide : Nat) : Nat → Nat → NR (Nat × List Int32)
  | 0, i => .inr (i, 0, [])
  | m + 1, i => nrB (grp T M sh wide 0 i) (fun i1 xs => if (T i1).1 = 41 then (if m = 0 ∨ (T (i1 + 1)).1 ≠ 44 then .inr (i1 + 1, 1, xs) else nrB (grs T M sh wide m (i1 + 2)) (fun i2 q => .inr (i2, q.1 + 1, xs ++ q.2))) else .inl (rfe T i1))
def nls (T : Nat → TK) (sg : Bool) (top : Nat) : Nat → Nat → NR (List Int32)
  | 0, i => .inr (i, [])
  | m + 1, i => nrB (nmr T sg 0 top i) (fun i1 x => if m = 0 ∨ (T i1).1 ≠ 44 then .inr (i1, [x]) else nrB (nls T sg top m (i1 + 1)) (fun i2 xs => .inr (i2, x :: xs)))
def shA (j : Nat) : Nat := if j < 2 then 0 else 2
def shB (j : Nat) : Nat := if j < 1 then 0 else 2
def shS (j : Nat) : Nat := if j = 1 then 1 else 3
def shR (_ : Nat) : Nat := 1
/-- how many, and each -/
def nvs (vs : List Nat) : List Int32 := nI vs.length :: vs.map nI
/-- what stands in the brackets of a special test -/
def lst (T : Nat → TK) (M : MN) (w i : Nat) : NR (List Int32) :=
  if w = 312 then nrB (grs T M shA 4 40 i) (fun i1 q => .inr (i1, nI q.1 :: q.2))
  else if w = 311 then nrB (nmr T false 0 9999 i) (fun i1 x => if (T i1).1 = 58 then nrB (grs T M shB 3 40 (i1 + 1)) (fun i2 q => .inr (i2, x :: nI q.1 :: q.2)) else .inl (rfe T i1))
  else nrB (nms T M 1 12 0 i) (fun i1 vs => if w = 306 ∨ w = 309 then .inr (i1, nvs vs)
    else if (T i1).1 = 58 then
      (if w = 308 then nrB (nms T M vs.length vs.length 0 (i1 + 1)) (fun i2 us => .inr (i2, nvs vs ++ nvs us))
       else if w = 307 then nrB (grs T M shR vs.length 40 (i1 + 1)) (fun i2 q => .inr (i2, nvs vs ++ nI q.1 :: q.2))
       else nrB (grs T M shS 3 40 (i1 + 1)) (fun i2 q => if (T i2).1 = 58 then nrB (nls T false 9 10 (i2 + 1)) (fun i3 ss => .inr (i3, nvs vs ++ (nI q.1 :: q.2) ++ (nI ss.length :: ss))) else .inl (rfe T i2)))
    else .inl (rfe T i1))
def spc (T : Nat → TK) (M : MN) (nb i : Nat) : RS :=
  if (T (i + 1)).1 = 40 then nrB (lst T M (T i).1 (i + 2)) (fun i1 N => if (T i1).1 = 41 then rsO (i1 + 1) [(nI ((T i).1 - 284), nI nb)] N else .inl (rfe T i1)) else .inl (rfe T (i + 1))
def rlo (c : Nat) : Option Int32 := if c = 61 then some 13 else if c = 35 then some 14 else if c = 60 then some 15 else if c = 200 then some 16 else if c = 62 then some 17 else if c = 201 then some 18 else none
/-- the step that a sign of a loop leads to; what follows the sign -/
def lpo (tag c : Nat) : Option Int32 := if tag = 11 then (if c = 124 then some 20 else none) else if tag = 12 then (if c = 38 then some 19 else none) else if tag = 14 then (if c = 43 then some 8 else if c = 45 then some 9 else none) else if tag = 15 then (if c = 42 then some 10 else none) else if tag = 17 then (if c = 44 then some 11 else none) else (if c = 44 then some 12 else none)
def lps (tag : Nat) : Nat := if tag = 11 then 2 else if tag = 12 then 3 else if tag = 14 then 5 else if tag = 15 then 6 else 4
/-- one step of reading; rec reads what is within. 0 a test, 1 or, 2 and, 3 a unit, 4 a sum, 5 a term, 6 a factor, above 10 what follows in a loop -/
def prq (T : Nat → TK) (M : MN) (rec : Nat → Nat → Nat → Nat → Nat → RS) (tag x o i nb : Nat) : RS :=
  if tag = 0 then rsB (rec 1 0 o i nb) (fun i1 C1 N1 => if (T i1).1 = 203 then (if 12 ≤ o then rsE 7 (T i1).f else rsB (rec 0 0 (o + 1) (i1 + 1) (nb + N1.length)) (fun i2 C2 N2 => rsO i2 (C1 ++ C2 ++ [(21, 0)]) (N1 ++ N2))) else rsO i1 C1 N1)
  else if tag = 3 then
    (if (T i).1 = 126 then (if 12 ≤ o then rsE 7 (T i).f else rsB (rec 3 0 (o + 1) (i + 1) nb) (fun i1 C N => rsO i1 (C ++ [(6, 0)]) N))
     else if (T i).1 = 123 then (if 12 ≤ o then rsE 7 (T i).f else rsB (rec 0 0 (o + 1) (i + 1) nb) (fun i1 C N => if (T i1).1 = 125 then rsO (i1 + 1) C N else .inl (rfe T i1)))
     else if 306 ≤ (T i).1 ∧ (T i).1 ≤ 312 then spc T M nb i
     else rsB (rec 4 0 o i nb) (fun i1 C1 N1 => match rlo (T i1).1 with
       | none => .inl (rfe T i1)
       | some op => rsB (rec 4 0 o (i1 + 1) (nb + N1.length)) (fun i2 C2 N2 => rsO i2 (C1 ++ C2 ++ [(op, 0)]) (N1 ++ N2))))
  else if tag = 6 then
    (if (T i).1 = 1 then (match M (T i).2.1 with
       | some q => if q.1 = 0 then rsO (i + 1) [(1, nI q.2)] [] else if q.1 = 1 then rsO (i + 1) [(2, nI q.2)] [] else rsE 4 (T i).f
       | none => rsE 4 (T i).f)
     else if (T i).1 = 2 then rsO (i + 1) [(0, nI (T i).2.2.1)] []
     else if (T i).1 = 45 then (if 12 ≤ o then rsE 7 (T i).f else rsB (rec 6 0 (o + 1) (i + 1) nb) (fun i1 C N => rsO i1 (C ++ [(3, 0)]) N))
     else if (T i).1 = 40 then (if 12 ≤ o then rsE 7 (T i).f else rsB (rec 4 0 (o + 1) (i + 1) nb) (fun i1 C N => if (T i1).1 = 41 then rsO (i1 + 1) C N else .inl (rfe T i1)))
     else if (T i).1 = 91 then (if 12 ≤ o then rsE 7 (T i).f else rsB (rec 0 0 (o + 1) (i + 1) nb) (fun i1 C N => if (T i1).1 = 93 then rsO (i1 + 1) (C ++ [(5, 0)]) N else .inl (rfe T i1)))
     else if 313 ≤ (T i).1 ∧ (T i).1 ≤ 316 then
       (if (T (i + 1)).1 = 40 then (if 12 ≤ o then rsE 7 (T (i + 1)).f else rsB (rec 4 0 (o + 1) (i + 2) nb) (fun i1 C1 N1 =>
          if (T i).1 = 313 then (if (T i1).1 = 41 then rsO (i1 + 1) (C1 ++ [(4, 0)]) N1 else .inl (rfe T i1))
          else if (T i).1 = 316 then (if (T i1).1 = 58 then nrB (nls T true 9999 20 (i1 + 1)) (fun i2 xs => if (T i2).1 = 41 then rsO (i2 + 1) (C1 ++ [(7, nI (nb + N1.length))]) (N1 ++ nI xs.length :: xs) else .inl (rfe T i2)) else .inl (rfe T i1))
          else rsB (rec (if (T i).1 = 314 then 17 else 18) 19 (o + 1) i1 (nb + N1.length)) (fun i2 C2 N2 => if (T i2).1 = 41 then rsO (i2 + 1) (C1 ++ C2) (N1 ++ N2) else .inl (rfe T i2))))
        else .inl (rfe T (i + 1)))
     else .inl (rfe T i))
  else if tag ≤ 5 then rsB (rec (tag + 1) 0 o i nb) (fun i1 C1 N1 => rsB (rec (tag + 10) 0 o i1 (nb + N1.length)) (fun i2 C2 N2 => rsO i2 (C1 ++ C2) (N1 ++ N2)))
  else match lpo tag (T i).1 with
    | none => rsO i [] []
    | some op => if tag ≤ 15 ∨ x ≠ 0 then rsB (rec (lps tag) 0 o (i + 1) nb) (fun i1 C1 N1 => rsB (rec tag (x - 1) o i1 (nb + N1.length)) (fun i2 C2 N2 => rsO i2 (C1 ++ (op, 0) :: C2) (N1 ++ N2))) else rsO i [] []
def prz (T : Nat → TK) (M : MN) : Nat → Nat → Nat → Nat → Nat → Nat → RS
  | 0, _, _, _, i, _ => rsE 99 i
  | f + 1, tag, x, o, i, nb => prq T M (prz T M f) tag x o i nb
/-- tokens up to L, where the end stands, or one that is none -/
def TL (T : Nat → TK) (L : Nat) : Prop := (∀ j, j < L → (T j).1 ≠ 0 ∧ (T j).1 ≠ 3) ∧ ((T L).1 = 0 ∨ (T L).1 = 3)
theorem TL.lt {T : Nat → TK} {L i : Nat} (h : TL T L) (hi : i ≤ L) (h0 : (T i).1 ≠ 0) (h3 : (T i).1 ≠ 3) : i < L := by
  by_cases c : i = L
  · subst c; rcases h.2 with z | z
    · exact absurd z h0
    · exact absurd z h3
  · omega
/-- what is read lies behind, up to L, and isn't longer than its tokens -/
def Fit (L i : Nat) (strict : Nat) (r : RS) : Prop := match r with
  | .inl e => e.1 ≠ 99
  | .inr q => i + strict ≤ q.1 ∧ q.1 ≤ L ∧ q.2.1.length ≤ q.1 - i ∧ q.2.2.length ≤ q.1 - i
theorem Fit.e {L i s c p : Nat} (h : c ≠ 99) : Fit L i s (rsE c p) := h
theorem rfe_ne (T : Nat → TK) (i : Nat) : (rfe T i).1 ≠ 99 := by
  unfold rfe
  show (if (T i).1 = 3 then 1 else 2) ≠ 99
  split <;> decide
theorem Fit.r {L i s j : Nat} {T : Nat → TK} : Fit L i s (.inl (rfe T j)) := rfe_ne T j
theorem Fit.b {L i s s1 i0 : Nat} {r : RS} {f : Nat → CD → List Int32 → RS} (h : Fit L i0 s1 r) (k : ∀ i1 C N, i0 + s1 ≤ i1 → i1 ≤ L → C.length ≤ i1 - i0 → N.length ≤ i1 - i0 → Fit L i s (f i1 C N)) : Fit L i s (rsB r f) := by
  cases r with
  | inl e => exact h
  | inr q => exact k q.1 q.2.1 q.2.2 h.1 h.2.1 h.2.2.1 h.2.2.2
/-- the same of lists -/
def FitN {α : Type} (L i s : Nat) (len : α → Nat) (r : NR α) : Prop := match r with
  | .inl e => e.1 ≠ 99
  | .inr q => i + s ≤ q.1 ∧ q.1 ≤ L ∧ len q.2 ≤ q.1 - i
theorem FitN.b {α : Type} {β : Type} {P : (Nat × Nat) ⊕ β → Prop} {L i0 s1 : Nat} {len : α → Nat} {r : NR α} {f : Nat → α → (Nat × Nat) ⊕ β} (h : FitN L i0 s1 len r) (hp : ∀ e : Nat × Nat, e.1 ≠ 99 → P (.inl e)) (k : ∀ i1 x, i0 + s1 ≤ i1 → i1 ≤ L → len x ≤ i1 - i0 → P (f i1 x)) : P (nrB r f) := by
  cases r with
  | inl e => exact hp e h
  | inr q => exact k q.1 q.2 h.1 h.2.1 h.2.2
section
variable {T : Nat → TK} {M : MN} {L : Nat}
theorem nmr_fit (h : TL T L) {sg : Bool} {lo hi i : Nat} (hi0 : i ≤ L) : FitN L i 1 (fun _ => 1) (nmr T sg lo hi i) := by
  have hj : nmj T sg i ≤ L ∧ i ≤ nmj T sg i := by
    unfold nmj
    by_cases c : sg = true ∧ (T i).1 = 45
    · rw [if_pos c]
      have := h.lt hi0 (by rw [c.2]; decide) (by rw [c.2]; decide)
      omega
    · rw [if_neg c]; omega
  unfold nmr
  by_cases c : (T (nmj T sg i)).1 = 2
  · rw [if_pos c]
    have := h.lt hj.1 (by rw [c]; decide) (by rw [c]; decide)
    split
    · exact (by decide : (5 : Nat) ≠ 99)
    · exact ⟨by show i + 1 ≤ nmj T sg i + 1; omega, by show nmj T sg i + 1 ≤ L; omega, by show 1 ≤ nmj T sg i + 1 - i; omega⟩
  · rw [if_neg c]; exact rfe_ne T _
theorem vrb_fit (h : TL T L) {i : Nat} (hi0 : i ≤ L) : FitN L i 1 (fun _ => 1) (vrb T M i) := by
  unfold vrb
  by_cases c : (T i).1 = 1
  · rw [if_pos c]
    have := h.lt hi0 (by rw [c]; decide) (by rw [c]; decide)
    cases M (T i).2.1 with
    | none => exact (by decide : (4 : Nat) ≠ 99)
    | some q =>
      show FitN L i 1 (fun _ => 1) (if q.1 = 1 then .inr (i + 1, q.2) else .inl (4, (T i).f))
      split
      · exact ⟨Nat.le_refl _, this, by show 1 ≤ i + 1 - i; omega⟩
      · exact (by decide : (4 : Nat) ≠ 99)
  · rw [if_neg c]; exact rfe_ne T _
theorem TL.c (h : TL T L) {i c : Nat} (hi : i ≤ L) (hc : (T i).1 = c) (h0 : c ≠ 0) (h3 : c ≠ 3) : i < L := h.lt hi (by rw [hc]; exact h0) (by rw [hc]; exact h3)
theorem nms_fit (h : TL T L) {least : Nat} : ∀ (m n i : Nat), i ≤ L → FitN L i 0 (fun vs : List Nat => vs.length) (nms T M least m n i) := by
  intro m
  induction m with
  | zero => intro n i hi; exact ⟨Nat.le_refl _, hi, Nat.zero_le _⟩
  | succ m ih =>
    intro n i hi
    rw [nms]
    refine FitN.b (P := FitN L i 0 (fun vs : List Nat => vs.length)) (vrb_fit h hi) (fun e q => q) (fun i1 v a1 a2 a3 => ?_)
    split
    · exact ⟨by show i + 0 ≤ i1; omega, a2, by show 1 ≤ i1 - i; omega⟩
    · split
      · rename_i c
        have := h.c a2 c (by decide) (by decide)
        refine FitN.b (P := FitN L i 0 (fun vs : List Nat => vs.length)) (ih (n + 1) (i1 + 1) (by omega)) (fun e q => q) (fun i2 vs b1 b2 b3 => ⟨by show i + 0 ≤ i2; omega, b2, ?_⟩)
        show (v :: vs).length ≤ i2 - i
        rw [List.length_cons]
        have b3 : vs.length ≤ i2 - (i1 + 1) := b3
        omega
      · exact rfe_ne T _
theorem ent_fit (h : TL T L) {s i : Nat} (hi0 : i ≤ L) : FitN L i 1 (fun _ => 1) (ent T M s i) := by
  unfold ent
  split
  · exact FitN.b (P := FitN L i 1 (fun _ : Int32 => 1)) (vrb_fit h hi0) (fun e q => q) (fun i1 v a1 a2 a3 => ⟨a1, a2, a3⟩)
  · exact nmr_fit h hi0
theorem grp_fit (h : TL T L) {sh : Nat → Nat} : ∀ (m j i : Nat), i ≤ L → FitN L i 0 (fun xs : List Int32 => xs.length) (grp T M sh m j i) := by
  intro m
  induction m with
  | zero => intro j i hi; exact ⟨Nat.le_refl _, hi, Nat.zero_le _⟩
  | succ m ih =>
    intro j i hi
    rw [grp]
    by_cases c : (T i).1 = (if j = 0 then 40 else 44)
    · rw [if_pos c]
      have hlt : i < L := h.c hi c (by split <;> decide) (by split <;> decide)
      refine FitN.b (P := FitN L i 0 (fun xs : List Int32 => xs.length)) (ent_fit h (by omega)) (fun e q => q) (fun i1 x a1 a2 a3 => ?_)
      refine FitN.b (P := FitN L i 0 (fun xs : List Int32 => xs.length)) (ih (j + 1) i1 a2) (fun e q => q) (fun i2 xs b1 b2 b3 => ⟨by show i + 0 ≤ i2; omega, b2, ?_⟩)
      show (x :: xs).length ≤ i2 - i
      rw [List.length_cons]
      have b3 : xs.length ≤ i2 - i1 := b3
      omega
    · rw [if_neg c]; exact rfe_ne T _
theorem grs_fit (h : TL T L) {sh : Nat → Nat} {wide : Nat} : ∀ (m i : Nat), i ≤ L → FitN L i 0 (fun q : Nat × List Int32 => q.2.length) (grs T M sh wide m i) := by
  intro m
  induction m with
  | zero => intro i hi; exact ⟨Nat.le_refl _, hi, Nat.zero_le _⟩
  | succ m ih =>
    intro i hi
    rw [grs]
    refine FitN.b (P := FitN L i 0 (fun q : Nat × List Int32 => q.2.length)) (grp_fit h wide 0 i hi) (fun e q => q) (fun i1 xs a1 a2 a3 => ?_)
    have a3 : xs.length ≤ i1 - i := a3
    split
    · rename_i c
      have l1 := h.c a2 c (by decide) (by decide)
      split
      · exact ⟨by show i + 0 ≤ i1 + 1; omega, l1, by show xs.length ≤ i1 + 1 - i; omega⟩
      · rename_i c2
        have c3 : (T (i1 + 1)).1 = 44 := by
          by_cases z : (T (i1 + 1)).1 = 44
          · exact z
          · exact absurd (Or.inr z) c2
        have l2 := h.c (i := i1 + 1) l1 c3 (by decide) (by decide)
        refine FitN.b (P := FitN L i 0 (fun q : Nat × List Int32 => q.2.length)) (ih (i1 + 2) l2) (fun e q => q) (fun i2 q b1 b2 b3 => ⟨by show i + 0 ≤ i2; omega, b2, ?_⟩)
        show (xs ++ q.2).length ≤ i2 - i
        rw [List.length_append]
        have b3 : q.2.length ≤ i2 - (i1 + 2) := b3
        omega
    · exact rfe_ne T _
theorem nls_fit (h : TL T L) {sg : Bool} {top : Nat} : ∀ (m i : Nat), i ≤ L → FitN L i 0 (fun xs : List Int32 => xs.length) (nls T sg top m i) := by
  intro m
  induction m with
  | zero => intro i hi; exact ⟨Nat.le_refl _, hi, Nat.zero_le _⟩
  | succ m ih =>
    intro i hi
    rw [nls]
    refine FitN.b (P := FitN L i 0 (fun xs : List Int32 => xs.length)) (nmr_fit h hi) (fun e q => q) (fun i1 x a1 a2 a3 => ?_)
    split
    · exact ⟨by show i + 0 ≤ i1; omega, a2, by show 1 ≤ i1 - i; omega⟩
    · rename_i c2
      have c3 : (T i1).1 = 44 := by
        by_cases z : (T i1).1 = 44
        · exact z
        · exact absurd (Or.inr z) c2
      have l2 := h.c a2 c3 (by decide) (by decide)
      refine FitN.b (P := FitN L i 0 (fun xs : List Int32 => xs.length)) (ih (i1 + 1) (by omega)) (fun e q => q) (fun i2 xs b1 b2 b3 => ⟨by show i + 0 ≤ i2; omega, b2, ?_⟩)
      show (x :: xs).length ≤ i2 - i
      rw [List.length_cons]
      have b3 : xs.length ≤ i2 - (i1 + 1) := b3
      omega
theorem nvs_len (vs : List Nat) : (nvs vs).length = vs.length + 1 := by unfold nvs; rw [List.length_cons, List.length_map]
/-- two more may be noted than there are tokens -/
theorem lst_fit (h : TL T L) {w i : Nat} (hi : i ≤ L) : FitN L i 0 (fun xs : List Int32 => xs.length - 2) (lst T M w i) := by
  unfold lst
  split
  · refine FitN.b (P := FitN L i 0 (fun xs : List Int32 => xs.length - 2)) (grs_fit h 40 i hi) (fun e q => q) (fun i1 q a1 a2 a3 => ⟨a1, a2, ?_⟩)
    show (nI q.1 :: q.2).length - 2 ≤ i1 - i
    rw [List.length_cons]
    have a3 : q.2.length ≤ i1 - i := a3
    omega
  · split
    · refine FitN.b (P := FitN L i 0 (fun xs : List Int32 => xs.length - 2)) (nmr_fit h hi) (fun e q => q) (fun i1 x a1 a2 a3 => ?_)
      split
      · rename_i c
        have l1 := h.c a2 c (by decide) (by decide)
        refine FitN.b (P := FitN L i 0 (fun xs : List Int32 => xs.length - 2)) (grs_fit h 40 (i1 + 1) (by omega)) (fun e q => q) (fun i2 q b1 b2 b3 => ⟨by show i + 0 ≤ i2; omega, b2, ?_⟩)
        show (x :: nI q.1 :: q.2).length - 2 ≤ i2 - i
        rw [List.length_cons, List.length_cons]
        have b3 : q.2.length ≤ i2 - (i1 + 1) := b3
        omega
      · exact rfe_ne T _
    · refine FitN.b (P := FitN L i 0 (fun xs : List Int32 => xs.length - 2)) (nms_fit h 12 0 i hi) (fun e q => q) (fun i1 vs a1 a2 a3 => ?_)
      have a3 : vs.length ≤ i1 - i := a3
      split
      · refine ⟨by show i + 0 ≤ i1; omega, a2, ?_⟩
        show (nvs vs).length - 2 ≤ i1 - i
        rw [nvs_len]; omega
      · split
        · rename_i c
          have l1 := h.c a2 c (by decide) (by decide)
          split
          · refine FitN.b (P := FitN L i 0 (fun xs : List Int32 => xs.length - 2)) (nms_fit h vs.length 0 (i1 + 1) (by omega)) (fun e q => q) (fun i2 us b1 b2 b3 => ⟨by show i + 0 ≤ i2; omega, b2, ?_⟩)
            show (nvs vs ++ nvs us).length - 2 ≤ i2 - i
            rw [List.length_append, nvs_len, nvs_len]
            have b3 : us.length ≤ i2 - (i1 + 1) := b3
            omega
          · split
            · refine FitN.b (P := FitN L i 0 (fun xs : List Int32 => xs.length - 2)) (grs_fit h 40 (i1 + 1) (by omega)) (fun e q => q) (fun i2 q b1 b2 b3 => ⟨by show i + 0 ≤ i2; omega, b2, ?_⟩)
              show (nvs vs ++ nI q.1 :: q.2).length - 2 ≤ i2 - i
              rw [List.length_append, nvs_len, List.length_cons]
              have b3 : q.2.length ≤ i2 - (i1 + 1) := b3
              omega
            · refine FitN.b (P := FitN L i 0 (fun xs : List Int32 => xs.length - 2)) (grs_fit h 40 (i1 + 1) (by omega)) (fun e q => q) (fun i2 q b1 b2 b3 => ?_)
              have b3 : q.2.length ≤ i2 - (i1 + 1) := b3
              split
              · rename_i c2
                have l2 := h.c b2 c2 (by decide) (by decide)
                refine FitN.b (P := FitN L i 0 (fun xs : List Int32 => xs.length - 2)) (nls_fit h 10 (i2 + 1) (by omega)) (fun e q => q) (fun i3 ss d1 d2 d3 => ⟨by show i + 0 ≤ i3; omega, d2, ?_⟩)
                show (nvs vs ++ (nI q.1 :: q.2) ++ (nI ss.length :: ss)).length - 2 ≤ i3 - i
                rw [List.length_append, List.length_append, nvs_len, List.length_cons, List.length_cons]
                have d3 : ss.length ≤ i3 - (i2 + 1) := d3
                omega
              · exact rfe_ne T _
        · exact rfe_ne T _
theorem spc_fit (h : TL T L) {nb i : Nat} (hi : i < L) : Fit L i 1 (spc T M nb i) := by
  unfold spc
  split
  · rename_i c
    have l1 := h.c (i := i + 1) hi c (by decide) (by decide)
    refine FitN.b (P := Fit L i 1) (lst_fit h (by omega)) (fun e q => q) (fun i1 N a1 a2 a3 => ?_)
    split
    · rename_i c2
      have l2 := h.c a2 c2 (by decide) (by decide)
      have a3 : N.length - 2 ≤ i1 - (i + 2) := a3
      exact ⟨by show i + 1 ≤ i1 + 1; omega, l2, by show 1 ≤ i1 + 1 - i; omega, by show N.length ≤ i1 + 1 - i; omega⟩
    · exact rfe_ne T _
  · exact rfe_ne T _
/-- which comes within which, at one place -/
def rnk (tag : Nat) : Nat := if tag = 0 then 7 else if tag ≤ 6 then 7 - tag else 0
theorem rnk_le (k : Nat) : rnk k ≤ 7 := by
  unfold rnk
  by_cases c : k = 0
  · rw [if_pos c]; exact Nat.le_refl _
  · rw [if_neg c]
    by_cases c2 : k ≤ 6
    · rw [if_pos c2]; omega
    · rw [if_neg c2]; omega
theorem prs_fit (h : TL T L) : ∀ (f tag x o i nb : Nat), i ≤ L → tag ≤ 6 ∨ 11 ≤ tag → 8 * (L - i) + rnk tag < f → Fit L i (if tag ≤ 6 then 1 else 0) (prz T M f tag x o i nb) := by
  intro f
  induction f with
  | zero => intro tag x o i nb _ _ hf; exact absurd hf (Nat.not_lt_zero _)
  | succ f ih =>
    intro tag x o i nb hi ht hf
    rw [prz, prq]
    by_cases c0 : tag = 0
    · subst c0
      rw [if_pos rfl, if_pos (by decide)]
      refine Fit.b (ih 1 0 o i nb hi (by omega) (by have : rnk 1 = 6 := rfl; have : rnk 0 = 7 := rfl; omega)) (fun i1 C1 N1 a1 a2 a3 a4 => ?_)
      rw [if_pos (by decide)] at a1
      split
      · rename_i c
        have l1 := h.c a2 c (by decide) (by decide)
        split
        · exact Fit.e (by decide)
        · refine Fit.b (ih 0 0 (o + 1) (i1 + 1) _ (by omega) (by omega) (by have : rnk 0 = 7 := rfl; omega)) (fun i2 C2 N2 b1 b2 b3 b4 => ⟨by show i + 1 ≤ i2; omega, b2, ?_, ?_⟩)
          · show (C1 ++ C2 ++ [(21, 0)]).length ≤ i2 - i
            rw [List.length_append, List.length_append]
            show C1.length + C2.length + 1 ≤ i2 - i
            omega
          · show (N1 ++ N2).length ≤ i2 - i
            rw [List.length_append]; omega
      · exact ⟨by show i + 1 ≤ i1; omega, a2, a3, a4⟩
    rw [if_neg c0]
    by_cases c3 : tag = 3
    · subst c3
      rw [if_pos rfl, if_pos (by decide)]
      have r3 : rnk 3 = 4 := rfl
      split
      · rename_i c
        have l1 := h.c hi c (by decide) (by decide)
        split
        · exact Fit.e (by decide)
        · refine Fit.b (ih 3 0 (o + 1) (i + 1) nb (by omega) (by omega) (by omega)) (fun i1 C N a1 a2 a3 a4 => ⟨by show i + 1 ≤ i1; omega, a2, ?_, by show N.length ≤ i1 - i; omega⟩)
          show (C ++ [(6, 0)]).length ≤ i1 - i
          rw [List.length_append]
          show C.length + 1 ≤ i1 - i
          omega
      · split
        · rename_i c
          have l1 := h.c hi c (by decide) (by decide)
          split
          · exact Fit.e (by decide)
          · refine Fit.b (ih 0 0 (o + 1) (i + 1) nb (by omega) (by omega) (by have : rnk 0 = 7 := rfl; omega)) (fun i1 C N a1 a2 a3 a4 => ?_)
            split
            · rename_i c2
              have l2 := h.c a2 c2 (by decide) (by decide)
              exact ⟨by show i + 1 ≤ i1 + 1; omega, l2, by show C.length ≤ i1 + 1 - i; omega, by show N.length ≤ i1 + 1 - i; omega⟩
            · exact Fit.r
        · split
          · rename_i c
            exact spc_fit h (h.lt hi (by omega) (by omega))
          · refine Fit.b (ih 4 0 o i nb hi (by omega) (by have : rnk 4 = 3 := rfl; omega)) (fun i1 C1 N1 a1 a2 a3 a4 => ?_)
            rw [if_pos (by decide)] at a1
            cases q : rlo (T i1).1 with
            | none => exact Fit.r
            | some op =>
              have l1 : i1 < L := h.lt a2 (fun z => by rw [z] at q; cases q) (fun z => by rw [z] at q; cases q)
              refine Fit.b (ih 4 0 o (i1 + 1) _ (by omega) (by omega) (by have : rnk 4 = 3 := rfl; omega)) (fun i2 C2 N2 b1 b2 b3 b4 => ⟨by show i + 1 ≤ i2; omega, b2, ?_, ?_⟩)
              · show (C1 ++ C2 ++ [(op, 0)]).length ≤ i2 - i
                rw [List.length_append, List.length_append]
                show C1.length + C2.length + 1 ≤ i2 - i
                omega
              · show (N1 ++ N2).length ≤ i2 - i
                rw [List.length_append]; omega
    rw [if_neg c3]
    by_cases c6 : tag = 6
    · subst c6
      rw [if_pos rfl, if_pos (by decide)]
      have r6 : rnk 6 = 1 := rfl
      by_cases k1 : (T i).1 = 1
      · rw [if_pos k1]
        have l1 := h.c hi k1 (by decide) (by decide)
        cases M (T i).2.1 with
        | none => exact Fit.e (by decide)
        | some q =>
          show Fit L i 1 (if q.1 = 0 then rsO (i + 1) [(1, nI q.2)] [] else if q.1 = 1 then rsO (i + 1) [(2, nI q.2)] [] else rsE 4 (T i).f)
          by_cases z0 : q.1 = 0
          · rw [if_pos z0]; exact ⟨Nat.le_refl _, l1, by show 1 ≤ i + 1 - i; omega, Nat.zero_le _⟩
          · rw [if_neg z0]
            by_cases z1 : q.1 = 1
            · rw [if_pos z1]; exact ⟨Nat.le_refl _, l1, by show 1 ≤ i + 1 - i; omega, Nat.zero_le _⟩
            · rw [if_neg z1]; exact Fit.e (by decide)
      rw [if_neg k1]
      by_cases k2 : (T i).1 = 2
      · rw [if_pos k2]
        have l1 := h.c hi k2 (by decide) (by decide)
        exact ⟨Nat.le_refl _, l1, by show 1 ≤ i + 1 - i; omega, Nat.zero_le _⟩
      rw [if_neg k2]
      by_cases k3 : (T i).1 = 45
      · rw [if_pos k3]
        have l1 := h.c hi k3 (by decide) (by decide)
        by_cases ko : 12 ≤ o
        · rw [if_pos ko]; exact Fit.e (by decide)
        rw [if_neg ko]
        refine Fit.b (ih 6 0 (o + 1) (i + 1) nb (by omega) (by omega) (by omega)) (fun i1 C N a1 a2 a3 a4 => ⟨by show i + 1 ≤ i1; omega, a2, ?_, by show N.length ≤ i1 - i; omega⟩)
        show (C ++ [(3, 0)]).length ≤ i1 - i
        rw [List.length_append]
        show C.length + 1 ≤ i1 - i
        omega
      rw [if_neg k3]
      by_cases k4 : (T i).1 = 40
      · rw [if_pos k4]
        have l1 := h.c hi k4 (by decide) (by decide)
        by_cases ko : 12 ≤ o
        · rw [if_pos ko]; exact Fit.e (by decide)
        rw [if_neg ko]
        refine Fit.b (ih 4 0 (o + 1) (i + 1) nb (by omega) (by omega) (by have : rnk 4 = 3 := rfl; omega)) (fun i1 C N a1 a2 a3 a4 => ?_)
        by_cases c2 : (T i1).1 = 41
        · rw [if_pos c2]
          have l2 := h.c a2 c2 (by decide) (by decide)
          exact ⟨by show i + 1 ≤ i1 + 1; omega, l2, by show C.length ≤ i1 + 1 - i; omega, by show N.length ≤ i1 + 1 - i; omega⟩
        · rw [if_neg c2]; exact Fit.r
      rw [if_neg k4]
      by_cases k5 : (T i).1 = 91
      · rw [if_pos k5]
        have l1 := h.c hi k5 (by decide) (by decide)
        by_cases ko : 12 ≤ o
        · rw [if_pos ko]; exact Fit.e (by decide)
        rw [if_neg ko]
        refine Fit.b (ih 0 0 (o + 1) (i + 1) nb (by omega) (by omega) (by have : rnk 0 = 7 := rfl; omega)) (fun i1 C N a1 a2 a3 a4 => ?_)
        by_cases c2 : (T i1).1 = 93
        · rw [if_pos c2]
          have l2 := h.c a2 c2 (by decide) (by decide)
          refine ⟨by show i + 1 ≤ i1 + 1; omega, l2, ?_, by show N.length ≤ i1 + 1 - i; omega⟩
          show (C ++ [(5, 0)]).length ≤ i1 + 1 - i
          rw [List.length_append]
          show C.length + 1 ≤ i1 + 1 - i
          omega
        · rw [if_neg c2]; exact Fit.r
      rw [if_neg k5]
      by_cases cw : 313 ≤ (T i).1 ∧ (T i).1 ≤ 316
      · rw [if_pos cw]
        have l0 : i < L := h.lt hi (by omega) (by omega)
        by_cases c : (T (i + 1)).1 = 40
        · rw [if_pos c]
          have l1 := h.c (i := i + 1) l0 c (by decide) (by decide)
          by_cases ko : 12 ≤ o
          · rw [if_pos ko]; exact Fit.e (by decide)
          rw [if_neg ko]
          refine Fit.b (ih 4 0 (o + 1) (i + 2) nb (by omega) (by omega) (by have : rnk 4 = 3 := rfl; omega)) (fun i1 C1 N1 a1 a2 a3 a4 => ?_)
          rw [if_pos (by decide)] at a1
          by_cases c13 : (T i).1 = 313
          · rw [if_pos c13]
            by_cases c2 : (T i1).1 = 41
            · rw [if_pos c2]
              have l2 := h.c a2 c2 (by decide) (by decide)
              refine ⟨by show i + 1 ≤ i1 + 1; omega, l2, ?_, by show N1.length ≤ i1 + 1 - i; omega⟩
              show (C1 ++ [(4, 0)]).length ≤ i1 + 1 - i
              rw [List.length_append]
              show C1.length + 1 ≤ i1 + 1 - i
              omega
            · rw [if_neg c2]; exact Fit.r
          rw [if_neg c13]
          by_cases c16 : (T i).1 = 316
          · rw [if_pos c16]
            by_cases c2 : (T i1).1 = 58
            · rw [if_pos c2]
              have l2 := h.c a2 c2 (by decide) (by decide)
              refine FitN.b (P := Fit L i 1) (nls_fit h 20 (i1 + 1) (by omega)) (fun e q => q) (fun i2 xs b1 b2 b3 => ?_)
              have b3 : xs.length ≤ i2 - (i1 + 1) := b3
              by_cases c4 : (T i2).1 = 41
              · rw [if_pos c4]
                have l4 := h.c b2 c4 (by decide) (by decide)
                refine ⟨by show i + 1 ≤ i2 + 1; omega, l4, ?_, ?_⟩
                · show (C1 ++ [(7, nI (nb + N1.length))]).length ≤ i2 + 1 - i
                  rw [List.length_append]
                  show C1.length + 1 ≤ i2 + 1 - i
                  omega
                · show (N1 ++ nI xs.length :: xs).length ≤ i2 + 1 - i
                  rw [List.length_append, List.length_cons]; omega
              · rw [if_neg c4]; exact Fit.r
            · rw [if_neg c2]; exact Fit.r
          rw [if_neg c16]
          refine Fit.b (s1 := 0) (i0 := i1) ?_ (fun i2 C2 N2 b1 b2 b3 b4 => ?_)
          · have tg : (if (T i).1 = 314 then 17 else 18) = 17 ∨ (if (T i).1 = 314 then 17 else 18) = 18 := by
              by_cases z : (T i).1 = 314
              · rw [if_pos z]; exact Or.inl rfl
              · rw [if_neg z]; exact Or.inr rfl
            have z := ih (if (T i).1 = 314 then 17 else 18) 19 (o + 1) i1 (nb + N1.length) a2 (by omega) (by rcases tg with q | q <;> rw [q] <;> (have : rnk 17 = 0 := rfl; have : rnk 18 = 0 := rfl; omega))
            rw [if_neg (by omega)] at z
            exact z
          · by_cases c2 : (T i2).1 = 41
            · rw [if_pos c2]
              have l2 := h.c b2 c2 (by decide) (by decide)
              refine ⟨by show i + 1 ≤ i2 + 1; omega, l2, ?_, ?_⟩
              · show (C1 ++ C2).length ≤ i2 + 1 - i
                rw [List.length_append]; omega
              · show (N1 ++ N2).length ≤ i2 + 1 - i
                rw [List.length_append]; omega
            · rw [if_neg c2]; exact Fit.r
        · rw [if_neg c]; exact Fit.r
      · rw [if_neg cw]; exact Fit.r
    rw [if_neg c6]
    by_cases c5 : tag ≤ 5
    · rw [if_pos c5, if_pos (by omega)]
      have hr : rnk (tag + 1) < rnk tag := by
        unfold rnk
        rw [if_neg (by omega), if_pos (by omega), if_neg c0, if_pos (by omega)]
        omega
      refine Fit.b (ih (tag + 1) 0 o i nb hi (by omega) (by omega)) (fun i1 C1 N1 a1 a2 a3 a4 => ?_)
      rw [if_pos (by omega)] at a1
      have r0 : rnk (tag + 10) = 0 := by unfold rnk; rw [if_neg (by omega), if_neg (by omega)]
      refine Fit.b (ih (tag + 10) 0 o i1 _ a2 (by omega) (by omega)) (fun i2 C2 N2 b1 b2 b3 b4 => ⟨by show i + 1 ≤ i2; omega, b2, ?_, ?_⟩)
      · show (C1 ++ C2).length ≤ i2 - i
        rw [List.length_append]; omega
      · show (N1 ++ N2).length ≤ i2 - i
        rw [List.length_append]; omega
    · rw [if_neg c5, if_neg (by omega)]
      have stop : Fit L i 0 (rsO i [] []) := ⟨Nat.le_refl _, hi, Nat.zero_le _, Nat.zero_le _⟩
      cases q : lpo tag (T i).1 with
      | none => exact stop
      | some op =>
        have nz : ∀ c, (c = 0 ∨ c = 3) → lpo tag c = none := fun c hc => by
          unfold lpo
          split
          · rw [if_neg (by omega)]
          · split
            · rw [if_neg (by omega)]
            · split
              · rw [if_neg (by omega), if_neg (by omega)]
              · split
                · rw [if_neg (by omega)]
                · split <;> rw [if_neg (by omega)]
        have l1 : i < L := h.lt hi (fun z => by rw [nz _ (Or.inl z)] at q; cases q) (fun z => by rw [nz _ (Or.inr z)] at q; cases q)
        show Fit L i 0 (if tag ≤ 15 ∨ x ≠ 0 then _ else _)
        split
        · have ls : lps tag ≤ 6 := by
            unfold lps
            split
            · decide
            · split
              · decide
              · split
                · decide
                · split <;> decide
          have lr : rnk (lps tag) ≤ 7 := rnk_le _
          refine Fit.b (ih (lps tag) 0 o (i + 1) nb (by omega) (Or.inl ls) (by omega)) (fun i1 C1 N1 a1 a2 a3 a4 => ?_)
          rw [if_pos ls] at a1
          have r0 : rnk tag = 0 := by unfold rnk; rw [if_neg c0, if_neg (by omega)]
          refine Fit.b (ih tag (x - 1) o i1 _ a2 (by omega) (by omega)) (fun i2 C2 N2 b1 b2 b3 b4 => ⟨by show i + 0 ≤ i2; omega, b2, ?_, ?_⟩)
          · show (C1 ++ (op, 0) :: C2).length ≤ i2 - i
            rw [List.length_append, List.length_cons]; omega
          · show (N1 ++ N2).length ≤ i2 - i
            rw [List.length_append]; omega
        · exact stop
end
