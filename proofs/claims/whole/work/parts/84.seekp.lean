/-! searching: what a step is; the class's moves -/
/-- the first below n -/
def fsb (P : Nat → Bool) : Nat → Option Nat
  | 0 => none
  | n + 1 => match fsb P n with
    | some k => some k
    | none => if P n = true then some n else none
theorem fsb_none {P : Nat → Bool} : ∀ {n : Nat}, (∀ k, k < n → P k = false) → fsb P n = none
  | 0, _ => rfl
  | n + 1, h => by
    unfold fsb
    rw [fsb_none (fun k hk => h k (by omega))]
    show (if P n = true then some n else none) = none
    rw [h n (by omega)]; rfl
theorem fsb_some {P : Nat → Bool} {k : Nat} (hk : P k = true) (hl : ∀ j, j < k → P j = false) : ∀ {n : Nat}, k < n → fsb P n = some k
  | 0, h => absurd h (Nat.not_lt_zero k)
  | n + 1, h => by
    unfold fsb
    by_cases c : k = n
    · subst c
      rw [fsb_none hl]
      show (if P k = true then some k else none) = some k
      rw [if_pos hk]
    · rw [fsb_some hk hl (show k < n by omega)]
theorem fsb_lt {P : Nat → Bool} {k : Nat} : ∀ {n : Nat}, fsb P n = some k → k < n
  | 0, h => by cases h
  | n + 1, h => by
    unfold fsb at h
    cases e : fsb P n with
    | some j =>
      rw [e] at h
      have : j = k := by simpa using h
      subst this
      have := fsb_lt e
      omega
    | none =>
      rw [e] at h
      have h' : (if P n = true then some n else none) = some k := h
      by_cases c : P n = true
      · rw [if_pos c] at h'
        have : n = k := by simpa using h'
        omega
      · rw [if_neg c] at h'; cases h'
/-- a search's state: seed, trace, kept step; at, kept, taken; late; last changes -/
def SS : Type := (Int32 × Int32 × Int32) × (Nat × Nat × Nat) × (Nat → Nat) × (Nat → Option Nat)
def SS.sd (S : SS) : Int32 := S.1.1
def SS.tr (S : SS) : Int32 := S.1.2.1
def SS.ks (S : SS) : Int32 := S.1.2.2
def SS.cur (S : SS) : Nat := S.2.1.1
def SS.kep (S : SS) : Nat := S.2.1.2.1
def SS.tak (S : SS) : Nat := S.2.1.2.2
def SS.lt (S : SS) : Nat → Nat := S.2.2.1
def SS.lc (S : SS) : Nat → Option Nat := S.2.2.2
def SS.wsd (S : SS) (x : Int32) : SS := ((x, S.1.2), S.2)
def nxs (s : Int32) : Int32 := s * 1664525 + 1013904223
def dw (s : Int32) (n : Nat) : Nat := (nxs s).toBitVec.toNat / 256 % n
/-- where variable a has the value that variable b has in plan p -/
def swp (sz : Nat → Nat) (nv : Nat) (vl : Nat → Nat → Int32) (a b p : Nat) : Option Nat := fsb (fun k => decide (vl a k = vl b (Dg sz nv b p))) (sz a)
def sw2 (sz : Nat → Nat) (nv m a b c : Nat) (o1 o2 : Option Nat) : Option (Nat × Nat × Nat × Nat) := match o1, o2 with
  | some k, some j => some (m, a, b, mvd sz nv b j (mvd sz nv a k c))
  | _, _ => none
/-- a drawn move: its seed then, and (move, one, other, new plan) -/
def prp (sz : Nat → Nat) (nv : Nat) (vl : Nat → Nat → Int32) (F : Nat) (fre : Nat → Nat) (s : Int32) (c : Nat) : Option (Nat × Nat × Nat × Nat) :=
  if dw s 4 < 3 then
    some (dw s 4, fre (dw (nxs s) F), fre (dw (nxs s) F), mvd sz nv (fre (dw (nxs s) F)) (if dw (nxs (nxs s)) (sz (fre (dw (nxs s) F)) - 1) < Dg sz nv (fre (dw (nxs s) F)) c then dw (nxs (nxs s)) (sz (fre (dw (nxs s) F)) - 1) else dw (nxs (nxs s)) (sz (fre (dw (nxs s) F)) - 1) + 1) c)
  else if fre (dw (nxs s) F) = fre (dw (nxs (nxs s)) F) then none
  else sw2 sz nv (dw s 4) (fre (dw (nxs s) F)) (fre (dw (nxs (nxs s)) F)) c (swp sz nv vl (fre (dw (nxs s) F)) (fre (dw (nxs (nxs s)) F)) c) (swp sz nv vl (fre (dw (nxs (nxs s)) F)) (fre (dw (nxs s) F)) c)
def brI (len : Int32) (o : Option Nat) : Int32 := match o with
  | none => -1
  | some t => nI t + len
/-- the class's searcher holds S -/
def ScC (V : VH) (F : Nat) (fre : Nat → Nat) (len : Int32) (S : SS) : Prop := vI V 0 16 2 = S.sd ∧ vI V 0 16 1 = S.tr ∧ vI V 0 16 3 = S.ks ∧ vI V 0 16 8 = nI S.cur ∧ vI V 0 16 10 = nI S.kep ∧ vI V 0 16 5 = nI F ∧ (∀ i, i < 20 → vI V 0 18 i = nI (S.lt i)) ∧ (∀ v, v < 12 → vI V 0 19 v = brI len (S.lc v)) ∧ ∀ j, j < F → vI V 0 17 j = nI (fre j)
/-- which variables are free -/
def FrO (nv : Nat) (sz : Nat → Nat) (F : Nat) (fre : Nat → Nat) : Prop := 1 ≤ F ∧ F ≤ 12 ∧ ∀ j, j < F → fre j < nv ∧ 2 ≤ sz (fre j)
section
variable {E : EE} {d : Nat} {V : VH} {g nv : Nat} {sz : Nat → Nat} {vl : Nat → Nat → Int32} {F : Nat} {fre : Nat → Nat} {len : Int32} {S : SS}
def seO : Nat → Nat → Nat → Prop := fun a f i => a = 0 ∧ f = 16 ∧ (i = 9 ∨ i = 11 ∨ i = 12 ∨ i = 13)
def seD : Nat → Nat → Nat → Prop := fun a f i => a = 0 ∧ f = 16 ∧ (i = 2 ∨ i = 9 ∨ i = 11 ∨ i = 12 ∨ i = 13)
theorem ScC.fc {V' : VH} (h : ScC V F fre len S) (k : Fc V V' seO) : ScC V' F fre len S := by
  obtain ⟨h1, h2, h3, h4, h5, h6, h7, h8, h9⟩ := h
  refine ⟨?_, ?_, ?_, ?_, ?_, ?_, fun i hi => ?_, fun i hi => ?_, fun i hi => ?_⟩
  · rw [k.i (fun z => by have := z.2.2; omega)]; exact h1
  · rw [k.i (fun z => by have := z.2.2; omega)]; exact h2
  · rw [k.i (fun z => by have := z.2.2; omega)]; exact h3
  · rw [k.i (fun z => by have := z.2.2; omega)]; exact h4
  · rw [k.i (fun z => by have := z.2.2; omega)]; exact h5
  · rw [k.i (fun z => by have := z.2.2; omega)]; exact h6
  · rw [k.i (fun z => by have := z.2.1; omega)]; exact h7 i hi
  · rw [k.i (fun z => by have := z.2.1; omega)]; exact h8 i hi
  · rw [k.i (fun z => by have := z.2.1; omega)]; exact h9 i hi
theorem ScC.sd {x : Int32} (h : ScC V F fre len S) : ScC (wrI V 0 16 2 x) F fre len (S.wsd x) := by
  obtain ⟨h1, h2, h3, h4, h5, h6, h7, h8, h9⟩ := h
  refine ⟨wrI_at, ?_, ?_, ?_, ?_, ?_, fun i hi => ?_, fun i hi => ?_, fun i hi => ?_⟩
  · rw [wrI_ne (fun z => by omega)]; exact h2
  · rw [wrI_ne (fun z => by omega)]; exact h3
  · rw [wrI_ne (fun z => by omega)]; exact h4
  · rw [wrI_ne (fun z => by omega)]; exact h5
  · rw [wrI_ne (fun z => by omega)]; exact h6
  · rw [wrI_ne (fun z => by omega)]; exact h7 i hi
  · rw [wrI_ne (fun z => by omega)]; exact h8 i hi
  · rw [wrI_ne (fun z => by omega)]; exact h9 i hi
theorem iushr8 (x : Int32) : iushr x 8 = nI (x.toBitVec.toNat / 256) := by
  apply Int32.toBitVec_inj.mp
  apply BitVec.eq_of_toNat_eq
  have e := iushr_nat x (k := 8) (by decide)
  have l := x.toBitVec.isLt
  rw [show (8 : Int32) = nI 8 from rfl, e]
  show _ = (BitVec.ofNat 32 (x.toBitVec.toNat / 256)).toNat
  rw [BitVec.toNat_ofNat, Nat.mod_eq_of_lt (by omega)]
theorem dw_eq (s : Int32) {n : Nat} (hn : n < 2 ^ 31) : iushr (nxs s) 8 - iushr (nxs s) 8 / nI n * nI n = nI (dw s n) := by
  have l := (nxs s).toBitVec.isLt
  rw [iushr8, nI_rem (by omega) hn]; rfl
theorem c_draw {n : Nat} {K : Int32 → VH → Prop} (h1 : 1 ≤ n) (hn : n < 2 ^ 31) (h : ScC V F fre len S) (hk : K (nI (dw S.sd n)) (wrI V 0 16 2 (nxs S.sd))) : vMI E d M_X6_draw [sl 0 16, wi (nI n)] V K := by
  refine w_X6_draw_0 (fun V1 e1 => ?_)
  have e : vI V1 0 16 2 = nxs S.sd := by rw [e1, wrI_at, h.1]; rfl
  refine ⟨fun _ => ⟨nI_ne0 (by omega) hn, ?_⟩, fun z => absurd (nI_le h1 hn) z⟩
  rw [e, dw_eq _ hn]
  rw [h.1] at e1
  have e1' : V1 = wrI V 0 16 2 (nxs S.sd) := e1
  rw [e1']; exact hk
end
