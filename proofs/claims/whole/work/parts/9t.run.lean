/-! the steps of a part are run: the class -/
def hld (x : Int64) : Int32 := Int64.toInt32 (lmax (-1000000) (lmin 1000000 x))
def on1 (o x : Int32) : Int32 := if o = 3 then hld (-(Int32.toInt64 x)) else if o = 4 then hld (labs (Int32.toInt64 x)) else if x = 0 then 1 else 0
def on2 (o x y : Int32) : Int32 := if o = 8 then hld (Int32.toInt64 x + Int32.toInt64 y) else if o = 9 then hld (Int32.toInt64 x - Int32.toInt64 y) else if o = 10 then hld (Int32.toInt64 x * Int32.toInt64 y) else if o = 11 then imin x y else if o = 12 then imax x y else if o = 13 then iabs (x - y) else if o = 14 then (if x = y then 1 else 0) else if o = 15 then imax 0 (x - y + 1) else if o = 16 then imax 0 (x - y) else if o = 17 then imax 0 (y - x + 1) else if o = 18 then imax 0 (y - x) else if o = 19 then imin 1000000 (x + y) else if o = 20 then imin x y else if x = 0 then y else 0
theorem on2_8 (x y : Int32) : on2 8 x y = hld (Int32.toInt64 x + Int32.toInt64 y) := by unfold on2; rw [if_pos rfl]
theorem on2_9 (x y : Int32) : on2 9 x y = hld (Int32.toInt64 x - Int32.toInt64 y) := by unfold on2; rw [if_neg (by decide), if_pos rfl]
theorem on2_10 (x y : Int32) : on2 10 x y = hld (Int32.toInt64 x * Int32.toInt64 y) := by unfold on2; rw [if_neg (by decide), if_neg (by decide), if_pos rfl]
theorem on2_11 (x y : Int32) : on2 11 x y = imin x y := by unfold on2; rw [if_neg (by decide), if_neg (by decide), if_neg (by decide), if_pos rfl]
theorem on2_12 (x y : Int32) : on2 12 x y = imax x y := by unfold on2; rw [if_neg (by decide), if_neg (by decide), if_neg (by decide), if_neg (by decide), if_pos rfl]
theorem on2_13 (x y : Int32) : on2 13 x y = iabs (x - y) := by unfold on2; rw [if_neg (by decide), if_neg (by decide), if_neg (by decide), if_neg (by decide), if_neg (by decide), if_pos rfl]
theorem on2_14 (x y : Int32) : on2 14 x y = (if x = y then 1 else 0) := by unfold on2; rw [if_neg (by decide), if_neg (by decide), if_neg (by decide), if_neg (by decide), if_neg (by decide), if_neg (by decide), if_pos rfl]
theorem on2_15 (x y : Int32) : on2 15 x y = imax 0 (x - y + 1) := by unfold on2; rw [if_neg (by decide), if_neg (by decide), if_neg (by decide), if_neg (by decide), if_neg (by decide), if_neg (by decide), if_neg (by decide), if_pos rfl]
theorem on2_16 (x y : Int32) : on2 16 x y = imax 0 (x - y) := by unfold on2; rw [if_neg (by decide), if_neg (by decide), if_neg (by decide), if_neg (by decide), if_neg (by decide), if_neg (by decide), if_neg (by decide), if_neg (by decide), if_pos rfl]
theorem on2_17 (x y : Int32) : on2 17 x y = imax 0 (y - x + 1) := by unfold on2; rw [if_neg (by decide), if_neg (by decide), if_neg (by decide), if_neg (by decide), if_neg (by decide), if_neg (by decide), if_neg (by decide), if_neg (by decide), if_neg (by decide), if_pos rfl]
theorem on2_18 (x y : Int32) : on2 18 x y = imax 0 (y - x) := by unfold on2; rw [if_neg (by decide), if_neg (by decide), if_neg (by decide), if_neg (by decide), if_neg (by decide), if_neg (by decide), if_neg (by decide), if_neg (by decide), if_neg (by decide), if_neg (by decide), if_pos rfl]
theorem on2_19 (x y : Int32) : on2 19 x y = imin 1000000 (x + y) := by unfold on2; rw [if_neg (by decide), if_neg (by decide), if_neg (by decide), if_neg (by decide), if_neg (by decide), if_neg (by decide), if_neg (by decide), if_neg (by decide), if_neg (by decide), if_neg (by decide), if_neg (by decide), if_pos rfl]
theorem on2_20 (x y : Int32) : on2 20 x y = imin x y := by unfold on2; rw [if_neg (by decide), if_neg (by decide), if_neg (by decide), if_neg (by decide), if_neg (by decide), if_neg (by decide), if_neg (by decide), if_neg (by decide), if_neg (by decide), if_neg (by decide), if_neg (by decide), if_neg (by decide), if_pos rfl]
theorem on2_21 (x y : Int32) : on2 21 x y = if x = 0 then y else 0 := by unfold on2; rw [if_neg (by decide), if_neg (by decide), if_neg (by decide), if_neg (by decide), if_neg (by decide), if_neg (by decide), if_neg (by decide), if_neg (by decide), if_neg (by decide), if_neg (by decide), if_neg (by decide), if_neg (by decide), if_neg (by decide)]
theorem on1_3 (x : Int32) : on1 3 x = hld (-(Int32.toInt64 x)) := by unfold on1; rw [if_pos rfl]
theorem on1_4 (x : Int32) : on1 4 x = hld (labs (Int32.toInt64 x)) := by unfold on1; rw [if_neg (by decide), if_pos rfl]
theorem on1_5 (x : Int32) : on1 5 x = if x = 0 then 1 else 0 := by unfold on1; rw [if_neg (by decide), if_neg (by decide)]
theorem on1_6 (x : Int32) : on1 6 x = if x = 0 then 1 else 0 := by unfold on1; rw [if_neg (by decide), if_neg (by decide)]
theorem vM_wf {E : EE} {d : Nat} {N : MD} {as : List WV} {V : VH} {Q : Option WV → VH → Prop} (k : WF V → vM E d N as V Q) : vM E d N as V Q := fun G A h => k h.wf G A h
theorem WF.n18 {V : VH} {g : Nat} (h : WF V) (hg : PG (vL V) g) : vN V g 18 = 12 := h.2.1 g hg.1 (18, 12) (by rw [LNeqP hg]; decide)
section
variable {E : EE} {d : Nat} {V : VH} {g nn : Nat} {nt : Nat → Int32} {K : Int32 → VH → Prop}
theorem c_ofOne {o x : Int32} (h0 : 1 < d) (K1 : K (on1 o x) V) : vMI E d M_X2_ofOne [wi o, wi x] V K := by
  refine w_X2_ofOne_0 (by omega) ⟨fun q => w_X2_held_0 (by omega) ?_, fun q => w_X2_held_0 (by omega) ?_, fun q q1 => ⟨fun q2 => ?_, fun q2 => ?_⟩⟩
  · subst q; rw [on1_3] at K1; exact K1
  · subst q; rw [on1_4] at K1; exact K1
  · unfold on1 at K1; rw [if_neg q, if_neg q1, if_neg q2] at K1; exact K1
  · unfold on1 at K1; rw [if_neg q, if_neg q1, if_pos q2] at K1; exact K1
theorem c_ofTwo {o x y : Int32} (h0 : 1 < d) (K1 : K (on2 o x y) V) : vMI E d M_X2_ofTwo [wi o, wi x, wi y] V K := by
  refine w_X2_ofTwo_0 (by omega) ⟨fun q => w_X2_held_0 (by omega) ?_, fun q => w_X2_held_0 (by omega) ?_, fun q => w_X2_held_0 (by omega) ?_, fun q => ?_, fun q => ?_, fun q => ?_, fun q => ⟨fun q1 => ?_, fun q1 => ?_⟩, fun q => ?_, fun q => ?_, fun q => ?_, fun q => ?_, fun q => ?_, fun q => ?_, fun q8 q9 q10 q11 q12 q13 q14 q15 q16 q17 q18 q19 q20 => ⟨fun q1 => ?_, fun q1 => ?_⟩⟩
  · subst q; rw [on2_8] at K1; exact K1
  · subst q; rw [on2_9] at K1; exact K1
  · subst q; rw [on2_10] at K1; exact K1
  · subst q; rw [on2_11] at K1; exact K1
  · subst q; rw [on2_12] at K1; exact K1
  · subst q; rw [on2_13] at K1; exact K1
  · subst q; rw [on2_14, if_neg q1] at K1; exact K1
  · subst q; rw [on2_14, if_pos q1] at K1; exact K1
  · subst q; rw [on2_15] at K1; exact K1
  · subst q; rw [on2_16] at K1; exact K1
  · subst q; rw [on2_17] at K1; exact K1
  · subst q; rw [on2_18] at K1; exact K1
  · subst q; rw [on2_19] at K1; exact K1
  · subst q; rw [on2_20] at K1; exact K1
  · unfold on2 at K1; rw [if_neg q8, if_neg q9, if_neg q10, if_neg q11, if_neg q12, if_neg q13, if_neg q14, if_neg q15, if_neg q16, if_neg q17, if_neg q18, if_neg q19, if_neg q20, if_neg q1] at K1; exact K1
  · unfold on2 at K1; rw [if_neg q8, if_neg q9, if_neg q10, if_neg q11, if_neg q12, if_neg q13, if_neg q14, if_neg q15, if_neg q16, if_neg q17, if_neg q18, if_neg q19, if_neg q20, if_pos q1] at K1; exact K1
end
/-- a row up to n -/
def cut (n : Nat) (t : Nat → Int32) (k : Nat) : Int32 := if k < n then t k else 0
theorem cut_in {n k : Nat} {t : Nat → Int32} (h : k < n) : cut n t k = t k := if_pos h
def hdz (st : List Int32) : Int32 := match st with
  | [] => 0
  | x :: _ => x
def psh (x : Int32) (st : List Int32) : List Int32 := if 128 ≤ st.length then st else x :: st
def lfv (fa se : Nat → Int32) (o x : Int32) : Int32 := if o = 0 then x else if o = 1 then fa x.toNatClampNeg else se x.toNatClampNeg
def pkx (nt : Nat → Int32) (w : Nat) (x : Int32) : Int32 := if 0 ≤ x ∧ x < nt w then nt (w + 1 + x.toNatClampNeg) else 0
def ntn (nt : Nat → Int32) (k : Nat) : Nat := (nt k).toNatClampNeg
def ntv (nt se : Nat → Int32) (k : Nat) : Int32 := se (ntn nt k)
def spx (nt se : Nat → Int32) (o : Int32) (w : Nat) : Int32 :=
  if o = 22 then nI (dup (fun j => ntv nt se (w + 1 + j)) (ntn nt w))
  else if o = 23 then nI (rmn (fun j => ntv nt se (w + 1 + j)) (fun r j => nt (w + 2 + ntn nt w + r * ntn nt w + j)) (ntn nt w) (ntn nt (w + 1 + ntn nt w)))
  else if o = 24 then lxv (fun j => ntv nt se (w + 1 + j)) (fun j => ntv nt se (w + 1 + ntn nt w + 1 + j)) (ntn nt w) 0
  else if o = 25 then rgv (fun j => ntv nt se (w + 1 + j)) (ntn nt w)
  else if o = 26 then auv (fun j => ntv nt se (w + 1 + j)) (fun r j => nt (w + 2 + ntn nt w + r * 3 + j)) (fun i => nt (w + 3 + ntn nt w + 3 * ntn nt (w + 1 + ntn nt w) + i)) (ntn nt w) (ntn nt (w + 1 + ntn nt w)) (ntn nt (w + 2 + ntn nt w + 3 * ntn nt (w + 1 + ntn nt w)))
  else if o = 27 then bsv (nt w) (fun r => ntv nt se (w + 2 + 3 * r)) (fun r => nt (w + 2 + 3 * r + 1)) (fun r => nt (w + 2 + 3 * r + 2)) (ntn nt (w + 1))
  else nI (oci (ov2 (fun r => ntv nt se (w + 1 + 4 * r)) (fun r => ntv nt se (w + 1 + 4 * r + 1)) (fun r => nt (w + 1 + 4 * r + 2)) (fun r => nt (w + 1 + 4 * r + 3))) (ntn nt w) 0)
def stp (nt fa se : Nat → Int32) (e : Int32 × Int32) (st : List Int32) : List Int32 :=
  if 2 < e.1 then (if 7 ≤ e.1 then (if e.1 = 7 then psh (pkx nt e.2.toNatClampNeg (hdz st)) st.tail else if 22 ≤ e.1 then psh (spx nt se e.1 e.2.toNatClampNeg) st else psh (on2 e.1 (hdz st.tail) (hdz st)) st.tail.tail) else psh (on1 e.1 (hdz st)) st.tail) else psh (lfv fa se e.1 e.2) st
def exc (nt fa se : Nat → Int32) (C : CD) (st : List Int32) : List Int32 := C.foldl (fun st e => stp nt fa se e st) st
theorem exc_nil {nt fa se : Nat → Int32} {st : List Int32} : exc nt fa se [] st = st := rfl
theorem exc_cons {nt fa se : Nat → Int32} {e : Int32 × Int32} {C : CD} {st : List Int32} : exc nt fa se (e :: C) st = exc nt fa se C (stp nt fa se e st) := rfl
theorem exc_app {nt fa se : Nat → Int32} {C C' : CD} {st : List Int32} : exc nt fa se (C ++ C') st = exc nt fa se C' (exc nt fa se C st) := List.foldl_append
/-- n names from w + 1 on -/
def Nok (nv nn : Nat) (nt : Nat → Int32) (w n : Nat) : Prop := n ≤ 12 ∧ w + 1 + n ≤ nn ∧ nt w = nI n ∧ ∀ j, j < n → ∃ v, v < nv ∧ nt (w + 1 + j) = nI v
def Rok (nn : Nat) (nt : Nat → Int32) (w n c m : Nat) : Prop := m ≤ 40 ∧ w + 2 + n + m * c ≤ nn ∧ nt (w + 1 + n) = nI m
/-- a step that may stand: facts, values and notes that there are -/
def Okc (nf nv nn : Nat) (nt : Nat → Int32) (e : Int32 × Int32) : Prop :=
  if e.1 = 0 then True else if e.1 = 1 then ∃ k, k < nf ∧ e.2 = nI k else if e.1 = 2 then ∃ k, k < nv ∧ e.2 = nI k
  else if e.1 = 3 ∨ e.1 = 4 ∨ e.1 = 5 ∨ e.1 = 6 then True
  else if e.1 = 7 then ∃ w n, e.2 = nI w ∧ w + 1 + n ≤ nn ∧ nt w = nI n
  else if e.1 < 22 then 7 ≤ e.1
  else if e.1 = 22 ∨ e.1 = 25 then ∃ w n, e.2 = nI w ∧ Nok nv nn nt w n
  else if e.1 = 23 then ∃ w n m, e.2 = nI w ∧ Nok nv nn nt w n ∧ Rok nn nt w n n m
  else if e.1 = 24 then ∃ w n, e.2 = nI w ∧ Nok nv nn nt w n ∧ Nok nv nn nt (w + 1 + n) n
  else if e.1 = 26 then ∃ w n m k, e.2 = nI w ∧ Nok nv nn nt w n ∧ Rok nn nt w n 3 m ∧ (∀ r, r < m → 0 ≤ nt (w + 2 + n + r * 3 + 2)) ∧ k ≤ 10 ∧ w + 3 + n + 3 * m + k ≤ nn ∧ nt (w + 2 + n + 3 * m) = nI k
  else if e.1 = 27 then ∃ w m, e.2 = nI w ∧ m ≤ 40 ∧ w + 2 + 3 * m ≤ nn ∧ nt (w + 1) = nI m ∧ ∀ r, r < m → ∃ v, v < nv ∧ nt (w + 2 + 3 * r) = nI v
  else e.1 = 28 ∧ ∃ w m, e.2 = nI w ∧ m ≤ 40 ∧ w + 1 + 4 * m ≤ nn ∧ nt w = nI m ∧ ∀ r, r < m → (∃ v, v < nv ∧ nt (w + 1 + 4 * r) = nI v) ∧ ∃ v, v < nv ∧ nt (w + 1 + 4 * r + 1) = nI v
theorem Nok.nmd {V : VH} {g nv nn w n : Nat} {nt : Nat → Int32} (h : Nok nv nn nt w n) (hv : nv ≤ 12) : Nmd V g nn nt w n (fun j => ntv nt (cut nv (vI V g 18)) (w + 1 + j)) := ⟨h.1, h.2.1, h.2.2.1, fun j hj => by
  obtain ⟨v, lv, ev⟩ := h.2.2.2 j hj
  refine ⟨v, by omega, ev, ?_⟩
  show _ = cut nv (vI V g 18) (nt (w + 1 + j)).toNatClampNeg
  rw [ev, nI_clamp (show v < 2 ^ 31 by omega), cut_in lv]⟩
section
variable {E : EE} {d : Nat} {V : VH} {g nn nv nf : Nat} {nt : Nat → Int32} {K : Int32 → VH → Prop}
theorem c_leaf {a f : Nat} {e : Int32 × Int32} (h : EV V g nn nt) (hv : nv ≤ 12) (hf : nf ≤ 16) (ha : SL (vL V) a f 14) (na : vN V a f = 16) (ho : ¬ 2 < e.1) (h2 : e.1 = 0 ∨ e.1 = 1 ∨ e.1 = 2) (ok : Okc nf nv nn nt e) (K1 : K (lfv (cut nf (vI V a f)) (cut nv (vI V g 18)) e.1 e.2) V) : vMI E d M_X2_leaf [sl g 9, wi e.1, wi e.2, sl a f] V K := by
  obtain ⟨o, x⟩ := e
  refine vM_wf (fun wf => ?_)
  have n18 := wf.n18 h.1
  unfold Okc at ok
  unfold lfv at K1
  refine w_X2_leaf_0 h.1 ha ⟨fun q0 => ⟨fun q1 => ?_, fun q1 => ?_⟩, fun q0 => ?_⟩
  · have e2 : o = 2 := by
      rcases h2 with z | z | z
      · exact absurd z q0
      · exact absurd z q1
      · exact z
    rw [if_neg q0, if_neg q1, if_pos e2] at ok
    obtain ⟨k, lk, ek⟩ := ok
    have ek' : x = nI k := ek
    subst ek'
    rw [if_neg q0, if_neg q1, nI_clamp (show k < 2 ^ 31 by omega), cut_in lk] at K1
    refine w_X2_leaf_19 h.1 ha (sP_18 h.1) ⟨fun q => absurd q (nI_pos (by omega)), fun _ => ⟨fun q => absurd q (nI_ge (by omega) (by omega)), fun _ => ⟨vp_in_nI (by omega) (by omega), ?_⟩⟩⟩
    rw [nI_clamp (show k < 2 ^ 31 by omega)]
    exact K1
  · rw [if_neg q0, if_pos q1] at ok
    obtain ⟨k, lk, ek⟩ := ok
    have ek' : x = nI k := ek
    subst ek'
    rw [if_neg q0, if_pos q1, nI_clamp (show k < 2 ^ 31 by omega), cut_in lk] at K1
    refine w_X2_leaf_19 h.1 ha ha ⟨fun q => absurd q (nI_pos (by omega)), fun _ => ⟨fun q => absurd q (nI_ge (by omega) (by omega)), fun _ => ⟨vp_in_nI (by omega) (by omega), ?_⟩⟩⟩
    rw [nI_clamp (show k < 2 ^ 31 by omega)]
    exact K1
  · rw [if_pos q0] at K1; exact K1
end
