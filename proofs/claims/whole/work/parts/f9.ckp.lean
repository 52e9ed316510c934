/-! check: what the tokens of a proof say; the class's tokens -/
theorem fA_all {A G : Nat → Bool} : ∀ b, (fA A (fun s a => s && G a) true b = true ↔ ∀ a, a < b → A a = true → G a = true) := by
  intro b
  induction b with
  | zero => rw [fA_zero]; exact ⟨fun _ a ha => absurd ha (Nat.not_lt_zero a), fun _ => rfl⟩
  | succ b ih =>
    by_cases c : A b = true
    · rw [fA_yes c]
      constructor
      · intro y a ha hA
        have y : (fA A (fun s a => s && G a) true b && G b) = true := y
        rw [Bool.and_eq_true] at y
        by_cases u : a = b
        · rw [u]; exact y.2
        · exact ih.mp y.1 a (by omega) hA
      · intro y
        show (fA A (fun s a => s && G a) true b && G b) = true
        rw [Bool.and_eq_true]
        exact ⟨ih.mpr (fun a ha => y a (by omega)), y b (by omega) c⟩
    · rw [fA_no c]
      constructor
      · intro y a ha hA
        by_cases u : a = b
        · rw [u] at hA; exact absurd hA c
        · exact ih.mp y a (by omega) hA
      · intro y
        exact ih.mpr (fun a ha => y a (by omega))
/-- trees for the values from k on, each behind its sign -/
def ckbR (T : Nat → TK) (sub : Nat → Nat → (Nat × Nat) ⊕ Nat) : Nat → Nat → Nat → (Nat × Nat) ⊕ Nat
  | 0, _, i => if (T i).1 = 41 then .inr (i + 1) else .inl (rfe T i)
  | r + 1, k, i => if (T i).1 = (if k = 0 then 40 else 44) then (match sub k (i + 1) with
    | .inl e => .inl e
    | .inr j => ckbR T sub r (k + 1) j) else .inl (rfe T i)
/-- a tree that begins with no name: bk: broken always, pt: a point that is no gain, bd: bounded -/
def ckL (T : Nat → TK) (M : MN) (hb : Nat → Bool) (bk : Nat → Bool) (pt bd : Bool) (i : Nat) : (Nat × Nat) ⊕ Nat :=
  if (T i).1 = 33 then (if (T (i + 1)).1 = 1 then (match M (T (i + 1)).2.1 with
    | some y => if y.1 = 2 ∧ hb y.2 = true then (if bk y.2 = true then .inr (i + 2) else .inl (8, (T i).f)) else .inl (4, (T (i + 1)).f)
    | none => .inl (4, (T (i + 1)).f)) else .inl (rfe T (i + 1)))
  else if (T i).1 = 46 then (if pt = true then .inr (i + 1) else .inl (8, (T i).f))
  else if (T i).1 = 60 then (if bd = true then .inr (i + 1) else .inl (8, (T i).f))
  else .inl (rfe T i)
/-- a tree, where at most m vars are not given -/
def ckT (T : Nat → TK) (M : MN) (hb : Nat → Bool) (bk : Int32 → Nat → Nat → Bool) (pt bd : Int32 → Nat → Bool) (sz : Nat → Nat) (nv : Nat) : Nat → Int32 → Nat → Nat → (Nat × Nat) ⊕ Nat
  | 0, x, p, i => if (T i).1 = 1 then .inl (4, (T i).f) else ckL T M hb (bk x p) (pt x p) (bd x p) i
  | m + 1, x, p, i => if (T i).1 = 1 then (match M (T i).2.1 with
    | some y => if y.1 = 1 ∧ tst x y.2 = false then ckbR T (fun k j => ckT T M hb bk pt bd sz nv m (x ||| (1 <<< (nI y.2 &&& 31))) (mvd sz nv y.2 k p) j) (sz y.2) 0 (i + 1) else .inl (4, (T i).f)
    | none => .inl (4, (T i).f)) else ckL T M hb (bk x p) (pt x p) (bd x p) i
section
variable {T : Nat → TK} {M : MN} {hb : Nat → Bool} {bk : Int32 → Nat → Nat → Bool} {pt bd : Int32 → Nat → Bool} {sz : Nat → Nat} {nv : Nat} {sub : Nat → Nat → (Nat × Nat) ⊕ Nat} {i k r m p : Nat} {x : Int32}
theorem ckb_0y (h : (T i).1 = 41) : ckbR T sub 0 k i = .inr (i + 1) := by rw [ckbR, if_pos h]
theorem ckb_0n (h : (T i).1 ≠ 41) : ckbR T sub 0 k i = .inl (rfe T i) := by rw [ckbR, if_neg h]
theorem ckb_n (h : (T i).1 ≠ (if k = 0 then 40 else 44)) : ckbR T sub (r + 1) k i = .inl (rfe T i) := by rw [ckbR, if_neg h]
theorem ckb_e {e : Nat × Nat} (h : (T i).1 = (if k = 0 then 40 else 44)) (z : sub k (i + 1) = .inl e) : ckbR T sub (r + 1) k i = .inl e := by
  rw [ckbR, if_pos h]
  simp only [z]
theorem ckb_s {j : Nat} (h : (T i).1 = (if k = 0 then 40 else 44)) (z : sub k (i + 1) = .inr j) : ckbR T sub (r + 1) k i = ckbR T sub r (k + 1) j := by
  rw [ckbR, if_pos h]
  simp only [z]
variable {bk1 : Nat → Bool} {pt1 bd1 : Bool}
theorem ckL_1 (h : (T i).1 = 33) (h1 : (T (i + 1)).1 ≠ 1) : ckL T M hb bk1 pt1 bd1 i = .inl (rfe T (i + 1)) := by unfold ckL; rw [if_pos h, if_neg h1]
theorem ckL_2 (h : (T i).1 = 33) (h1 : (T (i + 1)).1 = 1) (z : M (T (i + 1)).2.1 = none) : ckL T M hb bk1 pt1 bd1 i = .inl (4, (T (i + 1)).f) := by
  unfold ckL
  rw [if_pos h, if_pos h1]
  simp only [z]
theorem ckL_3 {y : Nat × Nat} (h : (T i).1 = 33) (h1 : (T (i + 1)).1 = 1) (z : M (T (i + 1)).2.1 = some y) (n : ¬ (y.1 = 2 ∧ hb y.2 = true)) : ckL T M hb bk1 pt1 bd1 i = .inl (4, (T (i + 1)).f) := by
  unfold ckL
  rw [if_pos h, if_pos h1]
  simp only [z]
  rw [if_neg n]
theorem ckL_4 {y : Nat × Nat} (h : (T i).1 = 33) (h1 : (T (i + 1)).1 = 1) (z : M (T (i + 1)).2.1 = some y) (n : y.1 = 2 ∧ hb y.2 = true) (b : bk1 y.2 = false) : ckL T M hb bk1 pt1 bd1 i = .inl (8, (T i).f) := by
  unfold ckL
  rw [if_pos h, if_pos h1]
  simp only [z]
  rw [if_pos n, b, if_neg (by decide)]
theorem ckL_5 {y : Nat × Nat} (h : (T i).1 = 33) (h1 : (T (i + 1)).1 = 1) (z : M (T (i + 1)).2.1 = some y) (n : y.1 = 2 ∧ hb y.2 = true) (b : bk1 y.2 = true) : ckL T M hb bk1 pt1 bd1 i = .inr (i + 2) := by
  unfold ckL
  rw [if_pos h, if_pos h1]
  simp only [z]
  rw [if_pos n, b, if_pos rfl]
theorem ckL_p (h : (T i).1 = 46) : ckL T M hb bk1 pt1 bd1 i = if pt1 = true then .inr (i + 1) else .inl (8, (T i).f) := by
  unfold ckL
  rw [if_neg (show ¬ (T i).1 = 33 by omega), if_pos h]
theorem ckL_b (h : (T i).1 = 60) : ckL T M hb bk1 pt1 bd1 i = if bd1 = true then .inr (i + 1) else .inl (8, (T i).f) := by
  unfold ckL
  rw [if_neg (show ¬ (T i).1 = 33 by omega), if_neg (show ¬ (T i).1 = 46 by omega), if_pos h]
theorem ckL_o (h : (T i).1 ≠ 33) (h2 : (T i).1 ≠ 46) (h3 : (T i).1 ≠ 60) : ckL T M hb bk1 pt1 bd1 i = .inl (rfe T i) := by
  unfold ckL
  rw [if_neg h, if_neg h2, if_neg h3]
theorem ckT_l (h : (T i).1 ≠ 1) : ckT T M hb bk pt bd sz nv m x p i = ckL T M hb (bk x p) (pt x p) (bd x p) i := by
  cases m with
  | zero => rw [ckT, if_neg h]
  | succ m => rw [ckT, if_neg h]
theorem ckT_0 (h : (T i).1 = 1) : ckT T M hb bk pt bd sz nv 0 x p i = .inl (4, (T i).f) := by rw [ckT, if_pos h]
theorem ckT_n (h : (T i).1 = 1) (z : M (T i).2.1 = none) : ckT T M hb bk pt bd sz nv m x p i = .inl (4, (T i).f) := by
  cases m with
  | zero => exact ckT_0 h
  | succ m =>
    rw [ckT, if_pos h]
    simp only [z]
theorem ckT_x {y : Nat × Nat} (h : (T i).1 = 1) (z : M (T i).2.1 = some y) (n : ¬ (y.1 = 1 ∧ tst x y.2 = false)) : ckT T M hb bk pt bd sz nv m x p i = .inl (4, (T i).f) := by
  cases m with
  | zero => exact ckT_0 h
  | succ m =>
    rw [ckT, if_pos h]
    simp only [z]
    rw [if_neg n]
theorem ckT_s {y : Nat × Nat} (h : (T i).1 = 1) (z : M (T i).2.1 = some y) (n : y.1 = 1 ∧ tst x y.2 = false) : ckT T M hb bk pt bd sz nv (m + 1) x p i = ckbR T (fun k j => ckT T M hb bk pt bd sz nv m (x ||| (1 <<< (nI y.2 &&& 31))) (mvd sz nv y.2 k p) j) (sz y.2) 0 (i + 1) := by
  rw [ckT, if_pos h]
  simp only [z]
  rw [if_pos n]
end
/-- at most m vars are not given -/
def FrN (nv : Nat) (x : Int32) (m : Nat) : Prop := ((List.range nv).filter (fun v => !tst x v)).length ≤ m
theorem frn_0 {nv v : Nat} {x : Int32} (h : FrN nv x 0) (hv : v < nv) : tst x v = true := by
  cases c : tst x v with
  | true => rfl
  | false =>
    have m : v ∈ (List.range nv).filter (fun v => !tst x v) := List.mem_filter.mpr ⟨List.mem_range.mpr hv, by rw [c]; rfl⟩
    have := List.length_pos_of_mem m
    unfold FrN at h
    omega
theorem frn_s {nv v m : Nat} {x : Int32} (h : FrN nv x (m + 1)) (hn : nv ≤ 12) (hv : v < nv) (hx : tst x v = false) : FrN nv (x ||| (1 <<< (nI v &&& 31))) m := by
  have e : (List.range nv).filter (fun u => !tst (x ||| (1 <<< (nI v &&& 31))) u) = ((List.range nv).filter (fun u => !tst x u)).filter (fun u => decide (u ≠ v)) := by
    rw [List.filter_filter]
    refine List.filter_congr (fun u hu => ?_)
    have hu := List.mem_range.mp hu
    rw [tst_or, tst_one (by omega) (by omega)]
    by_cases c : u = v
    · subst c; rw [hx]; simp
    · cases tst x u <;> simp [c]
  have lt : (((List.range nv).filter (fun u => !tst x u)).filter (fun u => decide (u ≠ v))).length < ((List.range nv).filter (fun u => !tst x u)).length := by
    refine List.length_filter_lt_length_iff_exists.mpr ⟨v, List.mem_filter.mpr ⟨List.mem_range.mpr hv, by rw [hx]; rfl⟩, ?_⟩
    simp
  unfold FrN at h ⊢
  rw [e]
  omega
theorem frn_12 {nv : Nat} {x : Int32} (h : nv ≤ 12) : FrN nv x 12 := by
  unfold FrN
  have := List.length_filter_le (fun v => !tst x v) (List.range nv)
  rw [List.length_range] at this
  omega
/-- a value more is given -/
theorem agr_mv {sz : Nat → Nat} {nv v k p : Nat} {x : Int32} (hs : ∀ v, v < nv → 0 < sz v) (hn : nv ≤ 12) (hv : v < nv) (hk : k < sz v) (hx : tst x v = false) {u : Nat} (hu : u < nv) : (tst (x ||| (1 <<< (nI v &&& 31))) u = true ↔ tst x u = true ∨ u = v) ∧ Dg sz nv u (mvd sz nv v k p) = if u = v then k else Dg sz nv u p := by
  constructor
  · rw [tst_or, tst_one (by omega) (by omega), Bool.or_eq_true, decide_eq_true_iff]
  · by_cases c : u = v
    · rw [if_pos c, c]; exact mvd_at hs hv hk
    · rw [if_neg c]; exact mvd_ne hs hv hk hu c
theorem clK_0 {c : Nat} : clK c = 0 ↔ c = 0 := by
  constructor
  · intro h
    by_cases c4 : 4 ≤ c
    · rw [clK_4.mpr c4] at h; exact absurd h (by decide)
    · have : c = 0 ∨ c = 1 ∨ c = 2 ∨ c = 3 := by omega
      rcases this with q | q | q | q
      · exact q
      · rw [q] at h; exact absurd h (by decide)
      · rw [q] at h; exact absurd h (by decide)
      · rw [q] at h; exact absurd h (by decide)
  · intro h; rw [h]; rfl
/-- cells that the class's check changes -/
def ckS (q a f j : Nat) : Prop := a = 0 ∧ (f = 2 ∧ j ≠ 5 ∨ f = 21 ∨ f = 22) ∨ a = q + 1 ∧ (f = 9 ∧ j = 13 ∨ f = 17 ∨ f = 18)
theorem ckS_0 {q f j : Nat} (h : f ≠ 2) (h1 : f ≠ 21) (h2 : f ≠ 22) : ¬ ckS q 0 f j := fun y => by
  rcases y with ⟨_, y⟩ | ⟨y, _⟩ <;> omega
theorem ckS_5 {q : Nat} : ¬ ckS q 0 2 5 := fun y => by
  rcases y with ⟨_, y⟩ | ⟨y, _⟩ <;> omega
theorem ckS_g {q f j : Nat} (h : f ≠ 9 ∨ j ≠ 13) (h1 : f ≠ 17) (h2 : f ≠ 18) : ¬ ckS q (q + 1) f j := fun y => by
  rcases y with ⟨y, _⟩ | ⟨_, y⟩ <;> omega
theorem ckS_o {q a f j : Nat} (h : a ≠ 0) (h1 : a ≠ q + 1) : ¬ ckS q a f j := fun y => by
  rcases y with ⟨y, _⟩ | ⟨y, _⟩ <;> omega
/-- what stays while the class checks -/
def CkC (V : VH) (q : Nat) (T : Nat → TK) (L : Nat) : Prop := (∃ cap c, TkN V cap ∧ vI V 0 2 5 = nI c ∧ c < cap ∧ L ≤ c) ∧ (∀ j, j ≤ L → TkR V j (T j)) ∧ (TL T L ∧ ∀ j, vcd (T j).1 = true) ∧ (vN V (q + 1) 23 = 16 ∧ vN V 0 21 = 30 ∧ vN V 0 22 = 3) ∧ vL V 0 = true
/-- token i is come to, and nothing is wrong -/
def LvC (V0 V : VH) (q : Nat) (L i : Nat) : Prop := Fc V0 V (ckS q) ∧ TkA V i ∧ i ≤ L ∧ vI V 0 2 10 = 0
/-- what becomes of it -/
def CoC (V0 : VH) (q L : Nat) (r : (Nat × Nat) ⊕ Nat) (K : Int32 → VH → Prop) : Prop := match r with
  | .inl e => ∀ V', Fc V0 V' (ckS q) → Flt V' e → K 0 V'
  | .inr j => ∀ V', LvC V0 V' q L j → K 1 V'
section
variable {E : EE} {d : Nat} {V0 V : VH} {q : Nat} {T : Nat → TK} {L i : Nat}
theorem LvC.tok (h : LvC V0 V q L i) (c : CkC V0 q T L) : vI V 0 2 6 = clK (T i).1 ∧ ((T i).1 ≠ 3 → vJ V 0 2 7 = clX (T i)) ∧ vI V 0 2 8 = nI (T i).f := by
  obtain ⟨f, ⟨t1, t2, t3, t4, t5⟩, hi, _⟩ := h
  have r := c.2.1 i hi
  have s : ∀ f, f = 3 ∨ f = 4 ∨ f = 5 → ¬ ckS q 0 f i := fun f hf => ckS_0 (by omega) (by omega) (by omega)
  exact ⟨by rw [t2, f.i (s 3 (by omega))]; exact r.1, fun z => by rw [t3, f.j (s 4 (by omega))]; exact r.2.1 z, by rw [t4, f.i (s 5 (by omega))]; exact r.2.2.1⟩
theorem LvC.key (h : LvC V0 V q L i) (c : CkC V0 q T L) (h1 : (T i).1 = 1) : vJ V 0 2 7 = (T i).2.1 := by
  rw [(h.tok c).2.1 (by omega)]
  unfold clX
  rw [if_pos h1]
theorem LvC.lt (h : LvC V0 V q L i) (c : CkC V0 q T L) (n0 : (T i).1 ≠ 0) (n3 : (T i).1 ≠ 3) : i < L := c.2.2.1.1.lt h.2.2.1 n0 n3
theorem LvC.mark (h : LvC V0 V q L i) (c0 : CkC V0 q T L) {c : Nat} {m : Int32} (hc : vcd c = true ∧ 4 ≤ c) (hm : m = nI (clM c)) : (vI V 0 2 6 = 4 ∧ vJ V 0 2 7 = Int32.toInt64 m) ↔ (T i).1 = c := by
  obtain ⟨t2, t3, _⟩ := h.tok c0
  have vc := c0.2.2.1.2 i
  have em : Int32.toInt64 m = nL (clM c) := by rw [hm]; exact i2l_nI (Nat.lt_trans (clM_lt c (vcd_lt hc.1)) (by decide))
  rw [t2, em, clK_4]
  constructor
  · rintro ⟨a, b⟩
    have b := (t3 (by omega)).symm.trans b
    rw [clX_m a] at b
    have l1 := clM_lt (T i).1 (vcd_lt vc)
    have l2 := clM_lt c (vcd_lt hc.1)
    exact clM_inj vc hc.1 a hc.2 (nL_inj (by omega) (by omega) b)
  · intro e
    have h4 : 4 ≤ (T i).1 := by omega
    exact ⟨h4, by rw [t3 (by omega), clX_m h4, e]⟩
theorem k_is {c : Nat} {m : Int32} {K : Int32 → VH → Prop} (h : LvC V0 V q L i) (c0 : CkC V0 q T L) (hc : vcd c = true ∧ 4 ≤ c) (hm : m = nI (clM c)) (hn : (T i).1 ≠ c → K 0 V) (hy : (T i).1 = c → K 1 V) : vMI E d M_X10_is [sl 0 2, wi m] V K := by
  have w := h.mark c0 hc hm
  refine c_is ?_
  by_cases z : (T i).1 = c
  · rw [if_pos (w.mpr z)]; exact hy z
  · rw [if_neg (fun y => z (w.mp y))]; exact hn z
theorem k_step {K : VH → Prop} (h : LvC V0 V q L i) (c0 : CkC V0 q T L) (n0 : (T i).1 ≠ 0) (n3 : (T i).1 ≠ 3) (hk : ∀ V', LvC V0 V' q L (i + 1) → K V') : vMV E d M_X10_step [sl 0 2] V K := by
  have lt := h.lt c0 n0 n3
  obtain ⟨⟨cap, c, a1, a2, a3, a4⟩, _⟩ := c0
  obtain ⟨f, ta, li, z⟩ := h
  refine c_step (k := i) (cnt := c) (a1.fc f) (by rw [f.i ckS_5]; exact a2) a3 ta.1 (by omega) (fun V' f' ta' => hk V' ⟨f.trans (f'.mono (fun a f j y => Or.inl ⟨y.1, Or.inl ⟨y.2.1, by have := y.2.2; omega⟩⟩)), ?_, by omega, by rw [f'.i (fun y => by have := y.2.2; omega)]; exact z⟩)
  rw [show min (i + 1) c = i + 1 by omega] at ta'
  exact ta'
theorem ftS_ck {a f j : Nat} (y : ftS a f j) : ckS q a f j := Or.inl ⟨y.1, Or.inl ⟨y.2.1, by have := y.2.2; omega⟩⟩
theorem k_refuse {K : Int32 → VH → Prop} (h : LvC V0 V q L i) (c0 : CkC V0 q T L) (hk : ∀ V', Fc V0 V' (ckS q) → Flt V' (rfe T i) → K 0 V') : vMI E d M_X10_refuse [sl 0 2] V K := by
  obtain ⟨t2, _, t4⟩ := h.tok c0
  refine c_refuse (fun V' f a b => hk V' (h.1.trans (f.mono (fun a f j y => ftS_ck y))) ⟨?_, by rw [b]; exact t4⟩)
  rw [a]
  unfold rfe
  by_cases c : (T i).1 = 3
  · rw [if_pos (by rw [t2]; exact clK_1.mpr c), if_pos c]; rfl
  · rw [if_neg (by rw [t2]; exact fun z => c (clK_1.mp z)), if_neg c]; rfl
theorem k_fail {c p : Nat} {x y : Int32} {K : Int32 → VH → Prop} (h : Fc V0 V (ckS q)) (hx : x = nI c) (hy : y = nI p) (hk : ∀ V', Fc V0 V' (ckS q) → Flt V' (c, p) → K 0 V') : vMI E d M_X10_fail [sl 0 2, wi x, wi y] V K :=
  c_fail (fun V' f a b => hk V' (h.trans (f.mono (fun a f j y => ftS_ck y))) ⟨a.trans hx, b.trans hy⟩)
theorem k_accept {c : Nat} {m : Int32} {K : Int32 → VH → Prop} (h0 : 0 < d) (h : LvC V0 V q L i) (c0 : CkC V0 q T L) (hc : vcd c = true ∧ 4 ≤ c) (hm : m = nI (clM c)) (hn : (T i).1 ≠ c → ∀ V', Fc V0 V' (ckS q) → Flt V' (rfe T i) → K 0 V') (hy : (T i).1 = c → ∀ V', LvC V0 V' q L (i + 1) → K 1 V') : vMI E d M_X10_accept [sl 0 2, wi m] V K := by
  have w := h.mark c0 hc hm
  have no : (T i).1 ≠ c → vwp E d M_X10_accept 18 [some (sl 0 2), some (wi m)] [] V (zi K) := fun z => w_X10_accept_18 h0 (k_refuse h c0 (fun V' a b => ⟨Or.inl rfl, hn z V' a b⟩))
  refine w_X10_accept_0 h0 ⟨fun z => no (fun y => z (w.mpr y).1), fun z => ⟨fun z2 => ?_, fun z2 => no (fun y => z2 (w.mpr y).2)⟩⟩
  have e := w.mp ⟨z, z2⟩
  exact k_step h c0 (by omega) (by omega) (hy e)
end
