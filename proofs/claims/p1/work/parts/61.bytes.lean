/-! frames; rows of bytes -/
/-- all but the rows of S are as they were -/
def Fr (V V' : VH) (S : Nat → Nat → Prop) : Prop := vL V' = vL V ∧ vP V' = vP V ∧ vQ V' = vQ V ∧ ∀ a f, ¬ S a f → vN V' a f = vN V a f ∧ vI V' a f = vI V a f ∧ vJ V' a f = vJ V a f
theorem Fr.refl {V : VH} {S : Nat → Nat → Prop} : Fr V V S := ⟨rfl, rfl, rfl, fun _ _ _ => ⟨rfl, rfl, rfl⟩⟩
theorem Fr.trans {V V' V2 : VH} {S : Nat → Nat → Prop} (h : Fr V V' S) (k : Fr V' V2 S) : Fr V V2 S := ⟨k.1.trans h.1, k.2.1.trans h.2.1, k.2.2.1.trans h.2.2.1, fun a f q => ⟨(k.2.2.2 a f q).1.trans (h.2.2.2 a f q).1, (k.2.2.2 a f q).2.1.trans (h.2.2.2 a f q).2.1, (k.2.2.2 a f q).2.2.trans (h.2.2.2 a f q).2.2⟩⟩
theorem Fr.mono {V V' : VH} {S S' : Nat → Nat → Prop} (h : Fr V V' S) (k : ∀ a f, S a f → S' a f) : Fr V V' S' := ⟨h.1, h.2.1, h.2.2.1, fun a f q => h.2.2.2 a f (fun z => q (k a f z))⟩
theorem Fr.n {V V' : VH} {S : Nat → Nat → Prop} (h : Fr V V' S) {a f : Nat} (q : ¬ S a f) : vN V' a f = vN V a f := (h.2.2.2 a f q).1
theorem Fr.i {V V' : VH} {S : Nat → Nat → Prop} (h : Fr V V' S) {a f : Nat} (q : ¬ S a f) : vI V' a f = vI V a f := (h.2.2.2 a f q).2.1
theorem Fr.j {V V' : VH} {S : Nat → Nat → Prop} (h : Fr V V' S) {a f : Nat} (q : ¬ S a f) : vJ V' a f = vJ V a f := (h.2.2.2 a f q).2.2
section
variable {V : VH} {g f k : Nat} {S : Nat → Nat → Prop}
theorem Fr_wrI {v : Int32} (h : S g f) : Fr V (wrI V g f k v) S := ⟨rfl, rfl, rfl, fun a b q => ⟨rfl, funext fun j => if_neg (fun z => q (by rw [z.1, z.2.1]; exact h)), rfl⟩⟩
theorem Fr_wrJ {v : Int64} (h : S g f) : Fr V (wrJ V g f k v) S := ⟨rfl, rfl, rfl, fun a b q => ⟨rfl, rfl, funext fun j => if_neg (fun z => q (by rw [z.1, z.2.1]; exact h))⟩⟩
theorem Fr_gro {n : Nat} {cI : Nat → Int32} {cJ : Nat → Int64} (h : S g f) : Fr V (gro V g f n cI cJ) S := ⟨rfl, rfl, rfl, fun a b q => ⟨if_neg (fun z => q (by rw [z.1, z.2]; exact h)), if_neg (fun z => q (by rw [z.1, z.2]; exact h)), if_neg (fun z => q (by rw [z.1, z.2]; exact h))⟩⟩
theorem Fr_cpyI {a b sp dp n : Nat} (h : S g f) : Fr V (cpyI V a b g f sp dp n) S := ⟨rfl, rfl, rfl, fun a b q => ⟨rfl, if_neg (fun z => q (by rw [z.1, z.2]; exact h)), rfl⟩⟩
theorem wrI_at {v : Int32} : vI (wrI V g f k v) g f k = v := if_pos ⟨rfl, rfl, rfl⟩
theorem wrI_ne {v : Int32} {a b j : Nat} (h : ¬ (a = g ∧ b = f ∧ j = k)) : vI (wrI V g f k v) a b j = vI V a b j := if_neg h
theorem wrJ_at {v : Int64} : vJ (wrJ V g f k v) g f k = v := if_pos ⟨rfl, rfl, rfl⟩
theorem wrJ_ne {v : Int64} {a b j : Nat} (h : ¬ (a = g ∧ b = f ∧ j = k)) : vJ (wrJ V g f k v) a b j = vJ V a b j := if_neg h
end
/-- a row of n bytes of the class -/
def Byt (V : VH) (b c n : Nat) : Prop := BS (vL V) b c ∧ vI V b c 1 = nI n ∧ n ≤ vN V b (c + 1) ∧ 64 ≤ vN V b (c + 1) ∧ vN V b (c + 1) ≤ 60000
theorem Byt.fr {V V' : VH} {b c n : Nat} {S : Nat → Nat → Prop} (h : Byt V b c n) (k : Fr V V' S) (q : ¬ S b c) (q2 : ¬ S b (c + 1)) : Byt V' b c n := ⟨by rw [k.1]; exact h.1, by rw [k.i q]; exact h.2.1, by rw [k.n q2]; exact h.2.2.1, by rw [k.n q2]; exact h.2.2.2.1, by rw [k.n q2]; exact h.2.2.2.2⟩
/-- the rows of a row of bytes -/
def bR (b c : Nat) : Nat → Nat → Prop := fun a f => a = b ∧ (f = c ∨ f = c + 1)
/-- V' is V, but that the bytes at (b, c) are now n, the first m of them as they were -/
def Bex (V V' : VH) (b c m n : Nat) : Prop := Fr V V' (bR b c) ∧ Byt V' b c n ∧ (∀ j, j < m → vI V' b (c + 1) j = vI V b (c + 1) j)
section
variable {E : EE} {d : Nat} {V : VH} {b c n : Nat}
theorem c_at_in {j : Nat} {K : Int32 → VH → Prop} (h : Byt V b c n) (hj : j < n) (hk : K (vI V b (c + 1) j &&& 255) V) : vMI E d M_X0_at [sl b c, wi (nI j)] V K := by
  obtain ⟨hB, e, h1, h2, h3⟩ := h
  refine w_X0_at_0 hB ⟨fun q => absurd q (nI_pos (by omega)), fun _ => ⟨fun q => ?_, fun _ => ⟨fun q => ?_, fun _ => ⟨vp_in_nI (by omega) (by omega), ?_⟩⟩⟩⟩
  · rw [e] at q; exact absurd ((nI_leI (by omega) (by omega)).mp q) (by omega)
  · exact absurd ((nI_leI (by omega) (by omega)).mp q) (by omega)
  · rw [nI_clamp (by omega)]; exact hk
theorem c_at_out {i : Int32} {K : Int32 → VH → Prop} (h : Byt V b c n) (hi : ∀ j, j < n → i ≠ nI j) (hk : K (-1) V) : vMI E d M_X0_at [sl b c, wi i] V K := by
  obtain ⟨hB, e, h1, h2, h3⟩ := h
  refine w_X0_at_0 hB ⟨fun _ => hk, fun h0 => ⟨fun _ => hk, fun q => ?_⟩⟩
  obtain ⟨j, hj, rfl⟩ := nI_of h0
  rw [e] at q
  have : ¬ n ≤ j := mt (nI_leI (by omega) hj).mpr q
  exact absurd rfl (hi j (by omega))
theorem c_keep {m : Nat} {K : VH → Prop} (h : Byt V b c n) (hm : m ≤ n) (hk : ∀ V', Fr V V' (fun a f => a = b ∧ f = c) → Byt V' b c m → K V') : vMV E d M_X0_keep [sl b c, wi (nI m)] V K := by
  obtain ⟨hB, e, h1, h2, h3⟩ := id h
  refine w_X0_keep_0 hB ⟨fun q => absurd q (nI_pos (by omega)), fun _ => ⟨fun q => ?_, fun q V1 e1 => ?_⟩⟩
  · rw [e] at q
    have := (nI_leI (by omega) (by omega)).mp q
    have : m = n := by omega
    subst this
    exact hk V Fr.refl h
  · subst e1
    refine hk _ (Fr_wrI ⟨rfl, rfl⟩) ⟨hB, wrI_at, by show m ≤ vN V b (c + 1); omega, h2, h3⟩
theorem grI_lt {g f m : Nat} (j : Nat) (h : j < vN V g f) : vI (grI V g f m) g f j = vI V g f j := by
  show (if g = g ∧ f = f then va_cpy (vI V g f) (fun _ => 0) 0 0 (vN V g f) else vI V g f) j = _
  rw [if_pos ⟨rfl, rfl⟩, pk_cpy_in (Nat.zero_le _) (by omega)]
  congr 1; omega
theorem grN_at {g f m : Nat} : vN (grI V g f m) g f = m := if_pos ⟨rfl, rfl⟩
theorem grI_ne {g f m a b' : Nat} (h : ¬ (a = g ∧ b' = f)) : vI (grI V g f m) a b' = vI V a b' := if_neg h
theorem c_makeRoom {m : Nat} {K : VH → Prop} (h0 : 1 < d) (h : Byt V b c n) (hm : m ≤ 30000) (hk : ∀ V', Bex V V' b c n n → m ≤ vN V' b (c + 1) → K V') : vMV E d M_X0_makeRoom [sl b c, wi (nI m)] V K := by
  obtain ⟨hB, e, h1, h2, h3⟩ := id h
  refine w_X0_makeRoom h0 hB h2 (by omega) (by omega) (fun q => ?_) (fun q => ?_)
  · exact hk V ⟨Fr.refl, h, fun _ _ => rfl⟩ q
  · have eN : vN (grI V b (c + 1) (max m (2 * vN V b (c + 1)))) b (c + 1) = max m (2 * vN V b (c + 1)) := grN_at
    refine hk _ ⟨Fr_gro ⟨rfl, Or.inr rfl⟩, ⟨hB, ?_, by rw [eN]; omega, by rw [eN]; omega, by rw [eN]; omega⟩, fun j hj => grI_lt j (by omega)⟩ (by rw [eN]; omega)
    rw [grI_ne (fun z => by omega)]; exact e
theorem c_add {x : Int32} {K : VH → Prop} (h0 : 2 < d) (h : Byt V b c n) (hn : n < 30000) (hk : ∀ V', Bex V V' b c n (n + 1) → vI V' b (c + 1) n = i2b (i2b x) → K V') : vMV E d M_X0_add [sl b c, wi x] V K := by
  obtain ⟨hB, e, h1, h2, h3⟩ := id h
  refine w_X0_add_0 hB (by omega) ?_
  rw [e, nI_1]
  refine c_makeRoom (by omega) h (by omega) (fun V1 q1 q2 => ?_)
  obtain ⟨f1, ⟨hB1, e1, k1, k2, k3⟩, r1⟩ := id q1
  refine ⟨fun q => ?_, fun q V4 e4 => ?_⟩
  · rw [e1] at q; exact absurd ((nI_leI (by omega) (by omega)).mp q) (by omega)
  · rw [e1, nI_1] at e4
    rw [e1]
    subst e4
    refine ⟨vp_in_nI (by show n < vN V1 b (c + 1); omega) (by show vN V1 b (c + 1) < _; omega), fun V6 e6 => ?_⟩
    rw [nI_clamp (by omega)] at e6
    subst e6
    refine hk _ ⟨(f1.trans (Fr_wrI ⟨rfl, Or.inl rfl⟩)).trans (Fr_wrI ⟨rfl, Or.inr rfl⟩), ⟨hB1, ?_, ?_, k2, k3⟩, fun j hj => ?_⟩ wrI_at
    · rw [wrI_ne (fun z => by omega)]; exact wrI_at
    · show n + 1 ≤ vN V1 b (c + 1); omega
    · rw [wrI_ne (fun z => by omega), wrI_ne (fun z => by omega)]; exact r1 j hj
/-- byte k of w, as a row holds it -/
def bof (w : Int64) (k : Nat) : Int32 := i2b (i2b (Int64.toInt32 (lushr w (8 * nI k))))
theorem c_addNumber_go {w : Int64} {m : Int32} {K : VH → Prop} (h0 : 3 < d) : ∀ (k n : Nat) (V : VH), Byt V b c n → k ≤ 8 → n + k ≤ 30000 → (∀ V', Bex V V' b c n (n + k) → (∀ j, j < k → vI V' b (c + 1) (n + j) = bof w (k - 1 - j)) → K V') → vwp E d M_X0_addNumber 5 [some (sl b c), some (wj w), none, some (wi m), some (wi (nI k - 1))] [] V (zv K) := by
  intro k
  induction k with
  | zero =>
    intro n V h _ _ hk
    exact w_X0_addNumber_5 h.1 (by omega) ⟨fun _ => hk V ⟨Fr.refl, h, fun _ _ => rfl⟩ (fun j hj => absurd hj (Nat.not_lt_zero j)), fun q => absurd (by decide) q⟩
  | succ k ih =>
    intro n V h h8 hn hk
    rw [show nI (k + 1) - 1 = nI k from nI_pred k]
    refine w_X0_addNumber_5 h.1 (by omega) ⟨fun q => absurd q (nI_pos (by omega)), fun _ => ?_⟩
    refine c_add (by omega) h (by omega) (fun V1 q1 r1 => ?_)
    rw [show nI k + (-1) = nI k - 1 from (Int32.sub_eq_add_neg _ _).symm]
    refine ih (n + 1) V1 q1.2.1 (by omega) (by omega) (fun V2 q2 r2 => ?_)
    refine hk V2 ⟨q1.1.trans q2.1, by rw [show n + (k + 1) = n + 1 + k from by omega]; exact q2.2.1, fun j hj => (q2.2.2 j (by omega)).trans (q1.2.2 j hj)⟩ (fun j hj => ?_)
    by_cases c0 : j = 0
    · subst c0
      show vI V2 b (c + 1) n = bof w k
      rw [q2.2.2 n (by omega), r1]
      rfl
    · have := r2 (j - 1) (by omega)
      rw [show n + 1 + (j - 1) = n + j from by omega] at this
      rw [this]
      congr 1; omega
theorem c_addNumber {w : Int64} {k : Nat} {K : VH → Prop} (h0 : 3 < d) (h : Byt V b c n) (h8 : k ≤ 8) (hn : n + k ≤ 30000) (hk : ∀ V', Bex V V' b c n (n + k) → (∀ j, j < k → vI V' b (c + 1) (n + j) = bof w (k - 1 - j)) → K V') : vMV E d M_X0_addNumber [sl b c, wj w, wi (nI k)] V K :=
  w_X0_addNumber_0 h.1 (c_addNumber_go h0 k n V h h8 hn hk)
theorem c_addAll {b1 c1 n1 s m : Nat} {K : VH → Prop} (h0 : 2 < d) (h : Byt V b c n) (h1 : Byt V b1 c1 n1) (hne : ¬ (b1 = b ∧ c1 = c)) (hs : s + m ≤ n1) (hn : n + m ≤ 30000) (hk : ∀ V', Bex V V' b c n (n + m) → (∀ j, j < m → vI V' b (c + 1) (n + j) = vI V b1 (c1 + 1) (s + j)) → K V') : vMV E d M_X0_addAll [sl b c, sl b1 c1, wi (nI s), wi (nI m)] V K := by
  obtain ⟨hB, e, h2, h3, h4⟩ := id h
  obtain ⟨hB1, e1, k2, k3, k4⟩ := id h1
  have hr : ¬ bR b c b1 c1 := fun z => by
    obtain ⟨_, ⟨z1, z2⟩ | ⟨z1, z2, z3⟩⟩ := hB1 <;> obtain ⟨_, ⟨w1, w2⟩ | ⟨w1, w2, w3⟩⟩ := hB <;> obtain ⟨y1, y2⟩ := z <;> omega
  have hr2 : ¬ bR b c b1 (c1 + 1) := fun z => by
    obtain ⟨_, ⟨z1, z2⟩ | ⟨z1, z2, z3⟩⟩ := hB1 <;> obtain ⟨_, ⟨w1, w2⟩ | ⟨w1, w2, w3⟩⟩ := hB <;> obtain ⟨y1, y2⟩ := z <;> omega
  have es : nI n1 - nI m = nI (n1 - m) := by
    rw [show n1 = (n1 - m) + m from by omega, ← nI_add, Int32.add_sub_cancel, Nat.add_sub_cancel]
  refine w_X0_addAll_0 hB hB1 (by omega) ⟨fun q => absurd q (nI_pos (by omega)), fun _ => ⟨fun q => absurd q (nI_pos (by omega)), fun _ => ⟨fun _ => ?_, fun q => absurd ?_ q⟩⟩⟩
  · rw [e, nI_add]
    refine c_makeRoom (by omega) h (by omega) (fun V1 q1 q2 => ?_)
    obtain ⟨f1, ⟨hB2, e2, j1, j2, j3⟩, r1⟩ := id q1
    rw [e2, nI_clamp (show s < 2 ^ 31 by omega), nI_clamp (show m < 2 ^ 31 by omega), nI_clamp (show n < 2 ^ 31 by omega), f1.n hr2]
    refine ⟨nI_pos (by omega), nI_pos (by omega), nI_pos (by omega), by omega, by omega, fun V11 e11 V12 e12 => ?_⟩
    subst e11
    have e5 : vI (cpyI V1 b1 (c1 + 1) b (c + 1) s n m) b c 1 = nI n := (congrFun (if_neg (fun z => by omega)) 1).trans e2
    rw [e5, nI_add] at e12
    subst e12
    refine hk _ ⟨(f1.trans (Fr_cpyI ⟨rfl, Or.inr rfl⟩)).trans (Fr_wrI ⟨rfl, Or.inl rfl⟩), ⟨hB2, wrI_at, ?_, j2, j3⟩, fun j hj => ?_⟩ (fun j hj => ?_)
    · show n + m ≤ vN V1 b (c + 1); omega
    · rw [wrI_ne (fun z => by omega)]
      show (if b = b ∧ c + 1 = c + 1 then va_cpy (vI V1 b1 (c1 + 1)) (vI V1 b (c + 1)) s n m else vI V1 b (c + 1)) j = _
      rw [if_pos ⟨rfl, rfl⟩, pk_cpy_out (by omega)]
      exact r1 j hj
    · rw [wrI_ne (fun z => by omega)]
      show (if b = b ∧ c + 1 = c + 1 then va_cpy (vI V1 b1 (c1 + 1)) (vI V1 b (c + 1)) s n m else vI V1 b (c + 1)) (n + j) = _
      rw [if_pos ⟨rfl, rfl⟩, pk_cpy_in (by omega) (by omega), f1.i hr2, Nat.add_sub_cancel_left]
  · rw [e1, es]; exact nI_le (by omega) (by omega)
theorem c_become {b1 c1 n1 s m : Nat} {K : VH → Prop} (h0 : 3 < d) (h : Byt V b c n) (h1 : Byt V b1 c1 n1) (hne : ¬ (b1 = b ∧ c1 = c)) (hs : s + m ≤ n1) (hn : m ≤ 30000) (hk : ∀ V', Bex V V' b c 0 m → (∀ j, j < m → vI V' b (c + 1) j = vI V b1 (c1 + 1) (s + j)) → K V') : vMV E d M_X0_become [sl b c, sl b1 c1, wi (nI s), wi (nI m)] V K := by
  obtain ⟨hB, e, h2, h3, h4⟩ := id h
  refine w_X0_become_0 hB h1.1 (by omega) (fun V1 e1 => ?_)
  have f1 : Fr V V1 (bR b c) := by subst e1; exact Fr_wrI ⟨rfl, Or.inl rfl⟩
  have hr : ¬ bR b c b1 c1 := fun z => by
    obtain ⟨_, ⟨z1, z2⟩ | ⟨z1, z2, z3⟩⟩ := h1.1 <;> obtain ⟨_, ⟨w1, w2⟩ | ⟨w1, w2, w3⟩⟩ := hB <;> obtain ⟨y1, y2⟩ := z <;> omega
  have hr2 : ¬ bR b c b1 (c1 + 1) := fun z => by
    obtain ⟨_, ⟨z1, z2⟩ | ⟨z1, z2, z3⟩⟩ := h1.1 <;> obtain ⟨_, ⟨w1, w2⟩ | ⟨w1, w2, w3⟩⟩ := hB <;> obtain ⟨y1, y2⟩ := z <;> omega
  have y1 : Byt V1 b c 0 := by subst e1; exact ⟨hB, wrI_at, Nat.zero_le _, h3, h4⟩
  refine c_addAll (by omega) y1 (h1.fr f1 hr hr2) hne hs (by omega) (fun V2 q2 r2 => ?_)
  rw [Nat.zero_add] at q2
  refine hk V2 ⟨f1.trans q2.1, q2.2.1, fun j hj => absurd hj (Nat.not_lt_zero j)⟩ (fun j hj => ?_)
  have := r2 j hj
  rw [Nat.zero_add] at this
  rw [this, f1.i hr2]
/-- THE SUM of bytes lo .. lo + n - 1 of a row, from s on; what n of them say -/
def mixS (s : Int64) (x : Int32) : Int64 := (((s ^^^ (Int32.toInt64 (x &&& 255))) <<< (Int32.toInt64 53 &&& 63)) ||| (lushr (s ^^^ (Int32.toInt64 (x &&& 255))) 11)) * (-4417276706812531889)
def sumS (t : Nat → Int32) (lo n : Nat) (s : Int64) : Int64 := (List.range' lo n).foldl (fun s i => mixS s (t i)) s
theorem mix_def (s : Int64) (x : Int32) : (((s ^^^ (Int32.toInt64 (x &&& 255))) <<< (Int32.toInt64 53 &&& 63)) ||| (lushr (s ^^^ (Int32.toInt64 (x &&& 255))) 11)) * (-4417276706812531889) = mixS s x := by unfold mixS; rfl
theorem sumS_zero {t : Nat → Int32} {lo : Nat} {s : Int64} : sumS t lo 0 s = s := by unfold sumS; rw [List.range'_zero, List.foldl_nil]
theorem sumS_succ {t : Nat → Int32} {lo n : Nat} {s : Int64} : sumS t lo (n + 1) s = sumS t (lo + 1) n (mixS s (t lo)) := by unfold sumS; rw [List.range'_succ, List.foldl_cons]
theorem and255 (x : Int32) : (x &&& 255) &&& 255 = x &&& 255 := by
  rw [Int32.and_assoc]; rfl
theorem c_sum_go {x1 : Int32} {hi : Nat} {K : Int64 → VH → Prop} (h0 : 1 < d) (h : Byt V b c n) (hh : hi ≤ n) : ∀ (k lo : Nat) (s : Int64), lo + k = hi → K (sumS (vI V b (c + 1)) lo k s) V → vwp E d M_X0_sum 5 [some (sl b c), some (wi x1), some (wi (nI hi)), some (wj s), none, some (wi (nI lo))] [] V (zj K) := by
  have hn : n ≤ 60000 := by obtain ⟨_, _, h1, _, h3⟩ := h; omega
  intro k
  induction k with
  | zero =>
    intro lo s e hk
    rw [sumS_zero] at hk
    exact w_X0_sum_5 h.1 (by omega) ⟨fun _ => hk, fun q => absurd (nI_le (by omega) (by omega)) q⟩
  | succ k ih =>
    intro lo s e hk
    refine w_X0_sum_5 h.1 (by omega) ⟨fun q => absurd ((nI_leI (by omega) (by omega)).mp q) (by omega), fun _ => c_at_in h (by omega) ?_⟩
    rw [and255, nI_1, mix_def]
    rw [sumS_succ] at hk
    exact ih (lo + 1) (mixS s (vI V b (c + 1) lo)) (by omega) hk
theorem c_sum {lo hi : Nat} {K : Int64 → VH → Prop} (h0 : 1 < d) (h : Byt V b c n) (hh : hi ≤ n) (hl : lo ≤ hi) (hk : K (sumS (vI V b (c + 1)) lo (hi - lo) 0) V) : vMJ E d M_X0_sum [sl b c, wi (nI lo), wi (nI hi)] V K :=
  w_X0_sum_0 h.1 (c_sum_go h0 h hh (hi - lo) lo 0 (by omega) hk)
end
