/-! rows that grow: what becomes of the view -/
theorem sumN_congr {n : Nat} {F F' : Nat → Nat} (h : ∀ i, i < n → F i = F' i) : sumN n F = sumN n F' := by
  induction n with
  | zero => rfl
  | succ n ih => show sumN n F + F n = sumN n F' + F' n; rw [ih (fun i hi => h i (Nat.lt_succ_of_lt hi)), h n (Nat.lt_succ_self n)]
theorem sumN_upd {n k : Nat} {F F' : Nat → Nat} (hk : k < n) (h : ∀ i, i < n → i ≠ k → F i = F' i) : sumN n F' + F k = sumN n F + F' k := by
  induction n with
  | zero => exact absurd hk (Nat.not_lt_zero k)
  | succ n ih =>
    show sumN n F' + F' n + F k = sumN n F + F n + F' k
    by_cases c : k = n
    · subst c
      have e : sumN k F = sumN k F' := sumN_congr (fun i hi => h i (Nat.lt_succ_of_lt hi) (Nat.ne_of_lt hi))
      omega
    · have e := ih (by omega) (fun i hi hne => h i (Nat.lt_succ_of_lt hi) hne)
      have e2 := h n (Nat.lt_succ_self n) (fun q => c q.symm)
      omega
/-- row (g, f) is a new one of n entries -/
def gro (V : VH) (g f n : Nat) (cI : Nat → Int32) (cJ : Nat → Int64) : VH := ((vT V + 1, vU V + n), V.2.1, V.2.2.1, fun a b => if a = g ∧ b = f then n else vN V a b, r2 (vI V) g f cI, r2 (vJ V) g f cJ)
theorem rs_gro {V : VH} {g f n : Nat} {cI : Nat → Int32} {cJ : Nat → Int64} {w : Nat → Nat → Nat → Nat} (hg : g < 6) (hf : f < nf g) (hl : vL V g = true) : rs w (gro V g f n cI cJ) + w g f (vN V g f) = rs w V + w g f n := by
  have e := sumN_upd (n := 6) (k := g) (F := fun g => if vL V g = true then sumN (nf g) (fun f => w g f (vN V g f)) else 0) (F' := fun a => if vL (gro V g f n cI cJ) a = true then sumN (nf a) (fun b => w a b (vN (gro V g f n cI cJ) a b)) else 0) hg (fun i _ hne => by
    show (if vL V i = true then sumN (nf i) (fun f => w i f (vN V i f)) else 0) = if vL V i = true then sumN (nf i) (fun b => w i b (if i = g ∧ b = f then n else vN V i b)) else 0
    have : ∀ b, (if i = g ∧ b = f then n else vN V i b) = vN V i b := fun b => if_neg (fun q => hne q.1)
    simp only [this])
  have e1 : (if vL V g = true then sumN (nf g) (fun f => w g f (vN V g f)) else 0) = sumN (nf g) (fun f => w g f (vN V g f)) := if_pos hl
  have e2 : (if vL (gro V g f n cI cJ) g = true then sumN (nf g) (fun b => w g b (vN (gro V g f n cI cJ) g b)) else 0) = sumN (nf g) (fun b => w g b (vN (gro V g f n cI cJ) g b)) := if_pos hl
  have e3 := sumN_upd (n := nf g) (k := f) (F := fun b => w g b (vN V g b)) (F' := fun b => w g b (vN (gro V g f n cI cJ) g b)) hf (fun i _ hne => by
    show w g i (vN V g i) = w g i (if g = g ∧ i = f then n else vN V g i)
    rw [if_neg (fun q => hne q.2)])
  have e4 : vN (gro V g f n cI cJ) g f = n := if_pos ⟨rfl, rfl⟩
  simp only [e4] at e3
  unfold rs
  simp only [e1, e2] at e
  omega
theorem Xl_gro {V : VH} {g f n : Nat} {cI : Nat → Int32} {cJ : Nat → Int64} (hg : g < 6) (hf : f < nf g) (hl : vL V g = true) (h0 : vN V g f ≤ n) (h1 : w64 g f (vN V g f) + 64 ≤ w64 g f n) (h2 : w2 g f (vN V g f) + n ≤ w2 g f n) : Xl V (gro V g f n cI cJ) := by
  refine ⟨fun _ q => q, fun a b _ => ?_, ?_, ?_⟩
  · show vN V a b ≤ if a = g ∧ b = f then n else vN V a b
    split
    · rename_i q; rw [q.1, q.2]; exact h0
    · exact Nat.le_refl _
  · have e := rs_gro (V := V) (n := n) (cI := cI) (cJ := cJ) (w := w2) hg hf hl
    show vU V + n + rs w2 V ≤ vU V + rs w2 (gro V g f n cI cJ)
    omega
  · have e := rs_gro (V := V) (n := n) (cI := cI) (cJ := cJ) (w := w64) hg hf hl
    show 64 * (vT V + 1) + rs w64 V ≤ 64 * vT V + rs w64 (gro V g f n cI cJ)
    omega
theorem w_plain {g f m n : Nat} (hp : ¬ (g ≠ 0 ∧ (f = 20 ∨ f = 21 ∨ f = 22))) (h1 : m + 32 ≤ n) (h2 : 2 * m ≤ n) : w64 g f m + 64 ≤ w64 g f n ∧ w2 g f m + n ≤ w2 g f n := by
  have q1 : ¬ (g ≠ 0 ∧ (f = 20 ∨ f = 22)) := fun q => hp ⟨q.1, by omega⟩
  have q2 : ¬ (g ≠ 0 ∧ f = 21) := fun q => hp ⟨q.1, by omega⟩
  unfold w64 w2
  rw [if_neg hp, if_neg hp, if_neg q1, if_neg q1, if_neg q2, if_neg q2]
  omega
/-- a new row for (g, f), whose owner (g, o) has it in field k -/
theorem Sh_gro {E : EE} {G G1 : AH} {A : Nat → Nat → Nat} {L : Nat → Bool} {P : Nat × Nat} {g f o k n c : Nat} {cI : Nat → Int32} {cJ : Nat → Int64} (h : Sh E G A L P) (hl : L g = true) (hf : f < nf g) (ho : o < nf g) (hc : kd g f = c)
    (hk : ∀ q ∈ LK g, q.1 ≠ f ∧ (q.2.2 = f ↔ q.1 = o ∧ q.2.1 = k)) (hn : ∀ q ∈ LN g, q.1 ≠ f)
    (hs : ¬ (g = 0 ∧ (o = 9 ∨ o = 28 ∧ k = 8 ∨ o = 7 ∧ (k = 1 ∨ k = 2)))) (hz : f ≠ 0 ∧ f ≠ 9 ∧ f ≠ 28 ∧ f ≠ 7)
    (eT : gT G1 = gT G + 1) (eU : gU G1 = gU G + n) (eK : ∀ a, gK G1 a = if a = gT G then c else gK G a) (eN : ∀ a, gN G1 a = if a = gT G then n else gN G a)
    (eI : ∀ a, gI G1 a = if a = gT G then cI else gI G a) (eJ : ∀ a, gJ G1 a = if a = gT G then cJ else gJ G a)
    (eR : ∀ a j, a ≠ gT G → gR G1 a j = if a = A g o ∧ j = k then gT G else gR G a j) (hok : ∀ j, okT (tyk c j) (cI j)) (hlt : gN G (A g f) < n)
    (hx : Xl (pl G A L P) (gro (pl G A L P) g f n cI cJ)) :
    ∃ A' : Nat → Nat → Nat, Sh E G1 A' L P ∧ pl G1 A' L P = gro (pl G A L P) g f n cI cJ ∧ Xt (pl G A L P) A (pl G1 A' L P) A' ∧ ∀ a b, ¬ (a = g ∧ b = f) → A' a b = A a b := by
  obtain ⟨h1, h2, h3, h4, h5, h6, h7, h8, h9⟩ := id h
  have hne : ∀ a b, A a b ≠ gT G := fun a b q => by
    by_cases w : L a = true ∧ b < nf a
    · have := (h2 a b w.1 w.2).2.1; omega
    · have := h4 a b w; have := h9.1; have := h9.2; omega
  have hA : ∀ a b, ¬ (a = g ∧ b = f) → (if a = g ∧ b = f then gT G else A a b) = A a b := fun a b q => if_neg q
  have hA1 : (if g = g ∧ f = f then gT G else A g f) = gT G := if_pos ⟨rfl, rfl⟩
  have kN : ∀ a b, gN G1 (A a b) = gN G (A a b) := fun a b => by rw [eN, if_neg (hne a b)]
  have kI : ∀ a b, gI G1 (A a b) = gI G (A a b) := fun a b => by rw [eI, if_neg (hne a b)]
  have kJ : ∀ a b, gJ G1 (A a b) = gJ G (A a b) := fun a b => by rw [eJ, if_neg (hne a b)]
  have kR : ∀ a b j, ¬ (a = g ∧ b = o ∧ j = k) → gR G1 (A a b) j = gR G (A a b) j := fun a b j q => by
    rw [eR _ _ (hne a b), if_neg (fun z => q ⟨(h.inj hl ho z.1).1, (h.inj hl ho z.1).2, z.2⟩)]
  have hp : pl G1 (fun a b => if a = g ∧ b = f then gT G else A a b) L P = gro (pl G A L P) g f n cI cJ := by
    refine Prod.ext (Prod.ext eT eU) (Prod.ext rfl (Prod.ext rfl (Prod.ext (funext fun a => funext fun b => ?_) (Prod.ext (funext fun a => funext fun b => ?_) (funext fun a => funext fun b => ?_)))))
    · show gN G1 (if a = g ∧ b = f then gT G else A a b) = if a = g ∧ b = f then n else gN G (A a b)
      by_cases q : a = g ∧ b = f
      · rw [if_pos q, if_pos q, eN, if_pos rfl]
      · rw [if_neg q, if_neg q, kN]
    · show gI G1 (if a = g ∧ b = f then gT G else A a b) = if a = g ∧ b = f then cI else gI G (A a b)
      by_cases q : a = g ∧ b = f
      · rw [if_pos q, if_pos q, eI, if_pos rfl]
      · rw [if_neg q, if_neg q, kI]
    · show gJ G1 (if a = g ∧ b = f then gT G else A a b) = if a = g ∧ b = f then cJ else gJ G (A a b)
      by_cases q : a = g ∧ b = f
      · rw [if_pos q, if_pos q, eJ, if_pos rfl]
      · rw [if_neg q, if_neg q, kJ]
  refine ⟨fun a b => if a = g ∧ b = f then gT G else A a b, ⟨h1, fun a b ha hb => ?_, fun a b a' b' ha hb ha' hb' q => ?_, fun a b q => ?_, fun a ha q hq => ?_, ⟨fun p hp => ?_, ?_, ?_, ?_⟩, fun a ha q hq => ?_, fun a b j ha hb => ?_, h9.1, by rw [eT]; omega⟩, hp, ⟨by rw [hp]; exact hx, fun a b ha q => ?_⟩, fun a b q => hA a b q⟩
  · show isO E G1 (if a = g ∧ b = f then gT G else A a b) (kd a b)
    by_cases q : a = g ∧ b = f
    · rw [if_pos q, q.1, q.2]
      exact ⟨h9.2, by rw [eT]; omega, by rw [eK, if_pos rfl, hc]⟩
    · rw [if_neg q]
      have z := h2 a b ha hb
      exact ⟨z.1, by rw [eT]; exact Nat.lt_succ_of_lt z.2.1, by rw [eK, if_neg (hne a b)]; exact z.2.2⟩
  · have q : (if a = g ∧ b = f then gT G else A a b) = (if a' = g ∧ b' = f then gT G else A a' b') := q
    by_cases z : a = g ∧ b = f
    · by_cases z' : a' = g ∧ b' = f
      · exact ⟨z.1.trans z'.1.symm, z.2.trans z'.2.symm⟩
      · rw [if_pos z, if_neg z'] at q; exact absurd q.symm (hne a' b')
    · by_cases z' : a' = g ∧ b' = f
      · rw [if_neg z, if_pos z'] at q; exact absurd q (hne a b)
      · rw [if_neg z, if_neg z'] at q; exact h3 a b a' b' ha hb ha' hb' q
  · show (if a = g ∧ b = f then gT G else A a b) = 0
    have hz2 : ¬ (a = g ∧ b = f) := fun z => q ⟨by rw [z.1]; exact hl, by rw [z.1, z.2]; exact hf⟩
    rw [if_neg hz2]
    exact h4 a b q
  · show gR G1 (if a = g ∧ q.1 = f then gT G else A a q.1) q.2.1 = if a = g ∧ q.2.2 = f then gT G else A a q.2.2
    by_cases z : a = g
    · subst z
      have y := hk q hq
      rw [if_neg (fun w => y.1 w.2)]
      by_cases w : q.1 = o ∧ q.2.1 = k
      · rw [if_pos ⟨rfl, y.2.mpr w⟩, eR _ _ (hne a q.1), if_pos ⟨by rw [w.1], w.2⟩]
      · rw [if_neg (fun u => w (y.2.mp u.2)), kR a q.1 q.2.1 (fun u => w u.2)]
        exact h5 a ha q hq
    · rw [if_neg (fun w => z w.1), if_neg (fun w => z w.1), kR a q.1 q.2.1 (fun u => z u.1)]
      exact h5 a ha q hq
  · show gR G1 (if 0 = g ∧ 9 = f then gT G else A 0 9) p = if p + 1 = g ∧ 0 = f then gT G else A (p + 1) 0
    rw [if_neg (fun w => hz.2.1 w.2.symm), if_neg (fun w => hz.1 w.2.symm), kR 0 9 p (fun u => hs ⟨u.1.symm, Or.inl u.2.1.symm⟩)]
    exact h6.1 p hp
  · show gR G1 (if 0 = g ∧ 28 = f then gT G else A 0 28) 8 = if 5 = g ∧ 0 = f then gT G else A 5 0
    rw [if_neg (fun w => hz.2.2.1 w.2.symm), if_neg (fun w => hz.1 w.2.symm), kR 0 28 8 (fun u => hs ⟨u.1.symm, Or.inr (Or.inl ⟨u.2.1.symm, u.2.2.symm⟩)⟩)]
    exact h6.2.1
  · show gR G1 (if 0 = g ∧ 7 = f then gT G else A 0 7) 1 = if P.1 = g ∧ 0 = f then gT G else A P.1 0
    rw [if_neg (fun w => hz.2.2.2 w.2.symm), if_neg (fun w => hz.1 w.2.symm), kR 0 7 1 (fun u => hs ⟨u.1.symm, Or.inr (Or.inr ⟨u.2.1.symm, Or.inl u.2.2.symm⟩)⟩)]
    exact h6.2.2.1
  · show gR G1 (if 0 = g ∧ 7 = f then gT G else A 0 7) 2 = if P.2 = g ∧ 9 = f then gT G else A P.2 9
    rw [if_neg (fun w => hz.2.2.2 w.2.symm), if_neg (fun w => hz.2.1 w.2.symm), kR 0 7 2 (fun u => hs ⟨u.1.symm, Or.inr (Or.inr ⟨u.2.1.symm, Or.inr u.2.2.symm⟩)⟩)]
    exact h6.2.2.2
  · show gN G1 (if a = g ∧ q.1 = f then gT G else A a q.1) = q.2
    have hz2 : ¬ (a = g ∧ q.1 = f) := fun z => hn q (by rw [← z.1]; exact hq) z.2
    rw [if_neg hz2, kN]
    exact h7 a ha q hq
  · show okT (tyk (kd a b) j) (gI G1 (if a = g ∧ b = f then gT G else A a b) j)
    by_cases q : a = g ∧ b = f
    · rw [if_pos q, eI, if_pos rfl, q.1, q.2, hc]; exact hok j
    · rw [if_neg q, kI]; exact h8 a b j ha hb
  · show (if a = g ∧ b = f then gT G else A a b) = A a b
    have q : gN G1 (if a = g ∧ b = f then gT G else A a b) = gN G (A a b) := q
    by_cases z : a = g ∧ b = f
    · rw [if_pos z, eN, if_pos rfl, z.1, z.2] at q
      omega
    · exact if_neg z
def grI (V : VH) (g f n : Nat) : VH := gro V g f n (va_cpy (vI V g f) (fun _ => 0) 0 0 (vN V g f)) (fun _ => 0)
def grJ (V : VH) (g f n : Nat) : VH := gro V g f n (fun _ => 0) (va_cpy (vJ V g f) (fun _ => 0) 0 0 (vN V g f))
/-- (g, f) is a row of kind c that may grow; its owner (g, o) has it in field k -/
def GrOk (L : Nat → Bool) (g f o k c : Nat) : Prop := L g = true ∧ g < 6 ∧ f < nf g ∧ f < 32 ∧ o < nf g ∧ kd g f = c ∧ (∀ q ∈ LK g, q.1 ≠ f ∧ (q.2.2 = f ↔ q.1 = o ∧ q.2.1 = k)) ∧ (∀ q ∈ LN g, q.1 ≠ f) ∧ ¬ (g = 0 ∧ (o = 9 ∨ o = 28 ∧ k = 8 ∨ o = 7 ∧ (k = 1 ∨ k = 2))) ∧ (f ≠ 0 ∧ f ≠ 9 ∧ f ≠ 28 ∧ f ≠ 7)
theorem lt6 {L : Nat → Bool} {g : Nat} (hL : ∀ g, 6 < g → L g = false) (h : PG L g) : g < 6 := by
  by_cases c : 6 < g
  · have z := h.1
    rw [hL g c] at z; cases z
  · have := h.2.2; omega
theorem grOkP {L : Nat → Bool} {g f o k c : Nat} (hL : ∀ g, 6 < g → L g = false) (h : PG L g) (hf : f < 32) (ho : o < 32) (hc : KP.getD f 99 = c) (hk : ∀ q ∈ LKP, q.1 ≠ f ∧ (q.2.2 = f ↔ q.1 = o ∧ q.2.1 = k)) (hn : ∀ q ∈ LNP, q.1 ≠ f) (hz : f ≠ 0 ∧ f ≠ 9 ∧ f ≠ 28 ∧ f ≠ 7) : GrOk L g f o k c :=
  ⟨h.1, lt6 hL h, by rw [nfP h]; exact hf, hf, by rw [nfP h]; exact ho, by rw [kdP h]; exact hc, by rw [LKeqP h]; exact hk, by rw [LNeqP h]; exact hn, fun q => h.2.1 q.1, hz⟩
section
variable {L : Nat → Bool} {g f : Nat}
theorem go_tape (h : L 0 = true) : GrOk L 0 1 0 0 13 := ⟨h, by decide, by decide, by decide, by decide, rfl, by decide, by decide, by decide, by decide⟩
theorem go_store (h : L 0 = true) : GrOk L 0 25 24 0 13 := ⟨h, by decide, by decide, by decide, by decide, rfl, by decide, by decide, by decide, by decide⟩
theorem go_kinds (h : L 0 = true) : GrOk L 0 3 2 0 14 := ⟨h, by decide, by decide, by decide, by decide, rfl, by decide, by decide, by decide, by decide⟩
theorem go_keys (h : L 0 = true) : GrOk L 0 4 2 1 15 := ⟨h, by decide, by decide, by decide, by decide, rfl, by decide, by decide, by decide, by decide⟩
theorem go_places (h : L 0 = true) : GrOk L 0 5 2 2 14 := ⟨h, by decide, by decide, by decide, by decide, rfl, by decide, by decide, by decide, by decide⟩
theorem go_ends (h : L 0 = true) : GrOk L 0 6 2 3 14 := ⟨h, by decide, by decide, by decide, by decide, rfl, by decide, by decide, by decide, by decide⟩
theorem go_text (hL : ∀ g, 6 < g → L g = false) (h : PG L g) : GrOk L g 2 1 0 13 := grOkP hL h (by decide) (by decide) rfl (by decide) (by decide) (by decide)
theorem go_bytes (hL : ∀ g, 6 < g → L g = false) (h : BS L g f) : GrOk L g (f + 1) f 0 13 := by
  obtain ⟨h, ⟨rfl, rfl | rfl⟩ | ⟨h1, h2, rfl⟩⟩ := h
  · exact go_tape h
  · exact go_store h
  · exact go_text hL ⟨h, h1, h2⟩
end
section
variable {E : EE} {G G1 : AH} {A : Nat → Nat → Nat} {L : Nat → Bool} {P : Nat × Nat} {g f o k n c : Nat}
theorem Sh_grI (h : Sh E G A L P) (hG : GrOk L g f o k c) (hc : c = 13 ∨ c = 14) (hp : ¬ (g ≠ 0 ∧ (f = 20 ∨ f = 21 ∨ f = 22))) (h1 : gN G (A g f) + 32 ≤ n) (h2 : 2 * gN G (A g f) ≤ n) (e : G1 = sR (cpI (nw G c n n) (A g f) (gT G) 0 0 (gN G (A g f))) (A g o) k (gT G)) :
    ∃ A' : Nat → Nat → Nat, Sh E G1 A' L P ∧ pl G1 A' L P = grI (pl G A L P) g f n ∧ Xt (pl G A L P) A (pl G1 A' L P) A' ∧ ∀ a b, ¬ (a = g ∧ b = f) → A' a b = A a b := by
  obtain ⟨g1, g2, g3, g4, g5, g6, g7, g8, g9, g10⟩ := id hG
  have hx : A g f ≠ gT G := Nat.ne_of_lt (h.2.1 g f g1 g3).2.1
  subst e
  refine Sh_gro (c := c) (o := o) (k := k) h g1 g3 g5 g6 g7 g8 g9 g10 rfl rfl (fun _ => rfl) (fun _ => rfl) (fun a => ?_) (fun a => rfl) (fun a j ha => ?_) (fun j => ?_) (by omega) (Xl_gro g2 g3 g1 (Nat.le_trans (Nat.le_add_right _ 32) h1) (w_plain hp h1 h2).1 (w_plain hp h1 h2).2)
  · show u1 (u1 (gI G) (gT G) (fun _ => 0)) (gT G) (va_cpy (u1 (gI G) (gT G) (fun _ => 0) (A g f)) (u1 (gI G) (gT G) (fun _ => 0) (gT G)) 0 0 (gN G (A g f))) a = if a = gT G then va_cpy (gI G (A g f)) (fun _ => 0) 0 0 (gN G (A g f)) else gI G a
    unfold u1
    rw [if_neg hx, if_pos rfl]
    by_cases q : a = gT G
    · rw [if_pos q, if_pos q]
    · rw [if_neg q, if_neg q, if_neg q]
  · show u2 (u1 (gR G) (gT G) (fun _ => 0)) (A g o) k (gT G) a j = if a = A g o ∧ j = k then gT G else gR G a j
    unfold u2 u1
    rw [if_neg ha]
  · show okT (tyk c j) (va_cpy (gI G (A g f)) (fun _ => 0) 0 0 (gN G (A g f)) j)
    rcases hc with rfl | rfl
    · have z := h.2.2.2.2.2.2.2.1 g f
      unfold va_cpy
      split
      · have := z (0 + (j - 0)) g1 g3; rw [g6] at this; exact this
      · exact rfl
    · exact trivial
theorem Sh_grJ (h : Sh E G A L P) (hG : GrOk L g f o k 15) (hp : ¬ (g ≠ 0 ∧ (f = 20 ∨ f = 21 ∨ f = 22))) (h1 : gN G (A g f) + 32 ≤ n) (h2 : 2 * gN G (A g f) ≤ n) (e : G1 = sR (cpJ (nw G 15 n n) (A g f) (gT G) 0 0 (gN G (A g f))) (A g o) k (gT G)) :
    ∃ A' : Nat → Nat → Nat, Sh E G1 A' L P ∧ pl G1 A' L P = grJ (pl G A L P) g f n ∧ Xt (pl G A L P) A (pl G1 A' L P) A' ∧ ∀ a b, ¬ (a = g ∧ b = f) → A' a b = A a b := by
  obtain ⟨g1, g2, g3, g4, g5, g6, g7, g8, g9, g10⟩ := id hG
  have hx : A g f ≠ gT G := Nat.ne_of_lt (h.2.1 g f g1 g3).2.1
  subst e
  refine Sh_gro (c := 15) (o := o) (k := k) h g1 g3 g5 g6 g7 g8 g9 g10 rfl rfl (fun _ => rfl) (fun _ => rfl) (fun a => rfl) (fun a => ?_) (fun a j ha => ?_) (fun j => trivial) (by omega) (Xl_gro g2 g3 g1 (Nat.le_trans (Nat.le_add_right _ 32) h1) (w_plain hp h1 h2).1 (w_plain hp h1 h2).2)
  · show u1 (u1 (gJ G) (gT G) (fun _ => 0)) (gT G) (va_cpy (u1 (gJ G) (gT G) (fun _ => 0) (A g f)) (u1 (gJ G) (gT G) (fun _ => 0) (gT G)) 0 0 (gN G (A g f))) a = if a = gT G then va_cpy (gJ G (A g f)) (fun _ => 0) 0 0 (gN G (A g f)) else gJ G a
    unfold u1
    rw [if_neg hx, if_pos rfl]
    by_cases q : a = gT G
    · rw [if_pos q, if_pos q]
    · rw [if_neg q, if_neg q, if_neg q]
  · show u2 (u1 (gR G) (gT G) (fun _ => 0)) (A g o) k (gT G) a j = if a = A g o ∧ j = k then gT G else gR G a j
    unfold u2 u1
    rw [if_neg ha]
end
section
variable {E : EE} {d : Nat} {G : AH} {x0 n : Nat}
theorem imin_nI {a b : Nat} (h : a ≤ b) (hb : b < 2 ^ 31) : imin (nI a) (nI b) = nI a := if_neg (nI_nlt h hb)
theorem imax_nI {a b : Nat} (ha : a < 2 ^ 31) (hb : b < 2 ^ 31) : imax (nI a) (nI b) = nI (max a b) := by
  unfold imax
  by_cases c : a < b
  · rw [if_pos (nI_lt c hb), Nat.max_eq_right (Nat.le_of_lt c)]
  · rw [if_neg (nI_nlt (Nat.le_of_not_lt c) ha), Nat.max_eq_left (Nat.le_of_not_lt c)]
theorem nI_mul (a b : Nat) : nI a * nI b = nI (a * b) := (Int32.ofNat_mul a b).symm
theorem nI_2 (a : Nat) : 2 * nI a = nI (2 * a) := nI_mul 2 a
theorem c_copyB (h0 : 0 < d) (hx : isO E G x0 13) (hb : eB E ≤ gT G) (hn : gN G x0 < n) (h6 : n ≤ 60000000) (hf : ∀ i, fits .byte (.int (gI G x0 i)) = true) : wpR E d M_J7_copyOf_9075b [vr x0, vi (nI n)] G (fun r G' => r = gT G ∧ G' = cpI (nw G 13 n n) x0 (gT G) 0 0 (gN G x0)) := by
  have e1 : Int32.toNatClampNeg (nI n) = n := nI_clamp (by omega)
  have e2 : gN (nw G 13 n n) x0 = gN G x0 := if_neg (Nat.ne_of_lt hx.2.1)
  have e3 : imin (nI (gN G x0)) (nI n) = nI (gN G x0) := imin_nI (by omega) (by omega)
  have e4 : Int32.toNatClampNeg (nI (gN G x0)) = gN G x0 := nI_clamp (by omega)
  have e5 : Int32.toNatClampNeg 0 = 0 := rfl
  have e6 : gN (nw G 13 n n) (gT G) = n := if_pos rfl
  have e7 : gI (nw G 13 n n) x0 = gI G x0 := if_neg (Nat.ne_of_lt hx.2.1)
  refine wpM_of mk_J7_copyOf_9075b (Nat.le_of_ble_eq_true rfl) ?_
  refine v_J7_copyOf_9075b_0 h0 ⟨hx, fun _ => ?_, fun q => ?_⟩
  · simp only [e1, e2, e3, e4, e5, e6, e7]
    exact ⟨hb, nI_pos (by omega), h6, by decide, by decide, nI_pos (by omega), by omega, by omega, fun i _ => hf _, _, rfl, rfl, rfl⟩
  · have := (nI_eq (by omega) (by omega)).mp q; omega
theorem c_copyI (h0 : 0 < d) (hx : isO E G x0 14) (hb : eB E ≤ gT G) (hn : gN G x0 < n) (h6 : n ≤ 60000000) : wpR E d M_J7_copyOf_59c91 [vr x0, vi (nI n)] G (fun r G' => r = gT G ∧ G' = cpI (nw G 14 n n) x0 (gT G) 0 0 (gN G x0)) := by
  have e1 : Int32.toNatClampNeg (nI n) = n := nI_clamp (by omega)
  have e2 : gN (nw G 14 n n) x0 = gN G x0 := if_neg (Nat.ne_of_lt hx.2.1)
  have e3 : imin (nI (gN G x0)) (nI n) = nI (gN G x0) := imin_nI (by omega) (by omega)
  have e4 : Int32.toNatClampNeg (nI (gN G x0)) = gN G x0 := nI_clamp (by omega)
  have e5 : Int32.toNatClampNeg 0 = 0 := rfl
  have e6 : gN (nw G 14 n n) (gT G) = n := if_pos rfl
  refine wpM_of mk_J7_copyOf_59c91 (Nat.le_of_ble_eq_true rfl) ?_
  refine v_J7_copyOf_59c91_0 h0 ⟨hx, fun _ => ?_, fun q => ?_⟩
  · simp only [e1, e2, e3, e4, e5, e6]
    exact ⟨hb, nI_pos (by omega), h6, by decide, by decide, nI_pos (by omega), by omega, by omega, _, rfl, rfl, rfl⟩
  · have := (nI_eq (by omega) (by omega)).mp q; omega
theorem c_copyJ (h0 : 0 < d) (hx : isO E G x0 15) (hb : eB E ≤ gT G) (hn : gN G x0 < n) (h6 : n ≤ 60000000) : wpR E d M_J7_copyOf_c38d5 [vr x0, vi (nI n)] G (fun r G' => r = gT G ∧ G' = cpJ (nw G 15 n n) x0 (gT G) 0 0 (gN G x0)) := by
  have e1 : Int32.toNatClampNeg (nI n) = n := nI_clamp (by omega)
  have e2 : gN (nw G 15 n n) x0 = gN G x0 := if_neg (Nat.ne_of_lt hx.2.1)
  have e3 : imin (nI (gN G x0)) (nI n) = nI (gN G x0) := imin_nI (by omega) (by omega)
  have e4 : Int32.toNatClampNeg (nI (gN G x0)) = gN G x0 := nI_clamp (by omega)
  have e5 : Int32.toNatClampNeg 0 = 0 := rfl
  have e6 : gN (nw G 15 n n) (gT G) = n := if_pos rfl
  refine wpM_of mk_J7_copyOf_c38d5 (Nat.le_of_ble_eq_true rfl) ?_
  refine v_J7_copyOf_c38d5_0 h0 ⟨hx, fun _ => ?_, fun q => ?_⟩
  · simp only [e1, e2, e3, e4, e5, e6]
    exact ⟨hb, nI_pos (by omega), h6, by decide, by decide, nI_pos (by omega), by omega, by omega, _, rfl, rfl, rfl⟩
  · have := (nI_eq (by omega) (by omega)).mp q; omega
end
