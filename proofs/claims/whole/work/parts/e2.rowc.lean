/-! save: the class writes a row -/
/-- the bytes of a row, but its sum -/
def rowL (t : Nat → Int32) (n nf nv : Nat) (fa vv cs : Nat → Int32) (x : Int32) : List Int32 := ((((i2b (i2b 211) :: bofL (Int32.toInt64 (nI n)) 2) ++ (List.range n).map t) ++ faL fa nf) ++ vaL vv cs nv) ++ bofL (Int32.toInt64 x) 2
theorem rowL_len {t : Nat → Int32} {n nf nv : Nat} {fa vv cs : Nat → Int32} {x : Int32} : (rowL t n nf nv fa vv cs x).length = 3 + n + 4 * nf + 3 * nv + 2 := by
  unfold rowL
  rw [List.length_append, List.length_append, List.length_append, List.length_append, List.length_cons, bofL_len, bofL_len, faL_len, vaL_len, List.length_map, List.length_range]
section
variable {E : EE} {d : Nat} {V V' V1 V2 : VH} {q B : Nat} {t : Nat → Int32} {n : Nat} {R : List SR} {nt fa : Nat → Int32} {h h' : Nat} {x b : Int32} {cs : Nat → Int32}
/-- bytes L stand at the store's end, from s on -/
def CLs (V V' : VH) (s : Nat) (L : List Int32) : Prop := Fr V V' (bR 0 24) ∧ Byt V' 0 24 (s + L.length) ∧ (∀ j, j < s → vI V' 0 25 j = vI V 0 25 j) ∧ ∀ j, j < L.length → vI V' 0 25 (s + j) = L.getD j 0
theorem CLs.add {s : Nat} {L M : List Int32} (h : CLs V V1 s L) (b : Bex V1 V2 0 24 (s + L.length) (s + L.length + M.length)) (e : ∀ i, i < M.length → vI V2 0 25 (s + L.length + i) = M.getD i 0) : CLs V V2 s (L ++ M) := by
  obtain ⟨f1, b1, o1, r1⟩ := h
  refine ⟨f1.trans b.1, ?_, fun j hj => by rw [b.2.2 j (by omega)]; exact o1 j hj, ap_at (fun j hj => by rw [b.2.2 (s + j) (by omega)]; exact r1 j hj) e⟩
  rw [List.length_append, ← Nat.add_assoc]; exact b.2.1
abbrev vvR (R : List SR) (h v : Nat) : Int32 := vlR R v (Dg (szR R) (tcR R 1) v h)
abbrev rwQ (t : Nat → Int32) (n : Nat) (R : List SR) (fa : Nat → Int32) (h : Nat) (x : Int32) (cs : Nat → Int32) : List Int32 := rowL t n (tcR R 0) (tcR R 1) fa (vvR R h) cs x
theorem c_rowC {s : Nat} {K : Int32 → VH → Prop} {c : Nat} (h0 : 6 < d) (hI : PbI V q t n R nt fa h x cs) (hs : Byt V 0 24 s) (hc : vI V 0 23 1 = nI c) (hc100 : c ≤ 100) (hs20 : s ≤ 20000) (hk0 : (¬ c + 1 ≤ 100 ∨ ¬ s + (3 + n + (4 * tcR R 0 + 3 * tcR R 1 + 2) + 8) ≤ 19990) → K (-100000) V) (hk1 : c + 1 ≤ 100 → s + (3 + n + (4 * tcR R 0 + 3 * tcR R 1 + 2) + 8) ≤ 19990 → ∀ V1 V', CLs V V1 s (rwQ t n R fa h x cs ++ bofL (sumS (vI V1 0 25) s (rwQ t n R fa h x cs).length 0) 8) → V' = wrI (wrI (wrI V1 0 23 4 (nI c)) 0 26 c (nI (s + (3 + n + (4 * tcR R 0 + 3 * tcR R 1 + 2) + 8)))) 0 23 1 (nI (c + 1)) → K (nI c) V') : vMI E d M_X8_add [sl 0 23, sl (q + 1) 0] V K := by
  have hg := hI.2.1.1
  have n16 : tcR R 0 ≤ 16 := hI.1.2.2.2.1.1 0 (by decide)
  have n12 := hI.v12
  have n20 : n ≤ 20000 := hI.1.1
  have tx := hI.2.1.2.1
  have e4 : vI V (q + 1) 4 (Int32.toNatClampNeg 0) = nI (tcR R 0) := (hI.2.1.2.2.1.1 0 (by decide)).1
  have e5 : vI V (q + 1) 5 0 = nI (tcR R 1) := hI.sp.2.1
  have lw : (4 : Int32) * nI (tcR R 0) + 3 * nI (tcR R 1) + 2 = nI (4 * tcR R 0 + 3 * tcR R 1 + 2) := by
    rw [show (4 : Int32) = nI 4 from rfl, show (3 : Int32) = nI 3 from rfl, show (2 : Int32) = nI 2 from rfl, nI_mul, nI_mul, nI_add, nI_add]
  refine w_X8_add_0 hg (by omega) (w_X8_stateLength_0 hg ?_)
  rw [e4, e5, lw, tx.1.2.1, show (3 : Int32) = nI 3 from rfl, show (8 : Int32) = nI 8 from rfl, nI_add, nI_add, nI_add]
  refine w_X8_hasRoom_0 ?_
  rw [hc, hs.2.1, nI_1, nI_add]
  refine ⟨fun z => ⟨fun y => absurd rfl y, fun _ => hk0 (Or.inl (fun w => absurd (nI_le (b := 100) w (by decide)) (Int32.not_le.mpr z)))⟩, fun z => ⟨fun y => ⟨fun w => absurd rfl w, fun _ => hk0 (Or.inr (fun w => absurd (nI_le (b := 19990) w (by decide)) (Int32.not_le.mpr y)))⟩, fun y => ⟨fun _ => ?_, fun w => absurd w (by decide)⟩⟩⟩
  have cc : c + 1 ≤ 100 := Nat.le_of_not_lt (fun w => z (Int32.not_le.mp (nI_ge (b := c + 1) (a := 100) w (by omega))))
  have ss : s + (3 + n + (4 * tcR R 0 + 3 * tcR R 1 + 2) + 8) ≤ 19990 := Nat.le_of_not_lt (fun w => y (Int32.not_le.mp (nI_ge (b := s + (3 + n + (4 * tcR R 0 + 3 * tcR R 1 + 2) + 8)) (a := 19990) w (by omega))))
  have hk1 := hk1 cc ss
  -- what stays
  have o : ∀ {W}, Fr V W (bR 0 24) → (∀ f, vI W (q + 1) f = vI V (q + 1) f) ∧ (∀ f, vN W (q + 1) f = vN V (q + 1) f) ∧ vL W = vL V := fun f => ⟨fun g => f.i (fun z => by have := z.1; omega), fun g => f.n (fun z => by have := z.1; omega), f.1⟩
  have spw : ∀ {W}, Fr V W (bR 0 24) → Sp W (q + 1) (tcR R 1) (szR R) (vlR R) := fun f => by
    obtain ⟨a1, a2, a3⟩ := o f
    unfold Sp
    rw [a1, a1, a1, a1, a3]
    exact hI.sp
  refine c_add (by omega) hs (by omega) (fun V9 b9 e9 => ?_)
  have k9 : CLs V V9 s ([] ++ [i2b (i2b 211)]) := CLs.add (L := []) (M := [i2b (i2b 211)]) ⟨Fr.refl, hs, fun _ _ => rfl, fun j hj => absurd hj (Nat.not_lt_zero j)⟩ b9 (fun i hi => by rw [show i = 0 from Nat.lt_one_iff.mp hi]; exact e9)
  rw [List.nil_append] at k9
  have t9 : vI V9 (q + 1) 1 1 = nI n := by rw [(o k9.1).1]; exact tx.1.2.1
  rw [t9]
  refine c_addNumber (k := 2) (by omega) k9.2.1 (by decide) (by show s + 1 + 2 ≤ 30000; omega) (fun V13 b13 e13 => ?_)
  have k13 : CLs V V13 s ([i2b (i2b 211)] ++ bofL (Int32.toInt64 (nI n)) 2) := k9.add (by rw [bofL_len]; exact b13) (fun i hi => by rw [bofL_len] at hi; rw [bofL_at hi]; exact e13 i hi)
  have t13 : vI V13 (q + 1) 1 1 = nI n := by rw [(o k13.1).1]; exact tx.1.2.1
  have by13 : Byt V13 (q + 1) 1 n := by
    obtain ⟨a1, a2, a3⟩ := o k13.1
    unfold Byt
    rw [a1, a2, a3]
    exact tx.1
  rw [t13]
  have l13 : s + ([i2b (i2b 211)] ++ bofL (Int32.toInt64 (nI n)) 2).length = s + 3 := by rw [List.length_append, bofL_len]; rfl
  refine c_addAll (s := 0) (m := n) (by omega) k13.2.1 by13 (fun z => by omega) (by omega) (by rw [l13]; omega) (fun V17 b17 e17 => ?_)
  have k17 : CLs V V17 s (([i2b (i2b 211)] ++ bofL (Int32.toInt64 (nI n)) 2) ++ (List.range n).map t) := k13.add (by rw [List.length_map, List.length_range]; exact b17) (fun i hi => by
    rw [List.length_map, List.length_range] at hi
    rw [map_at hi, e17 i hi, Nat.zero_add]
    show vI V13 (q + 1) 2 i = t i
    rw [(o k13.1).1]; exact tx.2 i)
  generalize eA : ([i2b (i2b 211)] ++ bofL (Int32.toInt64 (nI n)) 2) ++ (List.range n).map t = A at k17
  have lA : A.length = 3 + n := by
    rw [← eA, List.length_append, List.length_append, bofL_len, List.length_map, List.length_range]
    rfl
  -- vars, and the end
  have vars : ∀ m v W, v + m = tcR R 1 → CLs V W s ((A ++ faL fa (tcR R 0)) ++ vaL (vvR R h) cs v) → vwp E d M_X8_add 122 [some (sl 0 23), some (sl (q + 1) 0), some (wi (nI s)), some (wi (nI (3 + n + (4 * tcR R 0 + 3 * tcR R 1 + 2) + 8))), some (wi (nI v))] [] W (zi K) := by
    intro m
    induction m with
    | zero =>
      intro v W e kw
      have ev : v = tcR R 1 := by omega
      subst ev
      obtain ⟨w1, w2, w3⟩ := o kw.1
      have hgw : PG (vL W) (q + 1) := by rw [w3]; exact hg
      have lB : ((A ++ faL fa (tcR R 0)) ++ vaL (vvR R h) cs (tcR R 1)).length = 3 + n + 4 * tcR R 0 + 3 * tcR R 1 := by rw [List.length_append, List.length_append, lA, faL_len, vaL_len]
      refine w_X8_add_122 hgw (by omega) ⟨fun _ => ?_, fun z => absurd (by rw [w1, e5]; exact nI_le (Nat.le_refl _) (by omega)) z⟩
      rw [w1, hI.2.1.2.2.2.2.2.2.2.2.2.1]
      refine c_addNumber (k := 2) (by omega) kw.2.1 (by decide) (by rw [lB]; omega) (fun W1 b1 f1 => ?_)
      have k1 : CLs V W1 s (((A ++ faL fa (tcR R 0)) ++ vaL (vvR R h) cs (tcR R 1)) ++ bofL (Int32.toInt64 x) 2) := kw.add (by rw [bofL_len]; exact b1) (fun i hi => by rw [bofL_len] at hi; rw [bofL_at hi]; exact f1 i hi)
      have eR : ((A ++ faL fa (tcR R 0)) ++ vaL (vvR R h) cs (tcR R 1)) ++ bofL (Int32.toInt64 x) 2 = rwQ t n R fa h x cs := by rw [← eA]; rfl
      rw [eR] at k1
      have lR := rowL_len (t := t) (n := n) (nf := tcR R 0) (nv := tcR R 1) (fa := fa) (vv := vvR R h) (cs := cs) (x := x)
      have k1b := k1.2.1
      rw [k1b.2.1]
      refine c_sum (by omega) k1b (Nat.le_refl _) (Nat.le_add_right _ _) ?_
      rw [Nat.add_sub_cancel_left]
      refine c_addNumber (k := 8) (by omega) k1b (by decide) (by rw [lR]; omega) (fun W2 b2 f2 => ?_)
      have k2 : CLs V W2 s (rwQ t n R fa h x cs ++ bofL (sumS (vI W1 0 25) s (rwQ t n R fa h x cs).length 0) 8) := k1.add (by rw [bofL_len]; exact b2) (fun i hi => by rw [bofL_len] at hi; rw [bofL_at hi]; exact f2 i hi)
      have es : sumS (vI W1 0 25) s (rwQ t n R fa h x cs).length 0 = sumS (vI W2 0 25) s (rwQ t n R fa h x cs).length 0 := sumS_congr _ _ _ (fun i hi => by rw [b2.2.2 (s + i) (by omega)])
      rw [es] at k2
      have e23 : ∀ j, vI W2 0 23 j = vI V 0 23 j := fun j => by rw [k2.1.i (fun z => by have := z.2; omega)]
      have e24 : vI W2 0 24 1 = nI (s + (3 + n + (4 * tcR R 0 + 3 * tcR R 1 + 2) + 8)) := by
        rw [k2.2.1.2.1, List.length_append, lR, bofL_len]
        congr 1; omega
      intro V14 e14
      rw [e23, hc] at e14
      have g1 : vI V14 0 23 1 = nI c := by rw [e14, wrI_ne (fun z => by omega), e23]; exact hc
      rw [g1, nI_clamp (show c < 2 ^ 31 by omega)]
      refine ⟨vp_in_nI (by omega) (by decide), fun V16 e16 V17 e17 => ?_⟩
      have g24 : vI V14 0 24 1 = nI (s + (3 + n + (4 * tcR R 0 + 3 * tcR R 1 + 2) + 8)) := by rw [e14, wrI_ne (fun z => by omega)]; exact e24
      rw [g24] at e16
      have g16 : vI V16 0 23 1 = nI c := by rw [e16, wrI_ne (fun z => by omega)]; exact g1
      rw [g16, nI_1] at e17
      rw [g16]
      exact hk1 W2 V17 k2 (by rw [e17, e16, e14])
    | succ m ih =>
      intro v W e kw
      have hv : v < tcR R 1 := by omega
      obtain ⟨w1, w2, w3⟩ := o kw.1
      have hgw : PG (vL W) (q + 1) := by rw [w3]; exact hg
      have lB : ((A ++ faL fa (tcR R 0)) ++ vaL (vvR R h) cs v).length = 3 + n + 4 * tcR R 0 + 3 * v := by rw [List.length_append, List.length_append, lA, faL_len, vaL_len]
      refine w_X8_add_122 hgw (by omega) ⟨fun z => absurd z (by rw [w1, e5]; exact nI_ge hv (by omega)), fun _ => ?_⟩
      rw [w1, hI.hnd.1]
      refine c_valueOf (spw kw.1) hv (by have := hI.hnd.2; have := hI.p20; omega) (c_add (by omega) kw.2.1 (by rw [lB]; omega) (fun W1 b1 f1 => ?_))
      have k1 : CLs V W1 s (((A ++ faL fa (tcR R 0)) ++ vaL (vvR R h) cs v) ++ [i2b (i2b (vvR R h v))]) := kw.add b1 (fun i hi => by rw [show i = 0 from Nat.lt_one_iff.mp hi]; exact f1)
      have c24 : vI W1 (q + 1) 24 v = cs v := by rw [(o k1.1).1]; exact (hI.2.1.2.2.2.2.2.2.2.2.2.2 v (by omega)).1
      rw [nI_clamp (show v < 2 ^ 31 by omega), c24]
      have l1 : (((A ++ faL fa (tcR R 0)) ++ vaL (vvR R h) cs v) ++ [i2b (i2b (vvR R h v))]).length = 3 + n + 4 * tcR R 0 + 3 * v + 1 := by rw [List.length_append, lB]; rfl
      refine ⟨vp_in_nI (by omega) (by decide), c_addNumber (k := 2) (by omega) k1.2.1 (by decide) (by rw [l1]; omega) (fun W2 b2 f2 => ?_)⟩
      have k2 := k1.add (M := bofL (Int32.toInt64 (cs v)) 2) (by rw [bofL_len]; exact b2) (fun i hi => by rw [bofL_len] at hi; rw [bofL_at hi]; exact f2 i hi)
      rw [nI_1]
      refine ih (v + 1) W2 (by omega) ?_
      rw [vaL_s]
      have : ((A ++ faL fa (tcR R 0)) ++ (vaL (vvR R h) cs v ++ (i2b (i2b (vvR R h v)) :: bofL (Int32.toInt64 (cs v)) 2))) = (((A ++ faL fa (tcR R 0)) ++ vaL (vvR R h) cs v) ++ [i2b (i2b (vvR R h v))]) ++ bofL (Int32.toInt64 (cs v)) 2 := by simp
      rw [this]
      exact k2
  have facts : ∀ m f W, f + m = tcR R 0 → CLs V W s (A ++ faL fa f) → vwp E d M_X8_add 86 [some (sl 0 23), some (sl (q + 1) 0), some (wi (nI s)), some (wi (nI (3 + n + (4 * tcR R 0 + 3 * tcR R 1 + 2) + 8))), some (wi (nI f))] [] W (zi K) := by
    intro m
    induction m with
    | zero =>
      intro f W e kw
      have ef : f = tcR R 0 := by omega
      subst ef
      obtain ⟨w1, w2, w3⟩ := o kw.1
      refine w_X8_add_86 (by rw [w3]; exact hg) (by omega) ⟨fun _ => vars (tcR R 1) 0 W (Nat.zero_add _) (by rw [vaL, List.append_nil]; exact kw), fun z => absurd (by rw [w1, e4]; exact nI_le (Nat.le_refl _) (by omega)) z⟩
    | succ m ih =>
      intro f W e kw
      have hf : f < tcR R 0 := by omega
      obtain ⟨w1, w2, w3⟩ := o kw.1
      have lB : (A ++ faL fa f).length = 3 + n + 4 * f := by rw [List.length_append, lA, faL_len]
      refine w_X8_add_86 (by rw [w3]; exact hg) (by omega) ⟨fun z => absurd z (by rw [w1, e4]; exact nI_ge hf (by omega)), fun _ => ⟨vp_in_nI (by omega) (by decide), ?_⟩⟩
      rw [nI_clamp (show f < 2 ^ 31 by omega), w1, hI.bd.1 f hf]
      refine c_addNumber (k := 4) (by omega) kw.2.1 (by decide) (by rw [lB]; omega) (fun W1 b1 f1 => ?_)
      have k1 := kw.add (M := bofL (Int32.toInt64 (fa f)) 4) (by rw [bofL_len]; exact b1) (fun i hi => by rw [bofL_len] at hi; rw [bofL_at hi]; exact f1 i hi)
      rw [nI_1]
      refine ih (f + 1) W1 (by omega) ?_
      rw [faL_s, ← List.append_assoc]
      exact k1
  exact facts (tcR R 0) 0 V17 (Nat.zero_add _) (by rw [faL, List.append_nil]; exact k17)
end
