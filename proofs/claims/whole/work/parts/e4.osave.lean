/-! save -/
section
variable {t : Nat → Int32} {n nf nv : Nat} {fa vv cs : Nat → Int32} {x : Int32}
theorem gD_k {L M : List Int32} {j k : Nat} (h : k = L.length + j) : (L ++ M).getD k 0 = M.getD j 0 := by rw [h]; exact gD_r
theorem rowL_at : (rowL t n nf nv fa vv cs x).getD 0 0 = i2b (i2b 211) ∧ (∀ j, j < 2 → (rowL t n nf nv fa vv cs x).getD (1 + j) 0 = bof (Int32.toInt64 (nI n)) (1 - j)) ∧ (∀ i, i < n → (rowL t n nf nv fa vv cs x).getD (3 + i) 0 = t i) ∧ (∀ k j, k < nf → j < 4 → (rowL t n nf nv fa vv cs x).getD (3 + n + 4 * k + j) 0 = bof (Int32.toInt64 (fa k)) (3 - j)) ∧ (∀ v, v < nv → (rowL t n nf nv fa vv cs x).getD (3 + n + 4 * nf + 3 * v) 0 = i2b (i2b (vv v)) ∧ ∀ j, j < 2 → (rowL t n nf nv fa vv cs x).getD (3 + n + 4 * nf + 3 * v + 1 + j) 0 = bof (Int32.toInt64 (cs v)) (1 - j)) ∧ ∀ j, j < 2 → (rowL t n nf nv fa vv cs x).getD (3 + n + 4 * nf + 3 * nv + j) 0 = bof (Int32.toInt64 x) (1 - j) := by
  unfold rowL
  generalize eA : (i2b (i2b 211) :: bofL (Int32.toInt64 (nI n)) 2) = A
  have lA : A.length = 3 := by rw [← eA, List.length_cons, bofL_len]
  have lT : ((List.range n).map t).length = n := by rw [List.length_map, List.length_range]
  have lAT : (A ++ (List.range n).map t).length = 3 + n := by rw [List.length_append, lA, lT]
  have lF : ((A ++ (List.range n).map t) ++ faL fa nf).length = 3 + n + 4 * nf := by rw [List.length_append, lAT, faL_len]
  have lV : (((A ++ (List.range n).map t) ++ faL fa nf) ++ vaL vv cs nv).length = 3 + n + 4 * nf + 3 * nv := by rw [List.length_append, lF, vaL_len]
  have inA : ∀ j, j < 3 → ((((A ++ (List.range n).map t) ++ faL fa nf) ++ vaL vv cs nv) ++ bofL (Int32.toInt64 x) 2).getD j 0 = A.getD j 0 := fun j hj => by
    rw [gD_l (by rw [lV]; omega), gD_l (by rw [lF]; omega), gD_l (by rw [lAT]; omega), gD_l (by rw [lA]; omega)]
  refine ⟨?_, fun j hj => ?_, fun i hi => ?_, fun k j hk hj => ?_, fun v hv => ⟨?_, fun j hj => ?_⟩, fun j hj => ?_⟩
  · rw [inA 0 (by decide), ← eA]; rfl
  · rw [inA (1 + j) (by omega), ← eA, Nat.add_comm 1 j]
    show (bofL (Int32.toInt64 (nI n)) 2).getD j 0 = _
    rw [bofL_at hj]
  · rw [gD_l (by rw [lV]; omega), gD_l (by rw [lF]; omega), gD_l (by rw [lAT]; omega), gD_k (j := i) (by rw [lA]), map_at hi]
  · rw [gD_l (by rw [lV]; omega), gD_l (by rw [lF]; omega), gD_k (j := 4 * k + j) (by rw [lAT]; omega), faL_at hj nf hk]
  · rw [gD_l (by rw [lV]; omega), gD_k (j := 3 * v) (by rw [lF])]
    exact (vaL_at nv hv).1
  · rw [gD_l (by rw [lV]; omega), gD_k (j := 3 * v + 1 + j) (by rw [lF]; omega)]
    exact (vaL_at nv hv).2 j hj
  · rw [gD_k (j := j) (by rw [lV]), bofL_at hj]
end
theorem i2l_W {m : Nat} (h : m < 2 ^ 31) : (Int32.toInt64 (nI m)).toBitVec.toNat = m := by
  rw [i2l_nI h]
  show (BitVec.ofNat 64 m).toNat = m
  rw [BitVec.toNat_ofNat, Nat.mod_eq_of_lt (by omega)]
theorem RowOK.ex {b b' : Nat → Nat} {s e : Nat} (h : RowOK b s e) (hb : ∀ i, s ≤ i → i < e → b' i = b i) : RowOK b' s e := by
  obtain ⟨t, n, R, nt, fa, pl, cs, x, p0, p1, p2, p3, p4, p5, p6, p7, p8⟩ := h
  refine ⟨t, n, R, nt, fa, pl, cs, x, p0, ?_, ?_, fun i hi => ?_, fun k hk => ⟨(p4 k hk).1, ?_⟩, fun v hv => ⟨(p5 v hv).1, ?_, ?_, (p5 v hv).2.2.2⟩, ?_, p7, p8⟩
  · rw [hb s (Nat.le_refl s) (by omega)]; exact p1
  · rw [← p2]; exact pkb_ext 2 (fun j hj => hb _ (by omega) (by omega))
  · rw [hb _ (by omega) (by omega)]; exact p3 i hi
  · rw [← (p4 k hk).2]; exact pkb_ext 4 (fun j hj => hb _ (by omega) (by omega))
  · rw [hb _ (by omega) (by omega)]; exact (p5 v hv).2.1
  · rw [← (p5 v hv).2.2.1]; exact pkb_ext 2 (fun j hj => hb _ (by omega) (by omega))
  · rw [← p6]; exact pkb_ext 2 (fun j hj => hb _ (by omega) (by omega))
section
variable {E : EE} {d : Nat} {V V' V1 V2 : VH} {q B : Nat} {t : Nat → Int32} {n : Nat} {R : List SR} {nt fa : Nat → Int32} {h h' : Nat} {x b : Int32} {cs : Nat → Int32}
/-- a row that save writes can be loaded -/
theorem row_ok {f : Nat → Int32} {s : Nat} (hI : PbI V q t n R nt fa h x cs) (hr : ∀ j, j < (rwQ t n R fa h x cs).length → f (s + j) = (rwQ t n R fa h x cs).getD j 0) : RowOK (bt f) s (s + (3 + n + (4 * tcR R 0 + 3 * tcR R 1 + 2) + 8)) := by
  have lR := rowL_len (t := t) (n := n) (nf := tcR R 0) (nv := tcR R 1) (fa := fa) (vv := vvR R h) (cs := cs) (x := x)
  rw [lR] at hr
  obtain ⟨r0, r1, r2, r3, r4, r5⟩ := rowL_at (t := t) (n := n) (nf := tcR R 0) (nv := tcR R 1) (fa := fa) (vv := vvR R h) (cs := cs) (x := x)
  have n20 := hI.1.1
  have n12 := hI.v12
  have at_ : ∀ j, j < 3 + n + 4 * tcR R 0 + 3 * tcR R 1 + 2 → bt f (s + j) = ((rwQ t n R fa h x cs).getD j 0 &&& 255).toBitVec.toNat := fun j hj => by unfold bt; rw [hr j hj]
  have px := hI.2.2.2.2.2.2.2
  obtain ⟨xx, hx, ex⟩ := set_nI (x := x) (H := tcR R 1) (fun v hv _ => px v hv)
  have hcs : ∀ v, v < 12 → ∃ c, cs v = nI c ∧ c ≤ 1000 := fun v hv => (hI.2.1.2.2.2.2.2.2.2.2.2.2 v hv).2
  have p12 : 2 ^ tcR R 1 ≤ 4096 := two12 n12
  refine ⟨t, n, R, nt, fa, fun v => Dg (szR R) (tcR R 1) v h, fun v => (cs v).toNatClampNeg, xx, hI.1, ?_, ?_, fun i hi => ?_, fun k hk => ⟨hI.bd.2 k hk, ?_⟩, fun v hv => ⟨Dg_lt hI.sp.pos hv, ?_, ?_, ?_⟩, ?_, hx, by omega⟩
  · have := at_ 0 (by omega)
    rw [Nat.add_zero] at this
    rw [this, r0]; decide
  · have e : pkb (fun j => bt f (s + 1 + j)) 2 = (Int32.toInt64 (nI n)).toBitVec.toNat / 256 ^ 0 % 256 ^ 2 := pkb_num 2 0 (fun j hj => by
      have := at_ (1 + j) (by omega)
      rw [← Nat.add_assoc] at this
      rw [this, r1 j hj, bof_bt (by omega), Nat.zero_add])
    rw [e, i2l_W (by omega), Nat.pow_zero, Nat.div_one]
    exact Nat.mod_eq_of_lt (by omega)
  · have := at_ (3 + i) (by omega)
    rw [← Nat.add_assoc] at this
    rw [this, r2 i hi]; rfl
  · have e : pkb (fun j => bt f (s + 3 + n + 4 * k + j)) 4 = (Int32.toInt64 (fa k)).toBitVec.toNat / 256 ^ 0 % 256 ^ 4 := pkb_num 4 0 (fun j hj => by
      have := at_ (3 + n + 4 * k + j) (by omega)
      rw [show s + 3 + n + 4 * k + j = s + (3 + n + 4 * k + j) by omega, this, r3 k j hk hj, bof_bt (by omega), Nat.zero_add])
    rw [e, Nat.pow_zero, Nat.div_one]
    exact ext_low (fa k)
  · have := at_ (3 + n + 4 * tcR R 0 + 3 * v) (by omega)
    rw [show s + 3 + n + 4 * tcR R 0 + 3 * v = s + (3 + n + 4 * tcR R 0 + 3 * v) by omega, this, (r4 v hv).1]
    have a := bt_i2b (fun _ => i2b (vvR R h v)) 0
    have b := bt_i2b (fun _ => vvR R h v) 0
    unfold bt at a b
    show (i2b (i2b (vvR R h v)) &&& 255).toBitVec.toNat = _
    rw [a, b]; rfl
  · obtain ⟨c, ec, c1⟩ := hcs v (by omega)
    have e : pkb (fun j => bt f (s + 3 + n + 4 * tcR R 0 + 3 * v + 1 + j)) 2 = (Int32.toInt64 (cs v)).toBitVec.toNat / 256 ^ 0 % 256 ^ 2 := pkb_num 2 0 (fun j hj => by
      have := at_ (3 + n + 4 * tcR R 0 + 3 * v + 1 + j) (by omega)
      rw [show s + 3 + n + 4 * tcR R 0 + 3 * v + 1 + j = s + (3 + n + 4 * tcR R 0 + 3 * v + 1 + j) by omega, this, (r4 v hv).2 j hj, bof_bt (by omega), Nat.zero_add])
    rw [e, ec, i2l_W (by omega), Nat.pow_zero, Nat.div_one]
    show c % 256 ^ 2 = (cs v).toNatClampNeg
    rw [ec, nI_clamp (by omega)]
    exact Nat.mod_eq_of_lt (by omega)
  · obtain ⟨c, ec, c1⟩ := hcs v (by omega)
    show (cs v).toNatClampNeg ≤ 1000
    rw [ec, nI_clamp (by omega)]; exact c1
  · have e : pkb (fun j => bt f (s + 3 + n + 4 * tcR R 0 + 3 * tcR R 1 + j)) 2 = (Int32.toInt64 x).toBitVec.toNat / 256 ^ 0 % 256 ^ 2 := pkb_num 2 0 (fun j hj => by
      have := at_ (3 + n + 4 * tcR R 0 + 3 * tcR R 1 + j) (by omega)
      rw [show s + 3 + n + 4 * tcR R 0 + 3 * tcR R 1 + j = s + (3 + n + 4 * tcR R 0 + 3 * tcR R 1 + j) by omega, this, r5 j hj, bof_bt (by omega), Nat.zero_add])
    rw [e, ex, i2l_W (by omega), Nat.pow_zero, Nat.div_one]
    exact Nat.mod_eq_of_lt (by omega)
end
section
variable {E : EE} {d x B B' : Nat}
theorem o_save (h0 : 10 < d) (hB : B ≤ B') : VO_save E d (JA x B) (JA x B') := fun V a0 hJ => liftI hJ (fun hW hS => by
  rcases hS.inQ a0 with ⟨hP, hM⟩ | ⟨q, t, n, R, nt, fa, h, px, cs, hq, rfl, hI⟩
  · exact nul_save (J := fun V2 => WF V2 → JS B' V2) (by omega) hW hP hM (fun _ => hS.mono hB)
  · obtain ⟨c, s, en, ⟨a1, a2, a3⟩, ⟨b1, b2, b3⟩, ⟨c1, c2, c3, c4⟩, e⟩ := hS.2.2.2.2.1
    have s20 := b2.2
    have q5 := hI.sq.1
    have n20 := hI.1.1
    have n12 := hI.v12
    have n16 : tcR R 0 ≤ 16 := hI.1.2.2.2.1.1 0 (by decide)
    have txM := hI.2.2.1.2.1
    have need : ∀ {W}, MiQ W q t n R fa h px cs → ∀ {K : Int32 → VH → Prop}, K (nI (3 + n + (4 * tcR R 0 + 3 * tcR R 1 + 2) + 8)) W → vMI E (d - 1) M_X12_needOf [sl 6 0, wi (nI q)] W K := fun {W} m K hk => by
      have e4 : vI W 6 4 q = nI n := m.1.2.1.2
      have e14 : vI W 6 14 (4 * q) = nI (tcR R 0) := (m.1.2.2.1.1 0 (by decide)).1
      refine w_X12_needOf_0 (by omega) ?_
      rw [nI_clamp (show q < 2 ^ 31 by omega), e4, show (4 : Int32) = nI 4 from rfl, nI_mul, nI_clamp (show 4 * q < 2 ^ 31 by omega), e14, nI_mul]
      refine ⟨vp_in_nI q5 (by decide), vp_in_nI (by omega) (by decide), c_vars m.1.2.2.2.2.1 ?_⟩
      rw [show (3 : Int32) = nI 3 from rfl, show (2 : Int32) = nI 2 from rfl, show (8 : Int32) = nI 8 from rfl, nI_mul, nI_add, nI_add, nI_add, nI_add, nI_add, show 3 + n + 4 * tcR R 0 + 3 * tcR R 1 + 2 + 8 = 3 + n + (4 * tcR R 0 + 3 * tcR R 1 + 2) + 8 by omega]
      exact hk
    refine w_X11_save_0 (by omega) (c_known_y hI hq ⟨fun _ => ⟨hI.2.1.1.2, c_rowC (by omega) hI b1 a1 a3 (by omega) (fun hn => ?_) (fun cc ss V1 V3 k1 e3 => ?_)⟩, fun z => absurd hI.2.1.1.1 z⟩)
    · refine w_X12_save_0 (by omega) (c_isProblem_y hI.mi hq ⟨fun _ => ?_, fun w => absurd w (by decide)⟩)
      rw [a2, b2.1]
      refine ⟨fun _ => ⟨rfl, fun _ => hS.mono hB⟩, fun z => need hI.mi ?_⟩
      rw [nI_add]
      refine ⟨fun y => ?_, fun _ => ⟨rfl, fun _ => hS.mono hB⟩⟩
      have y' : s + (3 + n + (4 * tcR R 0 + 3 * tcR R 1 + 2) + 8) ≤ 19990 := Nat.le_of_not_lt (fun w => absurd y (nI_ge (b := s + (3 + n + (4 * tcR R 0 + 3 * tcR R 1 + 2) + 8)) (a := 19990) w (by omega)))
      have z' : c ≠ 100 := fun w => z (by rw [w]; rfl)
      rcases hn with w | w
      · omega
      · exact absurd y' w
    · have f1 := k1.1
      have g3 : Fr V1 V3 (fun a f => a = 0 ∧ (f = 23 ∨ f = 26)) := by
        rw [e3]
        exact (((Fr_wrI (V := V1) ⟨rfl, Or.inl rfl⟩).trans (Fr_wrI ⟨rfl, Or.inr rfl⟩)).trans (Fr_wrI ⟨rfl, Or.inl rfl⟩))
      have f3 : Fr V V3 (fun a f => a = 0 ∧ 23 ≤ f ∧ f ≤ 26) := (f1.mono (fun a f y => ⟨y.1, by have := y.2; omega⟩)).trans (g3.mono (fun a f y => ⟨y.1, by have := y.2; omega⟩))
      have i6 : ∀ f, vI V3 6 f = vI V 6 f := fun f => f3.i (fun y => absurd y.1 (by decide))
      have mi : MiQ V3 q t n R fa h px cs := ⟨hI.mi.1.fr hI.1 (fun f j z l => by rw [i6]), by rw [i6]; exact hI.mi.2⟩
      have by59 : ∀ i, okT 1 (vI V3 6 3 i) := fun i => by rw [i6]; exact hW.2.2 6 3 i hW.1.2.1 (by decide)
      have tfit : ∀ i, i < n → i2b (t i) = t i := fun i _ => by
        rw [← hI.2.1.2.1.2 i]
        refine i2b_fit ?_
        have := hW.2.2 (q + 1) 2 i hI.2.1.1.1 (by rw [nfP hI.2.1.1]; decide)
        rw [kdP hI.2.1.1] at this
        exact this
      have lR := rowL_len (t := t) (n := n) (nf := tcR R 0) (nv := tcR R 1) (fa := fa) (vv := vvR R h) (cs := cs) (x := px)
      refine w_X12_save_0 (by omega) (c_isProblem_y mi hq ⟨fun _ => ?_, fun w => absurd w (by decide)⟩)
      rw [i6, a2]
      refine ⟨fun z => absurd ((nI_eq (b := 100) (by omega) (by decide)).mp z) (by omega), fun _ => need mi ?_⟩
      rw [i6, b2.1, nI_add]
      refine ⟨fun _ => save_go (c := c) (s := s) (by omega) hI.1 mi by59 tfit hI.2.2.2.2.2.2.2 (by rw [i6]; exact a2) cc (by rw [i6]; exact b2.1) ss (fun W1 W3 k2 e4 => ⟨rfl, fun w2 => ?_⟩), fun z => absurd (nI_le (b := 19990) ss (by decide)) z⟩
      generalize eT : s + (3 + n + (4 * tcR R 0 + 3 * tcR R 1 + 2) + 8) = T at *
      have h3 : Fc W1 W3 (fun a f j => a = 6 ∧ (f = 0 ∧ (j = 91 ∨ j = 92) ∨ f = 60)) := by
        rw [e4]
        exact (((Fc_wrI (V := W1) ⟨rfl, Or.inl ⟨rfl, Or.inr rfl⟩⟩).trans (Fc_wrI ⟨rfl, Or.inr rfl⟩)).trans (Fc_wrI ⟨rfl, Or.inl ⟨rfl, Or.inl rfl⟩⟩)).trans (Fc_wrI ⟨rfl, Or.inr rfl⟩)
      have hF : Fc V3 W3 (fun a f j => a = 6 ∧ (f = 0 ∧ 89 ≤ j ∨ f = 59 ∨ f = 60)) := (k2.1.mono (fun a f j y => ⟨y.1, by have := y.2; omega⟩)).trans (h3.mono (fun a f j y => ⟨y.1, by have := y.2; omega⟩))
      have i0 : ∀ f j, vI W3 0 f j = vI V3 0 f j := fun f j => hF.i (fun y => absurd y.1 (by decide))
      have l7 : (rwQ t n R fa h px cs ++ bofL (sumS (vI V1 0 25) s (rwQ t n R fa h px cs).length 0) 8).length = T - s := by rw [List.length_append, lR, bofL_len]; omega
      have j25 : ∀ i, vI V3 0 25 i = vI V1 0 25 i := fun i => by rw [g3.i (fun y => by have := y.2; omega)]
      have o59 : ∀ i, i < s → vI W3 6 59 i = vI V 6 59 i := fun i hi => by rw [h3.i (fun y => by have := y.2; omega), k2.1.i (fun y => by have := y.2; omega), i6]
      have n59 : ∀ i, vI W3 6 59 i = vI W1 6 59 i := fun i => h3.i (fun y => by have := y.2; omega)
      have c25 : ∀ j, j < (rwQ t n R fa h px cs).length → vI V1 0 25 (s + j) = (rwQ t n R fa h px cs).getD j 0 := fun j hj => by rw [k1.2.2.2 j (by rw [List.length_append]; omega), gD_l hj]
      have m59 : ∀ j, j < (rwQ t n R fa h px cs).length → vI W1 6 59 (s + j) = (rwQ t n R fa h px cs).getD j 0 := fun j hj => by rw [k2.2.2 j (by rw [List.length_append]; omega), gD_l hj]
      have es : sumS (vI V1 0 25) s (rwQ t n R fa h px cs).length 0 = sumS (vI W1 6 59) s (rwQ t n R fa h px cs).length 0 := sumS_congr _ _ _ (fun i hi => by rw [c25 i hi, m59 i hi])
      have same : ∀ i, i < T → vI V1 0 25 i = vI W3 6 59 i := fun i hi => by
        by_cases ci : i < s
        · rw [k1.2.2.1 i ci, o59 i ci]; exact b3 i ci
        · have ei : i = s + (i - s) := by omega
          rw [n59, ei, k1.2.2.2 (i - s) (by rw [l7]; omega), es, k2.2.2 (i - s) (by rw [← es, l7]; omega)]
      refine (hS.g0 f3 hF (fun a f y => ⟨y.1, Or.inr y.2.1⟩) (fun a f j y => Or.inr ⟨y.1, by have := y.2; omega⟩) ?_ ?_ ?_ w2).mono hB
      · obtain ⟨m, by0, tp, teq⟩ := hS.1
        refine ⟨m, (f3.byt by0 (fun y => by have := y.2; omega) (fun y => by have := y.2; omega)).fc2 hF (fun y => absurd y.1 (by decide)), ⟨by rw [hF.i (fun y => by have := y.2; omega), i6]; exact tp.1, tp.2⟩, fun i hi => ?_⟩
        rw [i0, f3.i (fun y => by have := y.2; omega), hF.i (fun y => by have := y.2; omega), i6]; exact teq i hi
      · have a := hS.2.1
        refine ⟨?_, ?_, ?_⟩
        · rw [i0, f3.i (fun y => by have := y.2; omega), hF.i (fun y => by have := y.2; omega), i6]; exact a.1
        · rw [hF.j (fun y => absurd y.1 (by decide)), f3.j (fun y => by have := y.2; omega), hF.j (fun y => by have := y.2; omega), f3.j (fun y => absurd y.1 (by decide))]; exact a.2.1
        · rw [hF.j (fun y => absurd y.1 (by decide)), f3.j (fun y => by have := y.2; omega), hF.j (fun y => by have := y.2; omega), f3.j (fun y => absurd y.1 (by decide))]; exact a.2.2
      · have e91 : vI W3 6 0 91 = nI (c + 1) := by rw [e4, wrI_ne (fun z => by omega), wrI_at]
        have e92 : vI W3 6 0 92 = nI c := by rw [e4, wrI_ne (fun z => by omega), wrI_ne (fun z => by omega), wrI_ne (fun z => by omega), wrI_at]
        have e89 : vI W3 6 0 89 = nI T := by
          rw [h3.i (fun y => by have := y.2; omega), k2.2.1, ← es, l7]
          congr 1; omega
        have bt1 : Byt W3 0 24 T := by
          have b0 := k1.2.1
          rw [l7, show s + (T - s) = T by omega] at b0
          exact (g3.byt b0 (fun y => by have := y.2; omega) (fun y => by have := y.2; omega)).fc2 hF (fun y => absurd y.1 (by decide))
        have r25 : ∀ i, vI W3 0 25 i = vI V1 0 25 i := fun i => by rw [i0, j25]
        refine ⟨c + 1, T, fun k => if k ≤ c then en k else T, ⟨by rw [i0, e3, wrI_at], e91, by omega⟩, ⟨bt1, ⟨e89, ss⟩, fun i hi => by rw [r25]; exact same i hi⟩, ⟨?_, ?_, fun k hk => ?_, fun k hk => ?_⟩, Or.inr ⟨c, by omega, by rw [i0, e3, wrI_ne (fun z => by omega), wrI_ne (fun z => by omega), wrI_at], e92⟩⟩
        · show (if 0 ≤ c then en 0 else T) = 0
          rw [if_pos (Nat.zero_le c)]; exact c1
        · show (if c + 1 ≤ c then en (c + 1) else T) = T
          rw [if_neg (by omega)]
        · show vI W3 0 26 k = nI (if k + 1 ≤ c then en (k + 1) else T) ∧ (if k ≤ c then en k else T) ≤ (if k + 1 ≤ c then en (k + 1) else T) ∧ RowOK (bt (vI W3 0 25)) (if k ≤ c then en k else T) (if k + 1 ≤ c then en (k + 1) else T)
          have mono := en_mono (en := en) (c := c) (fun k hk => (c3 k hk).2.1)
          by_cases ck : k < c
          · rw [if_pos (by omega), if_pos (by omega)]
            obtain ⟨d1, d2, d3⟩ := c3 k ck
            have le := mono (k + 1) c (by omega) (Nat.le_refl c)
            refine ⟨?_, d2, d3.ex (fun i h1 h2 => ?_)⟩
            · rw [i0, e3, wrI_ne (fun z => by omega), wrI_ne (fun z => by omega), wrI_ne (fun z => by omega), f1.i (fun y => by have := y.2; omega)]; exact d1
            · unfold bt
              rw [r25, k1.2.2.1 i (by omega)]
          · have ek : k = c := by omega
            subst ek
            rw [if_pos (Nat.le_refl k), if_neg (by omega), c2]
            refine ⟨by rw [i0, e3, wrI_ne (fun z => by omega), wrI_at], by omega, ?_⟩
            rw [← eT]
            refine row_ok hI (fun j hj => ?_)
            rw [r25]; exact c25 j hj
        · show vI W3 6 60 k = nI (if k ≤ c then en k else T)
          by_cases ck : k ≤ c
          · rw [if_pos ck, e4, wrI_ne (fun z => by omega), wrI_ne (fun z => by omega)]
            by_cases ck2 : k = c
            · rw [ck2, wrI_at, c2]
            · rw [wrI_ne (fun z => ck2 z.2.2), wrI_ne (fun z => by omega), k2.1.i (fun y => by have := y.2; omega), i6]; exact c4 k (by omega)
          · have : k = c + 1 := by omega
            rw [if_neg ck, this, e4, wrI_at])
end
