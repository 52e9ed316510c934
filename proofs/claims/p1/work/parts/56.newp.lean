/-! a new problem: what becomes of the view (by program) -/
def PN : List Nat := [0, 0, 256, 96, 4, 0, 12, 240, 12, 0, 30, 24, 24, 30, 30, 128, 128, 128, 12, 0, 0, 0, 0, 16, 12, 6, 96, 3, 3, 6, 16, 3]
/-- group g is new -/
def NewP (V V' : VH) (g : Nat) : Prop := vL V' = (fun a => if a = g then true else vL V a) ∧ vP V' = vP V ∧ vQ V' = vQ V ∧ (∀ a b, a ≠ g → vN V' a b = vN V a b ∧ vI V' a b = vI V a b ∧ vJ V' a b = vJ V a b) ∧ vT V' = vT V + 32 ∧ vU V' = vU V + 1364 ∧ (∀ f, f < 32 → vN V' g f = PN.getD f 0) ∧ vI V' g 0 0 = 0
theorem sumN_le {n : Nat} {F F' : Nat → Nat} (h : ∀ i, i < n → F i ≤ F' i) : sumN n F ≤ sumN n F' := by
  induction n with
  | zero => exact Nat.le_refl _
  | succ n ih => exact Nat.add_le_add (ih (fun i hi => h i (Nat.lt_succ_of_lt hi))) (h n (Nat.lt_succ_self n))
theorem PN_small (f : Nat) : PN.getD f 0 ≤ 256 := by
  by_cases h : f < 32
  · have : ∀ f, f < 32 → PN.getD f 0 ≤ 256 := by decide
    exact this f h
  · show (PN[f]?).getD 0 ≤ 256
    rw [List.getElem?_eq_none (by show 32 ≤ f; omega)]
    exact Nat.zero_le _
theorem rs_new {V V' : VH} {g : Nat} {w : Nat → Nat → Nat → Nat} (hg : g < 6) (hg0 : 0 < g) (hn : ¬ vL V g = true) (h : NewP V V' g) (hw : ∀ f n, n ≤ 256 → 2 * n ≤ w g f n) : rs w V + 2630 ≤ rs w V' := by
  have fN : nf g = 32 := by unfold nf; rw [if_neg (by omega), if_neg (by omega)]
  have e := sumN_upd (n := 6) (k := g) (F := fun g => if vL V g = true then sumN (nf g) (fun f => w g f (vN V g f)) else 0) (F' := fun a => if vL V' a = true then sumN (nf a) (fun b => w a b (vN V' a b)) else 0) hg (fun i _ hne => by
    show (if vL V i = true then sumN (nf i) (fun f => w i f (vN V i f)) else 0) = if vL V' i = true then sumN (nf i) (fun b => w i b (vN V' i b)) else 0
    have e1 : vL V' i = vL V i := by rw [h.1]; exact if_neg hne
    have e2 : ∀ b, vN V' i b = vN V i b := fun b => (h.2.2.2.1 i b hne).1
    rw [e1]; simp only [e2])
  have e1 : (if vL V g = true then sumN (nf g) (fun f => w g f (vN V g f)) else 0) = 0 := if_neg hn
  have e0 : vL V' g = true := by rw [h.1]; exact if_pos rfl
  have e2 : (if vL V' g = true then sumN (nf g) (fun b => w g b (vN V' g b)) else 0) = sumN 32 (fun b => w g b (vN V' g b)) := by rw [if_pos e0, fN]
  have e3 : sumN 32 (fun f => 2 * PN.getD f 0) ≤ sumN 32 (fun b => w g b (vN V' g b)) := sumN_le (fun i hi => by rw [h.2.2.2.2.2.2.1 i hi]; exact hw i _ (PN_small i))
  have e4 : sumN 32 (fun f => 2 * PN.getD f 0) = 2630 := by decide
  simp only [e1, e2] at e
  unfold rs
  omega
theorem Xl_new {V V' : VH} {g : Nat} (hg : g < 6) (hg0 : 0 < g) (hn : ¬ vL V g = true) (h : NewP V V' g) : Xl V V' := by
  have e1 := rs_new (w := w2) hg hg0 hn h (fun f n hn => by unfold w2; split <;> (try split) <;> (try split) <;> omega)
  have e2 := rs_new (w := w64) hg hg0 hn h (fun f n hn => by unfold w64; split <;> omega)
  obtain ⟨h1, h2, h3, h4, h5, h6, h7, h8⟩ := h
  have ne : ∀ a, vL V a = true → a ≠ g := fun a ha q => hn (q ▸ ha)
  refine ⟨fun a ha => ?_, fun a b ha => ?_, ?_, ?_⟩
  · rw [h1]; show (if a = g then true else vL V a) = true; rw [if_neg (ne a ha)]; exact ha
  · rw [(h4 a b (ne a ha)).1]; exact Nat.le_refl _
  · rw [h6]; omega
  · rw [h5]; omega
theorem lt32 {P : Nat → Prop} (p0 : P 0) (p1 : P 1) (p2 : P 2) (p3 : P 3) (p4 : P 4) (p5 : P 5) (p6 : P 6) (p7 : P 7) (p8 : P 8) (p9 : P 9) (p10 : P 10) (p11 : P 11) (p12 : P 12) (p13 : P 13) (p14 : P 14) (p15 : P 15) (p16 : P 16) (p17 : P 17) (p18 : P 18) (p19 : P 19) (p20 : P 20) (p21 : P 21) (p22 : P 22) (p23 : P 23) (p24 : P 24) (p25 : P 25) (p26 : P 26) (p27 : P 27) (p28 : P 28) (p29 : P 29) (p30 : P 30) (p31 : P 31) : ∀ i, i < 32 → P i
  | 0, _ => p0
  | 1, _ => p1
  | 2, _ => p2
  | 3, _ => p3
  | 4, _ => p4
  | 5, _ => p5
  | 6, _ => p6
  | 7, _ => p7
  | 8, _ => p8
  | 9, _ => p9
  | 10, _ => p10
  | 11, _ => p11
  | 12, _ => p12
  | 13, _ => p13
  | 14, _ => p14
  | 15, _ => p15
  | 16, _ => p16
  | 17, _ => p17
  | 18, _ => p18
  | 19, _ => p19
  | 20, _ => p20
  | 21, _ => p21
  | 22, _ => p22
  | 23, _ => p23
  | 24, _ => p24
  | 25, _ => p25
  | 26, _ => p26
  | 27, _ => p27
  | 28, _ => p28
  | 29, _ => p29
  | 30, _ => p30
  | 31, _ => p31
  | n + 32, h => absurd h (by omega)
theorem lt31 {P : Nat → Prop} (p0 : P 0) (p1 : P 1) (p2 : P 2) (p3 : P 3) (p4 : P 4) (p5 : P 5) (p6 : P 6) (p7 : P 7) (p8 : P 8) (p9 : P 9) (p10 : P 10) (p11 : P 11) (p12 : P 12) (p13 : P 13) (p14 : P 14) (p15 : P 15) (p16 : P 16) (p17 : P 17) (p18 : P 18) (p19 : P 19) (p20 : P 20) (p21 : P 21) (p22 : P 22) (p23 : P 23) (p24 : P 24) (p25 : P 25) (p26 : P 26) (p27 : P 27) (p28 : P 28) (p29 : P 29) (p30 : P 30) : ∀ i, i < 31 → P i
  | 0, _ => p0
  | 1, _ => p1
  | 2, _ => p2
  | 3, _ => p3
  | 4, _ => p4
  | 5, _ => p5
  | 6, _ => p6
  | 7, _ => p7
  | 8, _ => p8
  | 9, _ => p9
  | 10, _ => p10
  | 11, _ => p11
  | 12, _ => p12
  | 13, _ => p13
  | 14, _ => p14
  | 15, _ => p15
  | 16, _ => p16
  | 17, _ => p17
  | 18, _ => p18
  | 19, _ => p19
  | 20, _ => p20
  | 21, _ => p21
  | 22, _ => p22
  | 23, _ => p23
  | 24, _ => p24
  | 25, _ => p25
  | 26, _ => p26
  | 27, _ => p27
  | 28, _ => p28
  | 29, _ => p29
  | 30, _ => p30
  | n + 31, h => absurd h (by omega)
theorem cs3 {T u : Nat} {kd0 ln : Nat → Nat} {cI : Nat → Nat → Int32} {cJ : Nat → Nat → Int64} {cR : Nat → Nat → Nat} {tI : Nat → Int32} {tJ : Nat → Int64} {tR : Nat → Nat} (hs : cs_X3_init T u kd0 ln cI cJ cR tI tJ tR) : u = 1345 ∧ (∀ i, i < 31 → kd0 i = KP.getD (i + 1) 99) ∧ (∀ i, i < 31 → ln i = PN.getD (i + 1) 0) ∧ (∀ q ∈ LKP, (if q.1 = 0 then tR q.2.1 else cR (q.1 - 1) q.2.1) = T + (q.2.2 - 1)) ∧ tI 0 = 0 ∧ cI 1 = (fun _ => 0) ∧ cI 18 0 = 0 := by
  unfold cs_X3_init at hs
  obtain ⟨z0, z1, z2, z3, z4, z5, z6, z7, z8, z9, z10, z11, z12, z13, z14, z15, z16, z17, z18, z19, z20, z21, z22, z23, z24, z25, z26, z27, z28, z29, z30, z31, z32, z33, z34, z35, z36, z37, z38, z39, z40, z41, z42, z43, z44, z45, z46, z47, z48, z49, z50, z51, z52, z53, z54, z55, z56, z57, z58, z59, z60, z61, z62, z63, z64, z65, z66, z67, z68, z69, z70, z71, z72, z73, z74, z75, z76, z77, z78, z79, z80, z81, z82, z83, z84, z85, z86, z87, z88, z89, z90, z91, z92, z93, z94, z95, z96, z97, z98, z99, z100, z101, z102, z103, z104, z105, z106, z107, z108, z109, z110, z111, z112, z113, z114, z115, z116, z117, z118, z119, z120, z121, z122, z123, z124, z125, z126, z127, z128, z129, z130, z131, z132, z133, z134, z135, z136, z137, z138, z139, z140, z141, z142, z143, z144, z145, z146, z147, z148, z149, z150, z151, z152, z153, z154, z155, z156, z157, z158, z159, z160, z161, z162, z163, z164, z165, z166, z167, z168, z169, z170, z171, z172, z173, z174, z175, z176, z177, z178, z179, z180, z181, z182, z183, z184, z185, z186, z187, z188, z189, z190, z191, z192⟩ := hs
  refine ⟨z0, lt31 z20 z24 z29 z34 z39 z46 z51 z56 z61 z78 z83 z88 z93 z98 z103 z108 z113 z118 z123 z133 z138 z143 z148 z153 z158 z163 z168 z173 z178 z183 z188, lt31 z21 z25 z30 z35 z40 z47 z52 z57 z62 z79 z84 z89 z94 z99 z104 z109 z114 z119 z124 z134 z139 z144 z149 z154 z159 z164 z169 z174 z179 z184 z189, ?_, z1, z26, z125⟩
  unfold LKP
  refine List.forall_mem_cons.mpr ⟨z5, ?_⟩
  refine List.forall_mem_cons.mpr ⟨z6, ?_⟩
  refine List.forall_mem_cons.mpr ⟨z7, ?_⟩
  refine List.forall_mem_cons.mpr ⟨z8, ?_⟩
  refine List.forall_mem_cons.mpr ⟨z9, ?_⟩
  refine List.forall_mem_cons.mpr ⟨z10, ?_⟩
  refine List.forall_mem_cons.mpr ⟨z11, ?_⟩
  refine List.forall_mem_cons.mpr ⟨z12, ?_⟩
  refine List.forall_mem_cons.mpr ⟨z13, ?_⟩
  refine List.forall_mem_cons.mpr ⟨z14, ?_⟩
  refine List.forall_mem_cons.mpr ⟨z15, ?_⟩
  refine List.forall_mem_cons.mpr ⟨z16, ?_⟩
  refine List.forall_mem_cons.mpr ⟨z17, ?_⟩
  refine List.forall_mem_cons.mpr ⟨z18, ?_⟩
  refine List.forall_mem_cons.mpr ⟨z19, ?_⟩
  refine List.forall_mem_cons.mpr ⟨z23, ?_⟩
  refine List.forall_mem_cons.mpr ⟨z43, ?_⟩
  refine List.forall_mem_cons.mpr ⟨z44, ?_⟩
  refine List.forall_mem_cons.mpr ⟨z45, ?_⟩
  refine List.forall_mem_cons.mpr ⟨z69, ?_⟩
  refine List.forall_mem_cons.mpr ⟨z70, ?_⟩
  refine List.forall_mem_cons.mpr ⟨z71, ?_⟩
  refine List.forall_mem_cons.mpr ⟨z72, ?_⟩
  refine List.forall_mem_cons.mpr ⟨z73, ?_⟩
  refine List.forall_mem_cons.mpr ⟨z74, ?_⟩
  refine List.forall_mem_cons.mpr ⟨z75, ?_⟩
  refine List.forall_mem_cons.mpr ⟨z76, ?_⟩
  refine List.forall_mem_cons.mpr ⟨z77, ?_⟩
  refine List.forall_mem_cons.mpr ⟨z130, ?_⟩
  refine List.forall_mem_cons.mpr ⟨z131, ?_⟩
  refine List.forall_mem_cons.mpr ⟨z132, ?_⟩
  exact fun _ w => absurd w List.not_mem_nil
set_option maxHeartbeats 20000000 in
theorem Sh_newP {E : EE} {G G9 G13 G18 : AH} {A : Nat → Nat → Nat} {L : Nat → Bool} {P : Nat × Nat} {g u o k : Nat} {kd0 ln : Nat → Nat} {cI : Nat → Nat → Int32} {cJ : Nat → Nat → Int64} {cR : Nat → Nat → Nat} {tI : Nat → Int32} {tJ : Nat → Int64} {tR : Nat → Nat} (h : Sh E G A L P) (hn : ¬ L g = true) (hg : 0 < g ∧ g < 6) (hP : P.1 ≠ g ∧ P.2 ≠ g)
    (e9 : G9 = nw G 3 0 19) (hc : CG G9 (gT G) G13 31 u kd0 ln cI cJ cR tI tJ tR) (hs : cs_X3_init (gT G9) u kd0 ln cI cJ cR tI tJ tR)
    (ho : g ≤ 4 ∧ o = 9 ∧ k + 1 = g ∨ g = 5 ∧ o = 28 ∧ k = 8) (e18 : G18 = sR G13 (A 0 o) k (gT G)) :
    ∃ (A' : Nat → Nat → Nat) (V' : VH), Rp E G18 A' V' ∧ Xt (pl G A L P) A V' A' ∧ NewP (pl G A L P) V' g ∧ A' g 0 = gT G ∧ ∀ a b, a ≠ g → A' a b = A a b := by
  obtain ⟨h1, h2, h3, h4, h5, h6, h7, h8, h9⟩ := id h
  obtain ⟨c1, c2, c3, c4, c5, c6, c7, c8⟩ := hc
  obtain ⟨zu, zk, zl, zr, zt, z1, z18⟩ := cs3 hs
  clear hs
  have t9 : gT G9 = gT G + 1 := by rw [e9]; rfl
  have u9 : gU G9 = gU G + 19 := by rw [e9]; rfl
  rw [t9] at c1 c8 zr
  have hAlt : ∀ a b, A a b < gT G := fun a b => by
    by_cases w : L a = true ∧ b < nf a
    · exact (h2 a b w.1 w.2).2.1
    · have := h4 a b w; have := h9.1; have := h9.2; omega
  have old : ∀ a, a < gT G → gK G18 a = gK G a ∧ gN G18 a = gN G a ∧ gI G18 a = gI G a ∧ gJ G18 a = gJ G a := fun a ha => by
    have hne : a ≠ gT G := Nat.ne_of_lt ha
    have l1 := c3 a (by rw [t9]; omega)
    have l2 := c4 a (by rw [t9]; omega) hne
    rw [e9] at l1 l2
    rw [e18]
    exact ⟨l1.1.trans (if_neg hne), l1.2.trans (if_neg hne), l2.1.trans (if_neg hne), l2.2.1.trans (if_neg hne)⟩
  have oldR : ∀ a j, a < gT G → ¬ (a = A 0 o ∧ j = k) → gR G18 a j = gR G a j := fun a j ha hq => by
    have hne : a ≠ gT G := Nat.ne_of_lt ha
    have l2 := c4 a (by rw [t9]; omega) hne
    rw [e9] at l2
    rw [e18]
    show (if a = A 0 o ∧ j = k then gT G else gR G13 a j) = _
    rw [if_neg hq, l2.2.2]
    exact congrFun (if_neg hne) j
  have oldO : gR G18 (A 0 o) k = gT G := by rw [e18]; exact if_pos ⟨rfl, rfl⟩
  have top : gT G18 = gT G + 32 := by rw [e18]; show gT G13 = _; rw [c1]
  have topU : gU G18 = gU G + 1364 := by rw [e18]; show gU G13 = _; rw [c2, u9, zu]
  have nK : ∀ f, f < 32 → gK G18 (gT G + f) = KP.getD f 99 := by
    have q : ∀ i, i < 31 → gK G18 (gT G + (i + 1)) = kd0 i := fun i hi => by
      have := (c8 i hi).1
      rw [e18]; rw [show gT G + (i + 1) = gT G + 1 + i from by omega]; exact this
    intro f hf
    by_cases c : f = 0
    · subst c; rw [e18]; show gK G13 (gT G) = 3; rw [(c3 (gT G) (by rw [t9]; omega)).1, e9]; exact if_pos rfl
    · obtain ⟨i, rfl⟩ : ∃ i, f = i + 1 := ⟨f - 1, by omega⟩
      exact (q i (by omega)).trans (zk i (by omega))
  have nN : ∀ f, f < 32 → gN G18 (gT G + f) = PN.getD f 0 := by
    have q : ∀ i, i < 31 → gN G18 (gT G + (i + 1)) = ln i := fun i hi => by
      have := (c8 i hi).2.1
      rw [e18]; rw [show gT G + (i + 1) = gT G + 1 + i from by omega]; exact this
    intro f hf
    by_cases c : f = 0
    · subst c; rw [e18]; show gN G13 (gT G) = 0; rw [(c3 (gT G) (by rw [t9]; omega)).2, e9]; exact if_pos rfl
    · obtain ⟨i, rfl⟩ : ∃ i, f = i + 1 := ⟨f - 1, by omega⟩
      exact (q i (by omega)).trans (zl i (by omega))
  have hAo : A 0 o < gT G := hAlt 0 o
  have nI0 : ∀ j, gI G18 (gT G) j = tI j := fun j => by rw [e18]; exact congrFun c5 j
  have nR0 : ∀ j, gR G18 (gT G) j = tR j := fun j => by
    rw [e18]; show (if gT G = A 0 o ∧ j = k then gT G else gR G13 (gT G) j) = _
    rw [if_neg (fun q => by omega)]; exact congrFun c7 j
  have nIi : ∀ i, i < 31 → gI G18 (gT G + (i + 1)) = cI i := fun i hi => by
    have := (c8 i hi).2.2.1
    rw [e18]; rw [show gT G + (i + 1) = gT G + 1 + i from by omega]; exact this
  have nRi : ∀ i j, i < 31 → gR G18 (gT G + (i + 1)) j = cR i j := fun i j hi => by
    have := (c8 i hi).2.2.2.2
    rw [e18]; rw [show gT G + (i + 1) = gT G + 1 + i from by omega]
    show (if gT G + 1 + i = A 0 o ∧ j = k then gT G else gR G13 (gT G + 1 + i) j) = _
    rw [if_neg (fun q => by omega), this]
  have hgg : g ≠ 0 ∧ g ≠ 6 := by omega
  have fN : nf g = 32 := by unfold nf; rw [if_neg hgg.1, if_neg hgg.2]
  have fK : ∀ f, kd g f = KP.getD f 99 := fun f => by unfold kd; rw [if_neg hgg.1, if_neg hgg.2]
  have fLK : LK g = LKP := by unfold LK; rw [if_neg hgg.1, if_neg hgg.2]
  have fLN : LN g = LNP := by unfold LN; rw [if_neg hgg.1, if_neg hgg.2]
  have hA0 : ∀ b, A g b = 0 := fun b => h4 g b (fun q => hn q.1)
  -- the new places
  have hp : ∀ a b, a ≠ g → (if a = g then (if b < 32 then gT G + b else 0) else A a b) = A a b := fun a b q => if_neg q
  have hq : ∀ b, b < 32 → (if g = g then (if b < 32 then gT G + b else 0) else A g b) = gT G + b := fun b q => by rw [if_pos rfl, if_pos q]
  have oo : o < 29 := by omega
  have kR : ∀ a b j, a ≠ g → L a = true → b < nf a → ¬ (a = 0 ∧ b = o ∧ j = k) → gR G18 (A a b) j = gR G (A a b) j := fun a b j _ ha hb hz => by
    refine oldR _ _ (hAlt a b) (fun q => hz ?_)
    have := h.inj h1.1 (show o < nf 0 from oo) q.1
    exact ⟨this.1, this.2, q.2⟩
  have S : Sh E G18 (fun a b => if a = g then (if b < 32 then gT G + b else 0) else A a b) (fun a => if a = g then true else L a) P := by
    refine ⟨⟨?_, ?_, fun a ha => ?_⟩, fun a b ha hb => ?_, fun a b a' b' ha hb ha' hb' q => ?_, fun a b q => ?_, fun a ha => ?_, ⟨fun p hp4 => ?_, ?_, ?_, ?_⟩, fun a ha => ?_, fun a b j ha hb => ?_, h9.1, by rw [top]; omega⟩
    · show (if 0 = g then true else L 0) = true; rw [if_neg (by omega)]; exact h1.1
    · show (if 6 = g then true else L 6) = true; rw [if_neg (by omega)]; exact h1.2.1
    · show (if a = g then true else L a) = false; rw [if_neg (by omega)]; exact h1.2.2 a ha
    · show isO E G18 (if a = g then (if b < 32 then gT G + b else 0) else A a b) (kd a b)
      by_cases q : a = g
      · subst q
        rw [fN] at hb
        rw [if_pos rfl, if_pos hb, fK]
        exact ⟨by omega, by rw [top]; omega, nK b hb⟩
      · rw [if_neg q]
        have ha : L a = true := by have : (if a = g then true else L a) = true := ha; rw [if_neg q] at this; exact this
        have z := h2 a b ha hb
        exact ⟨z.1, by rw [top]; have := z.2.1; omega, (old _ z.2.1).1.trans z.2.2⟩
    · have q : (if a = g then (if b < 32 then gT G + b else 0) else A a b) = (if a' = g then (if b' < 32 then gT G + b' else 0) else A a' b') := q
      by_cases y : a = g
      · by_cases y' : a' = g
        · subst y; subst y'
          rw [fN] at hb hb'
          rw [if_pos rfl, if_pos hb, if_pos rfl, if_pos hb'] at q
          exact ⟨rfl, by omega⟩
        · subst y
          rw [fN] at hb
          rw [if_pos rfl, if_pos hb, if_neg y'] at q
          have := hAlt a' b'; omega
      · by_cases y' : a' = g
        · subst y'
          rw [fN] at hb'
          rw [if_neg y, if_pos rfl, if_pos hb'] at q
          have := hAlt a b; omega
        · rw [if_neg y, if_neg y'] at q
          have ha : L a = true := by have : (if a = g then true else L a) = true := ha; rw [if_neg y] at this; exact this
          have ha' : L a' = true := by have : (if a' = g then true else L a') = true := ha'; rw [if_neg y'] at this; exact this
          exact h3 a b a' b' ha hb ha' hb' q
    · show (if a = g then (if b < 32 then gT G + b else 0) else A a b) = 0
      by_cases y : a = g
      · subst y
        rw [if_pos rfl, if_neg (fun w => q ⟨if_pos rfl, by rw [fN]; exact w⟩)]
      · rw [if_neg y]
        refine h4 a b (fun w => q ⟨?_, w.2⟩)
        show (if a = g then true else L a) = true
        rw [if_neg y]; exact w.1
    · by_cases y : a = g
      · subst y
        rw [fLK]
        have lkP : ∀ q ∈ LKP, q.1 < 32 ∧ q.2.2 < 32 ∧ 1 ≤ q.2.2 := by decide
        intro q hql
        have y := lkP q hql
        have z := zr q hql
        show gR G18 (if a = a then (if q.1 < 32 then gT G + q.1 else 0) else A a q.1) q.2.1 = (if a = a then (if q.2.2 < 32 then gT G + q.2.2 else 0) else A a q.2.2)
        rw [hq q.1 y.1, hq q.2.2 y.2.1]
        by_cases c : q.1 = 0
        · rw [if_pos c] at z
          rw [c, Nat.add_zero, nR0, z]; omega
        · rw [if_neg c] at z
          have w := nRi (q.1 - 1) q.2.1 (by omega)
          rw [show q.1 - 1 + 1 = q.1 from by omega] at w
          rw [w, z]; omega
      · intro q hql
        have ha : L a = true := by have : (if a = g then true else L a) = true := ha; rw [if_neg y] at this; exact this
        have lk0 : ∀ q ∈ LK0, q.1 < 29 ∧ q.1 ≠ 9 ∧ ¬ (q.1 = 28 ∧ q.2.1 = 8) := by decide
        have lk6 : ∀ q ∈ LK6, q.1 < 62 := by decide
        have lkP : ∀ q ∈ LKP, q.1 < 32 := by decide
        have hb : q.1 < nf a := by
          unfold nf LK at *
          by_cases a0 : a = 0
          · rw [if_pos a0] at hql ⊢; exact (lk0 q hql).1
          · rw [if_neg a0] at hql ⊢
            by_cases a6 : a = 6
            · rw [if_pos a6] at hql ⊢; exact lk6 q hql
            · rw [if_neg a6] at hql ⊢; exact lkP q hql
        show gR G18 (if a = g then (if q.1 < 32 then gT G + q.1 else 0) else A a q.1) q.2.1 = (if a = g then (if q.2.2 < 32 then gT G + q.2.2 else 0) else A a q.2.2)
        rw [if_neg y, if_neg y, kR a q.1 q.2.1 y ha hb (fun w => ?_)]
        · exact h5 a ha q hql
        · obtain ⟨w1, w2, w3⟩ := w
          subst w1
          have := lk0 q (by unfold LK at hql; rw [if_pos rfl] at hql; exact hql)
          omega
    · show gR G18 (if 0 = g then (if 9 < 32 then gT G + 9 else 0) else A 0 9) p = (if p + 1 = g then (if 0 < 32 then gT G + 0 else 0) else A (p + 1) 0)
      rw [if_neg (show ¬ 0 = g by omega)]
      by_cases y : p + 1 = g
      · rw [if_pos y, if_pos (by decide)]
        have e : o = 9 ∧ k = p := by omega
        rw [← e.1, ← e.2, oldO]; rfl
      · rw [if_neg y, kR 0 9 p (by omega) h1.1 (by decide) (fun w => by omega)]
        exact h6.1 p hp4
    · show gR G18 (if 0 = g then (if 28 < 32 then gT G + 28 else 0) else A 0 28) 8 = (if 5 = g then (if 0 < 32 then gT G + 0 else 0) else A 5 0)
      rw [if_neg (show ¬ 0 = g by omega)]
      by_cases y : 5 = g
      · rw [if_pos y, if_pos (by decide)]
        have e : o = 28 ∧ k = 8 := by omega
        have := oldO
        rw [e.1, e.2] at this
        exact this
      · rw [if_neg y, kR 0 28 8 (by omega) h1.1 (by decide) (fun w => by omega)]
        exact h6.2.1
    · show gR G18 (if 0 = g then (if 7 < 32 then gT G + 7 else 0) else A 0 7) 1 = (if P.1 = g then (if 0 < 32 then gT G + 0 else 0) else A P.1 0)
      rw [if_neg (show ¬ 0 = g by omega), if_neg hP.1, kR 0 7 1 (by omega) h1.1 (by decide) (fun w => by omega)]
      exact h6.2.2.1
    · show gR G18 (if 0 = g then (if 7 < 32 then gT G + 7 else 0) else A 0 7) 2 = (if P.2 = g then (if 9 < 32 then gT G + 9 else 0) else A P.2 9)
      rw [if_neg (show ¬ 0 = g by omega), if_neg hP.2, kR 0 7 2 (by omega) h1.1 (by decide) (fun w => by omega)]
      exact h6.2.2.2
    · by_cases y : a = g
      · subst y
        rw [fLN]
        have ln : ∀ q ∈ LNP, q.1 < 32 ∧ PN.getD q.1 0 = q.2 := by decide
        intro q hql
        show gN G18 (if a = a then (if q.1 < 32 then gT G + q.1 else 0) else A a q.1) = q.2
        rw [hq q.1 (ln q hql).1, nN q.1 (ln q hql).1, (ln q hql).2]
      · intro q hql
        have ha : L a = true := by have : (if a = g then true else L a) = true := ha; rw [if_neg y] at this; exact this
        show gN G18 (if a = g then (if q.1 < 32 then gT G + q.1 else 0) else A a q.1) = q.2
        rw [if_neg y, (old _ (hAlt a q.1)).2.1]
        exact h7 a ha q hql
    · show okT (tyk (kd a b) j) (gI G18 (if a = g then (if b < 32 then gT G + b else 0) else A a b) j)
      by_cases y : a = g
      · subst y
        rw [fN] at hb
        rw [if_pos rfl, if_pos hb, fK]
        revert hb
        revert b
        refine lt32 ?_ ?_ ?_ ?_ ?_ ?_ ?_ ?_ ?_ ?_ ?_ ?_ ?_ ?_ ?_ ?_ ?_ ?_ ?_ ?_ ?_ ?_ ?_ ?_ ?_ ?_ ?_ ?_ ?_ ?_ ?_ ?_
        · show okT (tyk 3 j) (gI G18 (gT G) j); rw [nI0]
          by_cases q : j = 0
          · subst q; rw [zt]; exact Or.inl rfl
          · have : tyk 3 j = 0 := by unfold tyk; rw [if_neg (by decide), if_neg (by decide), if_neg (fun w => q w.2), if_neg (fun w => by have := w.1; revert this; decide)]
            rw [this]; exact trivial
        · exact okT_0 (by show tyk 0 j = 0; unfold tyk; rw [if_neg (by decide), if_neg (by decide), if_neg (fun w => by have := w.1; revert this; decide), if_neg (fun w => by have := w.1; revert this; decide)])
        · show okT (tyk 13 j) (gI G18 (gT G + (1 + 1)) j); rw [nIi 1 (by decide), z1]; exact rfl
        · exact okT_0 (by show tyk 15 j = 0; unfold tyk; rw [if_neg (by decide), if_neg (by decide), if_neg (fun w => by have := w.1; revert this; decide), if_neg (fun w => by have := w.1; revert this; decide)])
        · exact okT_0 (by show tyk 14 j = 0; unfold tyk; rw [if_neg (by decide), if_neg (by decide), if_neg (fun w => by have := w.1; revert this; decide), if_neg (fun w => by have := w.1; revert this; decide)])
        · exact okT_0 (by show tyk 7 j = 0; unfold tyk; rw [if_neg (by decide), if_neg (by decide), if_neg (fun w => by have := w.1; revert this; decide), if_neg (fun w => by have := w.1; revert this; decide)])
        · exact okT_0 (by show tyk 14 j = 0; unfold tyk; rw [if_neg (by decide), if_neg (by decide), if_neg (fun w => by have := w.1; revert this; decide), if_neg (fun w => by have := w.1; revert this; decide)])
        · exact okT_0 (by show tyk 14 j = 0; unfold tyk; rw [if_neg (by decide), if_neg (by decide), if_neg (fun w => by have := w.1; revert this; decide), if_neg (fun w => by have := w.1; revert this; decide)])
        · exact okT_0 (by show tyk 14 j = 0; unfold tyk; rw [if_neg (by decide), if_neg (by decide), if_neg (fun w => by have := w.1; revert this; decide), if_neg (fun w => by have := w.1; revert this; decide)])
        · exact okT_0 (by show tyk 2 j = 0; unfold tyk; rw [if_neg (by decide), if_neg (by decide), if_neg (fun w => by have := w.1; revert this; decide), if_neg (fun w => by have := w.1; revert this; decide)])
        · exact okT_0 (by show tyk 14 j = 0; unfold tyk; rw [if_neg (by decide), if_neg (by decide), if_neg (fun w => by have := w.1; revert this; decide), if_neg (fun w => by have := w.1; revert this; decide)])
        · exact okT_0 (by show tyk 14 j = 0; unfold tyk; rw [if_neg (by decide), if_neg (by decide), if_neg (fun w => by have := w.1; revert this; decide), if_neg (fun w => by have := w.1; revert this; decide)])
        · exact okT_0 (by show tyk 14 j = 0; unfold tyk; rw [if_neg (by decide), if_neg (by decide), if_neg (fun w => by have := w.1; revert this; decide), if_neg (fun w => by have := w.1; revert this; decide)])
        · exact okT_0 (by show tyk 14 j = 0; unfold tyk; rw [if_neg (by decide), if_neg (by decide), if_neg (fun w => by have := w.1; revert this; decide), if_neg (fun w => by have := w.1; revert this; decide)])
        · exact okT_0 (by show tyk 14 j = 0; unfold tyk; rw [if_neg (by decide), if_neg (by decide), if_neg (fun w => by have := w.1; revert this; decide), if_neg (fun w => by have := w.1; revert this; decide)])
        · exact okT_0 (by show tyk 14 j = 0; unfold tyk; rw [if_neg (by decide), if_neg (by decide), if_neg (fun w => by have := w.1; revert this; decide), if_neg (fun w => by have := w.1; revert this; decide)])
        · exact okT_0 (by show tyk 14 j = 0; unfold tyk; rw [if_neg (by decide), if_neg (by decide), if_neg (fun w => by have := w.1; revert this; decide), if_neg (fun w => by have := w.1; revert this; decide)])
        · exact okT_0 (by show tyk 14 j = 0; unfold tyk; rw [if_neg (by decide), if_neg (by decide), if_neg (fun w => by have := w.1; revert this; decide), if_neg (fun w => by have := w.1; revert this; decide)])
        · exact okT_0 (by show tyk 14 j = 0; unfold tyk; rw [if_neg (by decide), if_neg (by decide), if_neg (fun w => by have := w.1; revert this; decide), if_neg (fun w => by have := w.1; revert this; decide)])
        · show okT (tyk 9 j) (gI G18 (gT G + (18 + 1)) j); rw [nIi 18 (by decide)]
          by_cases q : j = 0
          · subst q; rw [z18]; exact Or.inl rfl
          · have : tyk 9 j = 0 := by unfold tyk; rw [if_neg (by decide), if_neg (by decide), if_neg (fun w => q w.2), if_neg (fun w => by have := w.1; revert this; decide)]
            rw [this]; exact trivial
        · exact okT_0 (by show tyk 14 j = 0; unfold tyk; rw [if_neg (by decide), if_neg (by decide), if_neg (fun w => by have := w.1; revert this; decide), if_neg (fun w => by have := w.1; revert this; decide)])
        · exact okT_0 (by show tyk 15 j = 0; unfold tyk; rw [if_neg (by decide), if_neg (by decide), if_neg (fun w => by have := w.1; revert this; decide), if_neg (fun w => by have := w.1; revert this; decide)])
        · exact okT_0 (by show tyk 14 j = 0; unfold tyk; rw [if_neg (by decide), if_neg (by decide), if_neg (fun w => by have := w.1; revert this; decide), if_neg (fun w => by have := w.1; revert this; decide)])
        · exact okT_0 (by show tyk 14 j = 0; unfold tyk; rw [if_neg (by decide), if_neg (by decide), if_neg (fun w => by have := w.1; revert this; decide), if_neg (fun w => by have := w.1; revert this; decide)])
        · exact okT_0 (by show tyk 14 j = 0; unfold tyk; rw [if_neg (by decide), if_neg (by decide), if_neg (fun w => by have := w.1; revert this; decide), if_neg (fun w => by have := w.1; revert this; decide)])
        · exact okT_0 (by show tyk 14 j = 0; unfold tyk; rw [if_neg (by decide), if_neg (by decide), if_neg (fun w => by have := w.1; revert this; decide), if_neg (fun w => by have := w.1; revert this; decide)])
        · exact okT_0 (by show tyk 14 j = 0; unfold tyk; rw [if_neg (by decide), if_neg (by decide), if_neg (fun w => by have := w.1; revert this; decide), if_neg (fun w => by have := w.1; revert this; decide)])
        · exact okT_0 (by show tyk 15 j = 0; unfold tyk; rw [if_neg (by decide), if_neg (by decide), if_neg (fun w => by have := w.1; revert this; decide), if_neg (fun w => by have := w.1; revert this; decide)])
        · exact okT_0 (by show tyk 15 j = 0; unfold tyk; rw [if_neg (by decide), if_neg (by decide), if_neg (fun w => by have := w.1; revert this; decide), if_neg (fun w => by have := w.1; revert this; decide)])
        · exact okT_0 (by show tyk 14 j = 0; unfold tyk; rw [if_neg (by decide), if_neg (by decide), if_neg (fun w => by have := w.1; revert this; decide), if_neg (fun w => by have := w.1; revert this; decide)])
        · exact okT_0 (by show tyk 14 j = 0; unfold tyk; rw [if_neg (by decide), if_neg (by decide), if_neg (fun w => by have := w.1; revert this; decide), if_neg (fun w => by have := w.1; revert this; decide)])
        · exact okT_0 (by show tyk 15 j = 0; unfold tyk; rw [if_neg (by decide), if_neg (by decide), if_neg (fun w => by have := w.1; revert this; decide), if_neg (fun w => by have := w.1; revert this; decide)])
      · rw [if_neg y, (old _ (hAlt a b)).2.2.1]
        have ha : L a = true := by have : (if a = g then true else L a) = true := ha; rw [if_neg y] at this; exact this
        exact h8 a b j ha hb
  have N : NewP (pl G A L P) (pl G18 (fun a b => if a = g then (if b < 32 then gT G + b else 0) else A a b) (fun a => if a = g then true else L a) P) g := by
    refine ⟨rfl, rfl, rfl, fun a b q => ?_, top, topU, fun f hf => ?_, ?_⟩
    · have z := old _ (hAlt a b)
      exact ⟨by show gN G18 (if a = g then (if b < 32 then gT G + b else 0) else A a b) = gN G (A a b); rw [if_neg q]; exact z.2.1, by show gI G18 (if a = g then (if b < 32 then gT G + b else 0) else A a b) = gI G (A a b); rw [if_neg q]; exact z.2.2.1, by show gJ G18 (if a = g then (if b < 32 then gT G + b else 0) else A a b) = gJ G (A a b); rw [if_neg q]; exact z.2.2.2⟩
    · show gN G18 (if g = g then (if f < 32 then gT G + f else 0) else A g f) = _
      rw [hq f hf]; exact nN f hf
    · show gI G18 (if g = g then (if 0 < 32 then gT G + 0 else 0) else A g 0) 0 = 0
      rw [hq 0 (by decide)]
      exact (nI0 0).trans zt
  refine ⟨_, _, ⟨_, _, rfl, S⟩, ⟨Xl_new hg.2 hg.1 hn N, fun a b ha _ => ?_⟩, N, hq 0 (by decide), fun a b q => if_neg q⟩
  have hne : a ≠ g := fun q => hn (by rw [← q]; exact ha)
  exact if_neg hne

