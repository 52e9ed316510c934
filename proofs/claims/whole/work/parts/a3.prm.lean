/-! problem: the reference; both -/
/-- cells that the reference's part changes -/
def mpS (q a f j : Nat) : Prop := a = 6 ∧ (f = 0 ∧ (j = 1 ∨ j = 4 ∨ 37 ≤ j ∧ j ≤ 61) ∨ f = 2 ∧ j = q ∨ f = 34 ∨ ofQ q f j)
section
variable {E : EE} {d : Nat} {V V' V1 V2 : VH} {q B : Nat} {t : Nat → Int32} {n : Nat} {R : List SR} {nt fa : Nat → Int32} {h : Nat} {x : Int32} {cs : Nat → Int32}
theorem rdM_mp {a f j : Nat} (y : rdM q a f j) : mpS q a f j := by
  have of : ∀ w, wM f = w → 3 ≤ f → f ≤ 33 → w * q ≤ j → j < w * q + w → mpS q 6 f j := fun w e h1 h2 h3 h4 => ⟨rfl, Or.inr (Or.inr (Or.inr ⟨h1, h2, by rw [e]; exact h3, by rw [e]; exact h4⟩))⟩
  rcases y with ⟨rfl, y⟩ | ⟨rfl, y⟩ | ⟨rfl, y⟩
  · rcases y with ⟨rfl, y⟩ | ⟨hf, y⟩ | ⟨hf, rfl⟩ | ⟨rfl, y⟩ | ⟨hf, y⟩ | ⟨rfl, y⟩ | ⟨rfl, y⟩ | ⟨hf, y⟩ | ⟨rfl, y⟩ | ⟨hf, y⟩ | ⟨hf, y⟩ | rfl
    · exact ⟨rfl, Or.inl ⟨rfl, by omega⟩⟩
    · rcases hf with rfl | rfl | rfl | rfl <;> exact of 20000 rfl (by decide) (by decide) y.1 y.2
    · rcases hf with rfl | rfl | rfl | rfl <;> exact of 1 rfl (by decide) (by decide) (by omega) (by omega)
    · exact of 64 rfl (by decide) (by decide) y.1 y.2
    · rcases hf with rfl | rfl <;> exact of 96 rfl (by decide) (by decide) y.1 y.2
    · exact of 4 rfl (by decide) (by decide) y.1 y.2
    · exact of 16 rfl (by decide) (by decide) y.1 y.2
    · rcases hf with rfl | rfl | rfl | rfl <;> exact of 12 rfl (by decide) (by decide) y.1 y.2
    · exact of 240 rfl (by decide) (by decide) y.1 y.2
    · rcases hf with rfl | rfl | rfl <;> exact of 24 rfl (by decide) (by decide) y.1 y.2
    · rcases hf with rfl | rfl <;> exact of 6 rfl (by decide) (by decide) y.1 y.2
    · exact ⟨rfl, Or.inr (Or.inr (Or.inl rfl))⟩
  · rcases y with ⟨rfl, y⟩ | ⟨hf, rfl⟩ | ⟨rfl, y⟩
    · exact ⟨rfl, Or.inl ⟨rfl, by omega⟩⟩
    · rcases hf with rfl | rfl | rfl | rfl | rfl <;> exact of 1 rfl (by decide) (by decide) (by omega) (by omega)
    · exact of 4 rfl (by decide) (by decide) y.1 y.2
  · rcases y with ⟨rfl, y⟩ | ⟨rfl, rfl⟩
    · exact of 12 rfl (by decide) (by decide) y.1 y.2
    · exact of 1 rfl (by decide) (by decide) (by omega) (by omega)
theorem bt_i2b (t : Nat → Int32) (i : Nat) : bt (fun _ => i2b (t i)) 0 = bt t i := by
  unfold bt i2b
  congr 1
  apply BitVec.eq_of_getLsbD_eq
  intro k hk
  show (((t i).toBitVec.signExtend 8).signExtend 32 &&& 255#32).getLsbD k = ((t i).toBitVec &&& 255#32).getLsbD k
  rw [BitVec.getLsbD_and, BitVec.getLsbD_and]
  by_cases c : k < 8
  · congr 1
    rw [BitVec.getLsbD_signExtend, BitVec.getLsbD_signExtend]
    simp [c, hk, show k < 32 by omega]
  · have : (255#32).getLsbD k = false := by
      have : k = 8 ∨ k = 9 ∨ k = 10 ∨ k = 11 ∨ k = 12 ∨ k = 13 ∨ k = 14 ∨ k = 15 ∨ k = 16 ∨ k = 17 ∨ k = 18 ∨ k = 19 ∨ k = 20 ∨ k = 21 ∨ k = 22 ∨ k = 23 ∨ k = 24 ∨ k = 25 ∨ k = 26 ∨ k = 27 ∨ k = 28 ∨ k = 29 ∨ k = 30 ∨ k = 31 := by omega
      rcases this with z | z | z | z | z | z | z | z | z | z | z | z | z | z | z | z | z | z | z | z | z | z | z | z <;> (subst z; decide)
    rw [this, Bool.and_false, Bool.and_false]
theorem rdl_end {T : Nat → TK} {F L : Nat} (hT : TL T L) (hF : 8 * L + 7 < F) : ∀ (m : Nat) (R : List SR) (i : Nat) (q : Nat × List SR), WR T F L R i → rdl T F m R i = .inr q → (T q.1).1 = 0 ∧ WR T F L q.2 q.1 := by
  intro m
  induction m with
  | zero => intro R i q _ h; exact nomatch h
  | succ m ih =>
    intro R i q hW h
    rw [rdl] at h
    by_cases c : R ≠ [] ∧ (T i).1 = 0
    · rw [if_pos c] at h
      have := Sum.inr.inj h
      rw [← this]
      exact ⟨c.2, hW⟩
    · rw [if_neg c] at h
      obtain ⟨i1, r, e, h⟩ := nrB_inr h
      exact ih (R ++ [r]) i1 q (stm_wr hT hF hW e).1 h
theorem rdx_end {y : Nat × List SR} (hn : n ≤ 20000) (h : rdx (tkT t n) FF (n + 1) = .inr y) : y.1 = tln t n ∧ (tkT t n (tln t n)).1 = 0 ∧ WR (tkT t n) FF (tln t n) y.2 (tln t n) := by
  have ff : FF = 160008 := rfl
  obtain ⟨tl1, tl2, tl3⟩ := tln_ok t n
  unfold rdx at h
  cases e : rdl (tkT t n) FF (n + 1) [] 0 with
  | inl z => rw [e] at h; exact nomatch h
  | inr z =>
    rw [e] at h
    dsimp only at h
    by_cases c : tcR z.2 1 = 0 ∨ 20000000 < plR z.2 * z.1
    · rw [if_pos c] at h; exact nomatch h
    · rw [if_neg c] at h
      have := Sum.inr.inj h
      obtain ⟨a, b⟩ := rdl_end ⟨tl2, tl3⟩ (by omega) _ _ _ _ WR_nil e
      rw [this] at a b
      have le := b.2.2.2.2.2.2.2
      have : y.1 = tln t n := by
        by_cases u : y.1 < tln t n
        · exact absurd a (tl2 _ u).1
        · omega
      rw [this] at a b
      exact ⟨this, a, b⟩
/-- the reference's part -/
theorem c_problemM {K : Int32 → VH → Prop} (hE : eFr E) (h0 : 230 < d) (n20 : n ≤ 20000) (tp : vI V 6 0 1 = nI n) (ht : ∀ i, i < n → bt (vI V 6 1) i = bt t i)
    (hk0 : (∀ q, q < 4 → ¬ vI V 6 2 q = 0) → K (-100000) V)
    (hkf : ∀ q, q < 4 → vI V 6 2 q = 0 → (∀ q', q' < q → ¬ vI V 6 2 q' = 0) → ∀ e, rdx (tkT t n) FF (n + 1) = .inl e → ∀ V', Fc V V' (mpS q) → vI V' 6 0 1 = 0 → vI V' 6 0 4 = nI e.1 → vI V' 6 33 q = vI V 6 33 q + 1 → vI V' 6 2 q = 0 → K (-1 - nI e.2) V')
    (hky : ∀ q, q < 4 → vI V 6 2 q = 0 → (∀ q', q' < q → ¬ vI V 6 2 q' = 0) → ∀ R, rdx (tkT t n) FF (n + 1) = .inr (tln t n, R) → ∀ V', Fc V V' (mpS q) → vI V' 6 0 1 = 0 → vI V' 6 0 4 = 0 → vI V' 6 33 q = vI V 6 33 q + 1 → ¬ vI V' 6 2 q = 0 → MrR V' q t n R → K (nI q) V') : vMI E d M_X12_problem [sl 6 0] V K := by
  have ff : FF = 160008 := rfl
  refine w_X12_problem_0 (by omega) (c_freeSlot (fun z => ⟨fun y => absurd rfl y, fun _ => hk0 z⟩) (fun q hq z1 z2 => ⟨fun _ => ?_, fun y => ?_⟩))
  · have go : ∀ (m i : Nat) (W : VH), i + m = n → Fc V W (fun a f j => a = 6 ∧ f = 3 ∧ 20000 * q ≤ j ∧ j < 20000 * q + 20000) → (∀ k, k < i → bt (vI W 6 3) (20000 * q + k) = bt t k) → vwp E d M_X12_problem 15 [some (sl 6 0), some (wi (nI q)), some (wi (nI i))] [] W (zi K) := by
      intro m
      induction m with
      | zero =>
        intro i W e fW hX
        have : i = n := by omega
        subst this
        have i1 : vI W 6 0 1 = nI i := by rw [fW.i (fun y => by have := y.2; omega)]; exact tp
        have u2 : vI W 6 2 q = 0 := by rw [fW.i (fun y => by have := y.2; omega)]; exact z1
        refine w_X12_problem_15 (by omega) ?_
        rw [i1, nI_clamp (show q < 2 ^ 31 by omega)]
        have vp : vp_in (nI q) 5 := vp_in_nI (by omega) (by decide)
        refine ⟨fun _ => ⟨vp, fun V2 e2 V3 e3 => ?_⟩, fun y => absurd (nI_le (Nat.le_refl _) (by omega)) y⟩
        have k3 : Fc W V3 (fun a f j => a = 6 ∧ (f = 4 ∧ j = q ∨ f = 0 ∧ j = 1)) := by rw [e3, e2]; exact (Fc_wrI ⟨rfl, by omega⟩).trans (Fc_wrI ⟨rfl, by omega⟩)
        have x3 : TxM V3 q t i := fun k hk => by
          rw [show vI V3 6 3 = vI W 6 3 from funext fun j => k3.i (fun y => by have := y.2; omega)]
          exact hX k hk
        have l3 : vI V3 6 4 q = nI i := by rw [e3, wrI_ne (fun z => by omega), e2, wrI_at]
        have s3 : vI V3 6 33 q = vI V 6 33 q := by rw [k3.i (fun y => by have := y.2; omega), fW.i (fun y => by have := y.2; omega)]
        have kV3 : Fc V V3 (mpS q) := (fW.mono (fun a f j y => ⟨y.1, Or.inr (Or.inr (Or.inr (by
          obtain ⟨_, rfl, y1, y2⟩ := y
          exact ⟨by decide, by decide, y1, y2⟩)))⟩)).trans (k3.mono (fun a f j y => ⟨y.1, by
          rcases y.2 with ⟨rfl, rfl⟩ | ⟨rfl, rfl⟩
          · exact Or.inr (Or.inr (Or.inr ⟨by decide, by decide, by show 1 * j ≤ j; omega, by show j < 1 * j + 1; omega⟩))
          · exact Or.inl ⟨rfl, Or.inl rfl⟩⟩))
        have n1 : ∀ {W' : VH}, Fc V3 W' (rdM q) → vI W' 6 0 1 = 0 ∧ vI W' 6 2 q = 0 := fun {W'} k => ⟨by
          rw [k.i (fun y => by rcases y with ⟨_, y⟩ | ⟨_, y⟩ | ⟨_, y⟩ <;> omega), e3, wrI_at], by
          rw [k.i (fun y => by rcases y with ⟨_, y⟩ | ⟨_, y⟩ | ⟨_, y⟩ <;> omega), k3.i (fun y => by have := y.2; omega)]; exact u2⟩
        refine m_readT hE (by omega) (by omega) n20 x3 l3 (F := FF) (by omega) (fun e he V4 k4 wr st V6 e6 => ?_) (fun y hy V4 k4 st z45 nm kp md sp i9 i29 i17 V6 e6 => ?_)
        · rw [wr.1] at e6
          obtain ⟨a1, a2⟩ := n1 k4
          refine ⟨fun y => absurd rfl y, fun _ => ?_⟩
          rw [show vI V6 6 0 46 = nI e.2 by rw [e6, wrI_ne (fun z => by omega)]; exact wr.2.2.2]
          refine hkf q hq z1 z2 e he V6 ((kV3.trans (k4.mono (fun a f j y => rdM_mp y))).trans (by rw [e6]; exact Fc_wrI ⟨rfl, Or.inl ⟨rfl, by omega⟩⟩)) ?_ ?_ ?_ ?_
          · rw [e6, wrI_ne (fun z => by omega)]; exact a1
          · rw [e6, wrI_at]
          · rw [e6, wrI_ne (fun z => by omega), st, s3]
          · rw [e6, wrI_ne (fun z => by omega)]; exact a2
        · rw [z45] at e6
          obtain ⟨a1, a2⟩ := n1 k4
          refine ⟨fun _ => ⟨vp, fun V8 e8 => ?_⟩, fun y => absurd y (by decide)⟩
          have k8 : Fc V4 V8 (fun a f j => a = 6 ∧ (f = 0 ∧ j = 4 ∨ f = 2 ∧ j = q)) := by rw [e8, e6]; exact (Fc_wrI ⟨rfl, by omega⟩).trans (Fc_wrI ⟨rfl, by omega⟩)
          have ey : y.1 = tln t i := (rdx_end n20 hy).1
          have i8 : ∀ f j, 3 ≤ f → vI V8 6 f j = vI V4 6 f j := fun f j h => k8.i (fun y => by have := y.2; omega)
          have r8 : ∀ f, 3 ≤ f → vI V8 6 f = vI V4 6 f := fun f h => funext fun j => i8 f j h
          have nx : ∀ {W' : VH}, Fc V3 W' (rdM q) → vI W' 6 3 = vI V3 6 3 ∧ vI W' 6 4 q = vI V3 6 4 q := fun {W'} k => ⟨funext fun j => k.i (fun y => by rcases y with ⟨_, y⟩ | ⟨_, y⟩ | ⟨_, y⟩ <;> omega), k.i (fun y => by rcases y with ⟨_, y⟩ | ⟨_, y⟩ | ⟨_, y⟩ <;> omega)⟩
          refine hky q hq z1 z2 y.2 (by rw [hy]; exact congrArg Sum.inr (show y = (tln t i, y.2) by rw [← ey])) V8 ((kV3.trans (k4.mono (fun a f j y => rdM_mp y))).trans (k8.mono (fun a f j y => ⟨y.1, by have := y.2; omega⟩))) ?_ ?_ ?_ ?_ ?_
          · rw [k8.i (fun y => by have := y.2; omega)]; exact a1
          · rw [e8, wrI_ne (fun z => by omega), e6, wrI_at]
          · rw [i8 33 q (by decide), st, s3]
          · rw [e8, wrI_at]; decide
          · rw [ey] at kp i9
            refine ⟨fun k hk => by rw [r8 3 (by decide), (nx k4).1]; exact x3 k hk, by rw [i8 4 q (by decide), (nx k4).2]; exact l3, ?_, fun j h1 h2 => ?_, ⟨⟨fun k hk => ?_, fun v hv => ?_, fun k hk => ?_, fun k hk => ?_⟩, by rw [i8 22 q (by decide)]; exact md.2.1, by rw [i8 23 q (by decide)]; exact md.2.2⟩, ⟨by rw [i8 11 q (by decide)]; exact sp.1, fun k hk => by rw [i8 10 _ (by decide)]; exact sp.2 k hk⟩, by rw [i8 9 q (by decide)]; exact i9, by rw [i8 29 q (by decide)]; exact i29, fun v hv => by rw [i8 17 _ (by decide)]; exact i17 v hv⟩
            · unfold NmM
              rw [r8 14 (by decide), r8 12 (by decide), r8 13 (by decide), r8 3 (by decide)]
              exact nm
            · have := kp j h1 h2
              unfold KR
              rw [r8 5 (by decide), r8 6 (by decide), r8 7 (by decide), r8 8 (by decide)]
              exact this
            · rw [i8 15 _ (by decide)]; exact md.1.1 k hk
            · rw [r8 16 (by decide), r8 19 (by decide), r8 20 (by decide), r8 21 (by decide), r8 18 (by decide)]; exact md.1.2.1 v hv
            · rw [r8 24 (by decide), r8 25 (by decide), r8 26 (by decide)]; exact md.1.2.2.1 k hk
            · rw [r8 27 (by decide), r8 28 (by decide)]; exact md.1.2.2.2 k hk
      | succ m ih =>
        intro i W e fW hX
        have i1 : vI W 6 0 1 = nI n := by rw [fW.i (fun y => by have := y.2; omega)]; exact tp
        refine w_X12_problem_15 (by omega) ?_
        rw [i1, nI_clamp (show i < 2 ^ 31 by omega), i20k, nI_clamp (show 20000 * q + i < 2 ^ 31 by omega)]
        refine ⟨fun y => absurd y (nI_ge (by omega) (by omega)), fun _ => ⟨vp_in_nI (by omega) (by decide), vp_in_nI (by omega) (by decide), fun V11 e11 => ?_⟩⟩
        rw [nI_1]
        refine ih (i + 1) V11 (by omega) (fW.trans (by rw [e11]; exact Fc_wrI ⟨rfl, rfl, by omega, by omega⟩)) (fun k hk => ?_)
        by_cases c : k = i
        · subst c
          have : bt (vI V11 6 3) (20000 * q + k) = bt (fun _ => i2b (vI W 6 1 k)) 0 := by unfold bt; rw [e11, wrI_at]
          rw [this, bt_i2b]
          have : vI W 6 1 = vI V 6 1 := funext fun j => fW.i (fun y => by have := y.2; omega)
          rw [this]
          exact ht k (by omega)
        · have : bt (vI V11 6 3) (20000 * q + k) = bt (vI W 6 3) (20000 * q + k) := by unfold bt; rw [e11, wrI_ne (fun z => by omega)]
          rw [this]
          exact hX k (by omega)
    exact go n 0 V (by omega) Fc.refl (fun k hk => absurd hk (Nat.not_lt_zero k))
  · have := (nI_eq (b := 4) (by omega) (by decide)).mp y
    omega
/-- one problem is read anew -/
theorem PbJ.rw {V W : VH} {q : Nat} (h : PbJ V q) (hl : vL W (q + 1) = vL V (q + 1)) (hg : ∀ f, vN W (q + 1) f = vN V (q + 1) f ∧ vI W (q + 1) f = vI V (q + 1) f ∧ vJ W (q + 1) f = vJ V (q + 1) f) (h6 : ∀ f, vI W 6 f = vI V 6 f ∧ vJ W 6 f = vJ V 6 f) : PbJ W q := by
  have c : ∀ f, vI W (q + 1) f = vI V (q + 1) f := fun f => (hg f).2.1
  have cn : ∀ f, vN W (q + 1) f = vN V (q + 1) f := fun f => (hg f).1
  have cj : ∀ f, vJ W (q + 1) f = vJ V (q + 1) f := fun f => (hg f).2.2
  have m : ∀ f, vI W 6 f = vI V 6 f := fun f => (h6 f).1
  have mj : ∀ f, vJ W 6 f = vJ V 6 f := fun f => (h6 f).2
  rcases h with ⟨a, b⟩ | ⟨t, n, R, nt, fa, h, x, cs, hs, hc, hm, ⟨l1, l2⟩, fu, tb, ch, px⟩
  · exact Or.inl ⟨by rw [m]; exact a, fun z => by rw [c]; rw [hl] at z; exact b z⟩
  · refine Or.inr ⟨t, n, R, nt, fa, h, x, cs, hs, hc.fr hl (fun f _ => cn f) (fun f j _ => by rw [c]) (fun j => by rw [cj]), hm.fr hs (fun f j z _ => by rw [m]), ⟨by rw [c]; exact l1, by rw [m]; exact l2⟩, fu.ex (hs.2.2.2.1.1 0 (by decide)) (fun f j _ => by rw [c]) (fun f j z _ _ => by rw [m]), ?_, fun e1 e2 => ?_, px⟩
    · rcases tb with z | ⟨z1, z2⟩
      · exact Or.inl (by rw [c]; exact z)
      · exact Or.inr ⟨z1.ex (fun f _ => cn f) (fun j => by rw [c]) (fun j => by rw [cj]), by rw [c]; exact z2⟩
    · rw [m] at e1
      rw [m, m] at e2
      exact Wq.ex (ch e1 e2) (fun f j hf => by rw [m]) (fun j => by rw [mj])
theorem StJ.rw {V W : VH} (h : StJ V) (hl : vL W 0 = vL V 0) (z : ∀ f, 23 ≤ f → f ≤ 26 → vN W 0 f = vN V 0 f ∧ vI W 0 f = vI V 0 f) (m : ∀ f, vI W 6 f = vI V 6 f) : StJ W := by
  obtain ⟨c, l, en, ⟨a1, a2, a3⟩, ⟨⟨d1, d2, d3, d4, d5⟩, b2, b3⟩, ⟨c1, c2, c3, c4⟩, e⟩ := h
  have z' : ∀ f, 23 ≤ f → f ≤ 26 → vI W 0 f = vI V 0 f := fun f h1 h2 => (z f h1 h2).2
  have n25 : vN W 0 (24 + 1) = vN V 0 (24 + 1) := (z 25 (by decide) (by decide)).1
  refine ⟨c, l, en, ⟨by rw [z' 23 (by decide) (by decide)]; exact a1, by rw [m]; exact a2, a3⟩, ⟨⟨⟨by rw [hl]; exact d1.1, d1.2⟩, by rw [z' 24 (by decide) (by decide)]; exact d2, by rw [n25]; exact d3, by rw [n25]; exact d4, by rw [n25]; exact d5⟩, ⟨by rw [m]; exact b2.1, b2.2⟩, fun i hi => by rw [m, z' 25 (by decide) (by decide)]; exact b3 i hi⟩, ⟨c1, c2, fun i hi => by rw [z' 26 (by decide) (by decide), z' 25 (by decide) (by decide)]; exact c3 i hi, fun i hi => by rw [m]; exact c4 i hi⟩, ?_⟩
  rw [z' 23 (by decide) (by decide), m]
  exact e
theorem JS.pr (hJ : JS B V) (hq : q < 4) (pc : PcF V V1 q) (k : Fc V1 V2 (mpS q)) (tp : TpJ V2) (bd : vI V2 0 28 9 = vI V2 6 0 4) (bt : ∃ n, Byt V1 (q + 1) 1 n) (st : vI V2 6 33 q = vI V1 6 33 q + 1) (hp : PbJ V2 q) (hW : WF V2) : JS (B + 1) V2 := by
  obtain ⟨a1, a2, ⟨_, _, a15⟩, a4, a5, a6, a7, a8, a9⟩ := hJ
  obtain ⟨p1, p2, p3, ⟨cap, p4⟩, ⟨p5, p6⟩, p7, p8⟩ := pc
  have g0 : q + 1 ≠ 0 := by omega
  have g6 : q + 1 ≠ 6 := by omega
  have r6 : ∀ f, vN V1 6 f = vN V 6 f ∧ vI V1 6 f = vI V 6 f ∧ vJ V1 6 f = vJ V 6 f := fun f => p2 6 f (by omega) (by omega)
  have of0 : ∀ f j, ofQ q f j → f ≠ 0 := fun f j y z => by have := y.1; omega
  have i6 : ∀ j, ¬ (j = 1 ∨ j = 4 ∨ 37 ≤ j ∧ j ≤ 61) → vI V2 6 0 j = vI V 6 0 j := fun j z => by
    rw [k.i (fun y => by rcases y.2 with y | y | y | y; exact z y.2; omega; omega; exact of0 _ _ y rfl), (r6 0).2.1]
  have j6 : ∀ j, ¬ (j = 1 ∨ j = 4 ∨ 37 ≤ j ∧ j ≤ 61) → vJ V2 6 0 j = vJ V 6 0 j := fun j z => by
    rw [k.j (fun y => by rcases y.2 with y | y | y | y; exact z y.2; omega; omega; exact of0 _ _ y rfl), (r6 0).2.2]
  have n06 : ∀ a f j, mpS q a f j → a = 6 := fun a f j y => y.1
  have st2 : StpJ B V1 := by
    obtain ⟨s, c, b1, b2, b3, b4⟩ := a7
    exact ⟨s, c, fun u hu => by rw [(r6 33).2.1]; exact b1 u hu, by rw [(r6 0).2.1]; exact b2, b3, fun u hu e => b4 u hu (by rw [(r6 0).2.1] at e; exact e)⟩
  have tk : TkN V2 cap := p4.fc k
  have sj : StJ V2 := (a5.rw (by rw [p1, if_neg (by omega)]) (fun f h1 h2 => ⟨(p2 0 f (by omega) (by omega)).1, (p2 0 f (by omega) (by omega)).2.1⟩) (fun f => (r6 f).2.1)).ex k (fun f j h1 h2 y => absurd y.1 (by decide)) (fun j hj y => by rcases y.2 with y | y | y | y; omega; omega; omega; exact of0 _ _ y rfl) (fun f j hf y => by rcases y.2 with y | y | y | y; omega; omega; omega; have := y.2.1; omega)
  have gr : GrJ V2 := by
    have e : V2.2.2.1 = V1.2.2.1 := k.2.2.1
    refine ⟨fun g h1 h2 h3 => ?_, fun g h1 h2 h3 => ?_⟩
    · rw [k.l, p1] at h3
      have eP : vP V2 = q + 1 := by rw [← p7]; unfold vP; rw [e]
      have eQ : vQ V2 = q + 1 := by rw [← p8]; unfold vQ; rw [e]
      have : g ≠ q + 1 := fun z => h3 (if_pos z)
      rw [eP, eQ]
      exact ⟨fun z => this z.symm, fun z => this z.symm⟩
    · by_cases c : g = q + 1
      · subst c
        obtain ⟨n, b⟩ := bt
        refine ⟨by unfold CpS; rw [k.n]; exact p5, by unfold TbN; rw [k.n]; exact p6, n, b.fc2 k (fun y => g6 y.1)⟩
      · rw [k.l, p1, if_neg c] at h3
        obtain ⟨c1, c2, l, c3⟩ := a6.2 g h1 h2 h3
        have r : ∀ f, vN V2 g f = vN V g f := fun f => by rw [k.n, (p2 g f c (by omega)).1]
        refine ⟨by unfold CpS; rw [r, r]; exact c1, by unfold TbN; rw [r, r, r]; exact c2, l, ?_⟩
        obtain ⟨d1, d2, d3, d4, d5⟩ := c3
        exact ⟨⟨by rw [k.l, p1, if_neg c]; exact d1.1, d1.2⟩, by rw [k.i (fun y => by have := y.1; omega), (p2 g 1 c (by omega)).2.1]; exact d2, by rw [r]; exact d3, by rw [r]; exact d4, by rw [r]; exact d5⟩
  refine ⟨tp, ⟨bd, ?_, ?_⟩, ⟨cap, tk, by rw [k.n, (p2 0 15 (by omega) (by omega)).1]; exact a15⟩, ?_, sj, gr, ?_, CapOK.js hW tp tk sj gr ?_, fun q' hq' => ?_⟩
  · rw [k.j (fun y => absurd y.1 (by decide)), p3, j6 2 (by omega)]; exact a2.2.1
  · rw [k.j (fun y => absurd y.1 (by decide)), p3, j6 3 (by omega)]; exact a2.2.2
  · unfold SeJ
    have i0 : ∀ j, vI V2 0 16 j = vI V 0 16 j := fun j => by rw [k.i (fun y => absurd y.1 (by decide)), (p2 0 16 (by omega) (by omega)).2.1]
    rw [i0, i0, i0, i0, i6 76 (by omega), i6 77 (by omega), i6 78 (by omega), i6 79 (by omega)]
    exact a4
  · obtain ⟨s, c, b1, b2, b3, b4⟩ := st2
    refine ⟨fun u => if u = q then s q + 1 else s u, c, fun u hu => ?_, by rw [i6 63 (by omega), ← (r6 0).2.1]; exact b2, by omega, fun u hu z => ?_⟩
    · dsimp only
      by_cases w : u = q
      · subst w; rw [if_pos rfl, st, (b1 u hu).1, nI_1]; exact ⟨rfl, by have := (b1 u hu).2; omega⟩
      · rw [if_neg w, k.i (fun y => by
          rcases y.2 with y | y | y | y
          · omega
          · omega
          · omega
          · have y1 : 1 * q ≤ u := y.2.2.1
            have y2 : u < 1 * q + 1 := y.2.2.2
            omega)]
        exact ⟨(b1 u hu).1, by have := (b1 u hu).2; omega⟩
    · have := b4 u hu (by rw [i6 62 (by omega), ← (r6 0).2.1] at z; exact z)
      dsimp only
      by_cases w : u = q
      · subst w; rw [if_pos rfl]; omega
      · rw [if_neg w]; exact this
  · rw [k.n, (p2 0 15 (by omega) (by omega)).1]
    exact a8 0 15 (by
      have := hW.1.1
      rw [k.l, p1, if_neg (by omega)] at this
      exact this) (by decide) (by decide)
  · by_cases w : q' = q
    · subst w; exact hp
    · refine ((a9 q' hq').rw (by rw [p1, if_neg (by omega)]) (fun f => p2 (q' + 1) f (by omega) (by omega)) (fun f => (r6 f).2)).fc hq' k (fun a f j y z => ?_) (Or.inl (fun a f j y z => ?_))
      · obtain ⟨rfl, y⟩ := y
        rcases z with z | ⟨_, ⟨z1, z2⟩ | z⟩
        · omega
        · rcases y with y | y | y | y
          · omega
          · omega
          · omega
          · have := y.1; omega
        · rcases y with y | y | y | y
          · have := z.1; omega
          · have := z.1; omega
          · have := z.2.1; omega
          · exact ofQ_ne (Ne.symm w) y z
      · obtain ⟨_, z⟩ := z
        rcases y.2 with y | y | y | y
        · omega
        · omega
        · omega
        · have := y.1; have := y.2.1; omega
end
