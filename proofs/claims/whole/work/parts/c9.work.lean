/-! what is left: the class works it out -/
theorem pw3 : ∀ H, H < 21 → (1 : Int32) <<< (nI H &&& 31) = nI (2 ^ H) := by decide
def wkS (a f j : Nat) : Prop := a = 0 ∧ (f = 10 ∧ j = 4 ∨ f = 11 ∨ f = 12 ∨ f = 13 ∨ f = 14)
section
variable {E : EE} {d : Nat} {V V' V1 V2 : VH} {q B : Nat} {t : Nat → Int32} {n : Nat} {R : List SR} {nt fa : Nat → Int32} {h h' : Nat} {x b : Int32} {cs : Nat → Int32} {X Y : Nat → Nat → Bool}
theorem HL_idx (hs : PrS t n R nt) {r : Nat} (hr : r < tcR R 2) (h0 : lvn R r = 0) : ∃ i, i < (HL R).length ∧ (HL R).getD i 0 = r := by
  have r24 : tcR R 2 ≤ 24 := hs.2.2.2.1.1 2 (by decide)
  have m : r ∈ HL R := List.mem_filter.mpr ⟨List.mem_range.mpr (by omega), decide_eq_true ⟨hr, h0⟩⟩
  obtain ⟨i, hi, e⟩ := List.getElem_of_mem m
  exact ⟨i, hi, by rw [List.getD_eq_getElem?_getD, List.getElem?_eq_getElem hi]; exact e⟩
theorem spX_eq (ps : psR R) (e : ∀ v k, v < tcR R 1 → k < szR R v → X v k = Y v k) {r v k : Nat} (z : spX R nt fa X r v k) : spX R nt fa Y r v k := spX_mono ps (fun v k hv hk w => by rw [← e v k hv hk]; exact w) z
theorem c_workOut {K : Int32 → VH → Prop} (h0 : 5 < d) (hW : WF V) (hI : PbI V q t n R nt fa h x cs) (s : Scd V q R nt fa) (hk : ∀ V' L, Fc V V' wkS → LfC V' R L → Gfp R nt fa h x (lfX L) → clo R nt fa (lfX L) → K (nI (mX R (lfX L) (tcR R 1))) V') : vMI E d M_X1_workOut [sl 0 10, sl (q + 1) 0] V K := by
  have hs := hI.1
  have n12 := hI.v12
  have hg := hI.2.1.1
  have h12 := HL_12 hI.1 hI.2.1.2.2.2.2.1.1
  have ps : psR R := hI.sp.pos
  have sz20 : ∀ v, v < tcR R 1 → szR R v ≤ 20 := fun v hv => (hI.sp.2.2.2.2.2 v hv).2.2.1
  refine w_X1_workOut_0 hg (by omega) (c_listRules hI (fun V1 f1 l1 => ?_))
  have lrI : ∀ a f j, lrS a f j → a = 0 ∧ 7 ≤ f ∧ f ≤ 22 := fun a f j y => ⟨y.1, by have := y.2; omega⟩
  have hI1 := hI.lr f1 lrI
  have s1 := s.fz f1 (fun a f j y => y.1)
  have hv0 : vL V1 0 = true := by rw [f1.l]; exact hW.1.1
  have n288 : vN V1 0 12 = 288 := by rw [f1.n]; exact hW.2.1 0 hW.1.1 (12, 288) (by decide)
  have n11 : vN V1 0 11 = 12 := by rw [f1.n]; exact hW.2.1 0 hW.1.1 (11, 12) (by decide)
  have z11 : ∀ a f j, d11 a f j → a = 0 ∧ 7 ≤ f ∧ f ≤ 22 := fun a f j y => ⟨y.1, by have := y.2; omega⟩
  have wk : ∀ {V2}, Fc V1 V2 d11 → Fc V V2 wkS := fun f2 => (f1.mono (fun a f j y => ⟨y.1, by have := y.2; omega⟩)).trans (f2.mono (fun a f j y => ⟨y.1, by have := y.2; omega⟩))
  -- the sum
  have sum : ∀ V2 L, Fc V1 V2 d11 → LfC V2 R L → Gfp R nt fa h x (lfX L) → clo R nt fa (lfX L) → ∀ (y2 y3 : Int32), vwp E d M_X1_workOut 108 [some (sl 0 10), some (sl (q + 1) 0), some (wi y2), some (wi y3), none] [] V2 (zi K) := by
    intro V2 L f2 l2 g2 c2 y2 y3
    have hI2 := hI1.lr f2 z11
    have go : ∀ m v, v + m = tcR R 1 → vwp E d M_X1_workOut 113 [some (sl 0 10), some (sl (q + 1) 0), some (wi y2), some (wi (nI (mX R (lfX L) v))), some (wi (nI v))] [] V2 (zi K) := by
      intro m
      induction m with
      | zero =>
        intro v e
        have : v = tcR R 1 := by omega
        subst this
        exact w_X1_workOut_113 hI2.2.1.1 (by omega) ⟨fun _ => hk V2 L (wk f2) l2 g2 c2, fun z => absurd (by rw [hI2.sp.2.1]; exact nI_le (Nat.le_refl _) (by omega)) z⟩
      | succ m ih =>
        intro v e
        have hv : v < tcR R 1 := by omega
        have i := ih (v + 1) (by omega)
        refine w_X1_workOut_113 hI2.2.1.1 (by omega) ⟨fun z => absurd z (by rw [hI2.sp.2.1]; exact nI_ge hv (by omega)), fun _ => ⟨vp_in_nI (by omega) (by decide), ?_⟩⟩
        rw [nI_clamp (show v < 2 ^ 31 by omega), (l2 v hv).1]
        refine c_bitCount ?_
        have e1 : pop (L v) = cnt (lfX L v) (szR R v) := cnt_more (by have := sz20 v hv; omega) (fun k h1 _ => (l2 v hv).2 k h1)
        rw [mX_s, ← e1] at i
        rw [nI_add, nI_1]; exact i
    exact w_X1_workOut_108 hI2.2.1.1 (go (tcR R 1) 0 (Nat.zero_add _))
  -- the rounds
  have rounds : ∀ m k V2 L (w : Bool), k + m = 241 → Fc V1 V2 d11 → LfC V2 R L → Gfp R nt fa h x (lfX L) → (w = true → k + mX R (lfX L) (tcR R 1) ≤ 240) → (w = false → clo R nt fa (lfX L)) → vwp E d M_X1_workOut 85 [some (sl 0 10), some (sl (q + 1) 0), some (wi (bI w)), some (wi (nI k)), none] [] V2 (zi K) := by
    intro m
    induction m with
    | zero =>
      intro k V2 L w e f2 l2 g2 w1 w0
      have hI2 := hI1.lr f2 z11
      have wf : w = false := by
        cases w with
        | false => rfl
        | true => have := w1 rfl; omega
      refine w_X1_workOut_85 hI2.2.1.1 (by omega) ⟨fun _ => sum V2 L f2 l2 g2 (w0 wf) _ _, fun z => absurd ?_ z⟩
      rw [show k = 241 by omega]; decide
    | succ m ih =>
      intro k V2 L w e f2 l2 g2 w1 w0
      have hI2 := hI1.lr f2 z11
      refine w_X1_workOut_85 hI2.2.1.1 (by omega) ⟨fun z => absurd z (Int32.not_lt.mpr (nI_le (b := 240) (by omega) (by decide))), fun _ => ⟨fun z => sum V2 L f2 l2 g2 (w0 (bI_0.mp z)) _ _, fun z => ?_⟩⟩
      have wt := w1 (bI_1.mp z)
      refine c_drop (by omega) hv0 n288 hI1 s1 f2 h12 l1 l2 g2.1 (fun V3 L3 w3 f3 l3 t3 w30 w31 => ?_)
      rw [nI_1]
      have le : LsX R (lfX L3) (lfX L) := fun v k hv _ z => ((t3 v k hv).mp z).1
      have g3 : Gfp R nt fa h x (lfX L3) := gfp_step ps g2 le (fun v k hv hk z sp => (t3 v k hv).mpr ⟨z, fun i hi => sp _ (HL_mem hi).1 (HL_mem hi).2.2⟩)
      refine ih (k + 1) V3 L3 w3 (by omega) f3 l3 g3 (fun y => ?_) (fun y r hr h0 v k hv hk z => ?_)
      · obtain ⟨v, hv, ne⟩ := w31 y
        have := (mX_le (X := lfX L3) (Y := lfX L) (tcR R 1) (fun v k hv hk z => le v k hv hk z)).2 (by
          by_cases c : ∃ k, k < szR R v ∧ tst (L v) k = true ∧ tst (L3 v) k = false
          · obtain ⟨k, c1, c2, c3⟩ := c
            exact ⟨v, k, hv, c1, c2, c3⟩
          · refine absurd (tst_ext (fun k hk => ?_)) ne
            cases u : tst (L v) k with
            | false =>
              cases u3 : tst (L3 v) k with
              | false => rfl
              | true => rw [((t3 v k hv).mp u3).1] at u; exact Bool.noConfusion u
            | true =>
              cases u3 : tst (L3 v) k with
              | true => rfl
              | false =>
                refine absurd ⟨k, Nat.lt_of_not_le (fun y => ?_), u, u3⟩ c
                rw [(l2 v hv).2 k y] at u; exact Bool.noConfusion u)
        omega
      · obtain ⟨i, hi, ei⟩ := HL_idx hs hr h0
        have := ((t3 v k hv).mp z).2 i hi
        rw [ei] at this
        refine spX_eq ps (fun v k hv _ => ?_) this
        show tst (L v) k = tst (L3 v) k
        rw [w30 y v hv]
  -- at first
  have init : ∀ m v V2 (L : Nat → Int32), v + m = tcR R 1 → Fc V1 V2 d11 → (∀ u, u < v → vI V2 0 11 u = L u ∧ ∀ k, k < 32 → tst (L u) k = ini R h x u k) → vwp E d M_X1_workOut 7 [some (sl 0 10), some (sl (q + 1) 0), some (wi (nI v)), none, none] [] V2 (zi K) := by
    intro m
    induction m with
    | zero =>
      intro v V2 L e f2 l2
      have hI2 := hI1.lr f2 z11
      have tl : ∀ u k, u < tcR R 1 → tst (L u) k = ini R h x u k := fun u k hu => by
        by_cases c : k < 32
        · exact (l2 u (by omega)).2 k c
        · rw [tst_big _ (by omega)]
          unfold ini
          rw [decide_eq_false (by have := sz20 u hu; omega), Bool.false_and]
      have lf : LfC V2 R L := fun u hu => ⟨(l2 u (by omega)).1, fun k hk => by rw [tl u k hu]; unfold ini; rw [decide_eq_false (by omega), Bool.false_and]⟩
      have g2 : Gfp R nt fa h x (lfX L) := ⟨fun u k hu hk z => by rw [← tl u k hu]; exact z, fun G h1 _ u k hu hk z => by show tst (L u) k = true; rw [tl u k hu]; exact h1 u k hu hk z⟩
      refine w_X1_workOut_7 hI2.2.1.1 ⟨fun _ => rounds 241 0 V2 L true rfl f2 lf g2 (fun _ => ?_) (fun z => Bool.noConfusion z), fun z => absurd (by rw [hI2.sp.2.1]; exact nI_le (by omega) (by omega)) z⟩
      have := mX_240 (X := lfX L) sz20 (tcR R 1) (Nat.le_refl _)
      omega
    | succ m ih =>
      intro v V2 L e f2 l2
      have hv : v < tcR R 1 := by omega
      have hI2 := hI1.lr f2 z11
      have g2 := hI2.2.1.1
      have sv := sz20 v hv
      have dl : dgR R v h < szR R v := Dg_lt ps hv
      have next : ∀ (y t0 : Int32), (∀ k, k < 32 → tst y k = ini R h x v k) → vwp E d M_X1_workOut 74 [some (sl 0 10), some (sl (q + 1) 0), some (wi (nI v)), some (wi t0), none] [wi y, wi (nI v), sl 0 11] V2 (zi K) := fun y t0 hy => by
        refine w_X1_workOut_74 g2 ⟨by rw [f2.l]; exact hv0, by decide, rfl⟩ ?_
        rw [f2.n, n11, nI_clamp (show v < 2 ^ 31 by omega)]
        refine ⟨vp_in_nI (by omega) (by decide), fun V4 e4 => ?_⟩
        rw [nI_1]
        refine ih (v + 1) V4 (fun u => if u = v then y else L u) (by omega) (f2.trans (by rw [e4]; exact Fc_wrI ⟨rfl, Or.inl rfl⟩)) (fun u hu => ?_)
        show vI V4 0 11 u = (if u = v then y else L u) ∧ ∀ k, k < 32 → tst (if u = v then y else L u) k = ini R h x u k
        by_cases c : u = v
        · rw [if_pos c, c, e4, wrI_at]; exact ⟨rfl, hy⟩
        · rw [if_neg c, e4, wrI_ne (fun z => c z.2.2)]; exact l2 u (by omega)
      refine w_X1_workOut_7 g2 ⟨fun z => absurd z (by rw [hI2.sp.2.1]; exact nI_ge hv (by omega)), fun _ => ?_⟩
      rw [hI2.2.1.2.2.2.2.2.2.2.2.2.1]
      refine ⟨fun z => ?_, fun z => ?_⟩
      · have z := (tst_0 x (v := v) (by omega)).mp z
        refine w_X1_workOut_34 g2 (by omega) ⟨fun _ => ⟨vp_in_nI (by omega) (by decide), ?_⟩, fun y => absurd rfl y⟩
        rw [nI_clamp (show v < 2 ^ 31 by omega), (hI2.sp.2.2.2.2.2 v hv).1, pw3 _ (by omega), show (1 : Int32) = nI 1 from rfl, nI_sub (Nat.two_pow_pos _)]
        refine next _ _ (fun k hk => ?_)
        rw [tst_nI hk, Nat.testBit_two_pow_sub_one]
        unfold ini
        rw [z, Bool.not_false, Bool.true_or, Bool.and_true]
      · have z := (tst_1 x (v := v) (by omega)).mp z
        refine w_X1_workOut_34 g2 (by omega) ⟨fun y => absurd y (by decide), fun _ => ?_⟩
        rw [hI2.hnd.1]
        refine c_placeOf hI2.sp hv (by have := hI2.hnd.2; have := hI2.p20; omega) (next _ _ (fun k hk => ?_))
        have dl2 : Dg (szR R) (tcR R 1) v h < szR R v := dl
        rw [tst_one (by omega) hk]
        unfold ini
        rw [z, Bool.not_true, Bool.false_or]
        by_cases c : k = dgR R v h
        · rw [decide_eq_true (show k < szR R v by omega), Bool.true_and]
        · rw [decide_eq_false c, Bool.and_false]
  exact init (tcR R 1) 0 V1 (fun _ => 0) (Nat.zero_add _) Fc.refl (fun u hu => absurd hu (Nat.not_lt_zero u))
end
