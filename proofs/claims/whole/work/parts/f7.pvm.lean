/-! prove: the reference prints -/
/-- trees behind the first sign -/
def brR (T : List Nat) : Nat → List Nat
  | 0 => []
  | k + 1 => brR T k ++ (if k = 0 then T else 44 :: T)
theorem brR_L (T : List Nat) : ∀ k, 40 :: brR T (k + 1) = brL T (k + 1) := by
  intro k
  induction k with
  | zero => rw [brR, brR, brL, brL]; rfl
  | succ k ih =>
    rw [brR, if_neg (Nat.succ_ne_zero k), brL, if_neg (Nat.succ_ne_zero k), ← ih]
    rfl
theorem brR_pre (T : List Nat) {s : Nat} : ∀ r k, k + r = s → ∃ M, brR T s = brR T k ++ M := by
  intro r
  induction r with
  | zero => intro k e; have : k = s := by omega
            subst this; exact ⟨[], by rw [List.append_nil]⟩
  | succ r ih =>
    intro k e
    obtain ⟨M, h⟩ := ih (k + 1) (by omega)
    exact ⟨(if k = 0 then T else 44 :: T) ++ M, by rw [h, brR, List.append_assoc]⟩
section
variable {E : EE} {d : Nat} {V V' V1 V2 : VH} {q g B c : Nat} {t : Nat → Int32} {n : Nat} {R : List SR} {nt fa : Nat → Int32} {h : Nat} {x : Int32} {cs : Nat → Int32} {ln ad : Nat → Nat} {nf : Nat → Nat → Nat}
def plS (c a f j : Nat) : Prop := a = 6 ∧ (f = 0 ∧ j = 84 ∨ f = 58 ∧ c ≤ j)
/-- the reference's print has grown by L, up to its room -/
def PLs (V V' : VH) (c : Nat) (L : List Nat) : Prop := Fc V V' (plS c) ∧ vI V' 6 0 84 = nI (min (c + L.length) 20001) ∧ ∀ j, j < L.length → c + j ≤ 20000 → vI V' 6 58 (c + j) = i2b (nI (L.getD j 0))
theorem PLs.trans {L M : List Nat} (hc : c ≤ 20001) (h : PLs V V1 c L) (k : PLs V1 V2 (min (c + L.length) 20001) M) : PLs V V2 c (L ++ M) := by
  obtain ⟨h1, h2, h3⟩ := h
  obtain ⟨k1, k2, k3⟩ := k
  refine ⟨h1.trans (k1.mono (fun a f j y => ⟨y.1, by have := y.2; omega⟩)), ?_, fun j hj hc => ?_⟩
  · rw [k2, List.length_append]
    congr 1
    omega
  · rw [List.length_append] at hj
    by_cases u : j < L.length
    · rw [k1.i (fun y => by have := y.2; omega), h3 j u hc, gDn_l u]
    · obtain ⟨i, rfl⟩ : ∃ i, j = L.length + i := ⟨j - L.length, by omega⟩
      have := k3 i (by omega) (by omega)
      rw [show min (c + L.length) 20001 = c + L.length by omega] at this
      rw [← Nat.add_assoc, this, gDn_r]
theorem PLs.cut {L M : List Nat} (h : PLs V V1 c L) (hc : 20001 ≤ c + L.length) : PLs V V1 c (L ++ M) := by
  obtain ⟨h1, h2, h3⟩ := h
  refine ⟨h1, by rw [h2, List.length_append]; congr 1; omega, fun j hj hc => ?_⟩
  rw [h3 j (by omega) hc, gDn_l (by omega)]
theorem c_prints {y : Int32} {b : Nat} {K : VH → Prop} (hc : c ≤ 20001) (h84 : vI V 6 0 84 = nI c) (hy : i2b (i2b y) = i2b (nI b)) (hk : ∀ V', PLs V V' c [b] → K V') : vMV E d M_X12_prints [sl 6 0, wi y] V K := by
  have one : ([b] : List Nat).length = 1 := rfl
  refine w_X12_prints_0 ?_
  rw [h84]
  refine ⟨fun z => hk V ⟨Fc.refl, ?_, fun j hj hc => ?_⟩, fun z => ?_⟩
  · have : 20000 < c := Nat.lt_of_not_le (fun u => absurd (nI_le (b := 20000) u (by decide)) (Int32.not_le.mpr z))
    rw [h84, one]; congr 1; omega
  · have : 20000 < c := Nat.lt_of_not_le (fun u => absurd (nI_le (b := 20000) u (by decide)) (Int32.not_le.mpr z))
    omega
  · have c2 : c ≤ 20000 := Nat.le_of_not_lt (fun u => z (Int32.not_le.mp (nI_ge (b := c) (a := 20000) u (by omega))))
    rw [nI_clamp (show c < 2 ^ 31 by omega)]
    refine ⟨vp_in_nI (by omega) (by decide), fun V2 e2 V3 e3 => ?_⟩
    have g84 : vI V2 6 0 84 = nI c := by rw [e2, wrI_ne (fun z => by omega)]; exact h84
    rw [g84, nI_1] at e3
    have f2 : Fc V V2 (plS c) := by rw [e2]; exact Fc_wrI ⟨rfl, by omega⟩
    have f3 : Fc V2 V3 (plS c) := by rw [e3]; exact Fc_wrI ⟨rfl, by omega⟩
    refine hk V3 ⟨f2.trans f3, by rw [e3, wrI_at, one]; congr 1; omega, fun j hj _ => ?_⟩
    have : j = 0 := by rw [one] at hj; omega
    subst this
    rw [Nat.add_zero, e3, wrI_ne (fun z => by omega), e2, wrI_at, hy]; rfl
/-- what the reference needs of a problem to print -/
def WrM (V : VH) (q : Nat) (R : List SR) (x : Int32) (ln ad : Nat → Nat) (nf : Nat → Nat → Nat) : Prop := Sq V q (tcR R 1) (szR R) (vlR R) ∧ Pq V q (tcR R 1) (tst x) ∧ ∀ v, v < tcR R 1 → vI V 6 12 (96 * q + 24 + v) = nI (ad v) ∧ vI V 6 13 (96 * q + 24 + v) = nI (ln v) ∧ ad v + ln v ≤ 20000 ∧ ∀ j, j < ln v → bt (vI V 6 3) (20000 * q + ad v + j) = nf v j
theorem WrM.fc {L : List Nat} (h : WrM V q R x ln ad nf) (k : PLs V V' c L) : WrM V' q R x ln ad nf := by
  obtain ⟨h1, h2, h3⟩ := h
  have i : ∀ f j, f ≠ 0 → f ≠ 58 → vI V' 6 f j = vI V 6 f j := fun f j z1 z2 => k.1.i (fun y => by have := y.2; omega)
  have r3 : vI V' 6 3 = vI V 6 3 := funext fun j => i 3 j (by decide) (by decide)
  exact ⟨h1.fc k.1 (fun f j y z => by have := z.2; omega), fun v hv => by rw [i 21 _ (by decide) (by decide)]; exact h2 v hv, fun v hv => by rw [i 12 _ (by decide) (by decide), i 13 _ (by decide) (by decide), r3]; exact h3 v hv⟩
theorem c_ptree (hN : NmV R ln nf) : ∀ (m : Nat) (d : Nat) (V : VH) (c : Nat) (x2 : Int32) (K : VH → Prop), m + 3 < d → m ≤ tcR R 1 → WrM V q R x ln ad nf → c ≤ 20001 → vI V 6 0 84 = nI c → (∀ V', PLs V V' c (trL (szR R) (tst x) ln nf (tcR R 1) m) → K V') → vwp E d M_X12_print 2 [some (sl 6 0), some (wi (nI q)), some (wi x2), some (wi (nI (tcR R 1 - m))), none, none] [] V (zv K) := by
  intro m
  induction m with
  | zero =>
    intro d V c x2 K h0 hm hw hc h84 hk
    have n12 := hw.1.2.2.1
    refine w_X12_print_2 (by omega) (c_vars hw.1 ⟨fun _ => w_X12_print_31 (by omega) (c_vars hw.1 ⟨fun z => absurd rfl z, fun _ => c_prints (b := 46) hc h84 (by decide) hk⟩), fun z => absurd (nI_le (Nat.le_refl _) (by omega)) z⟩)
  | succ m ih =>
    intro d V c x2 K h0 hm hw hc h84 hk
    have n12 := hw.1.2.2.1
    have q5 := hw.1.1
    generalize ev : tcR R 1 - (m + 1) = v at *
    have hv : v < tcR R 1 := by omega
    have ev1 : tcR R 1 - m = v + 1 := by omega
    rw [ev1] at ih
    obtain ⟨n1, n8, nb, ne⟩ := hN v hv
    obtain ⟨w12, w13, wl, wb⟩ := hw.2.2 v hv
    have px := hw.2.1 v hv
    have s20 := hw.1.2.2.2.2.2 v hv
    refine w_X12_print_2 (by omega) (c_vars hw.1 ⟨fun z => absurd z (nI_ge hv (by omega)), fun _ => ?_⟩)
    rw [i12, nI_clamp (show 12 * q + v < 2 ^ 31 by omega)]
    refine ⟨vp_in_nI (by omega) (by decide), fun z => ?_, fun z => ?_⟩
    · have cf := px.mp z
      have tt := trL_t (sz := szR R) (fx := tst x) (ln := ln) (nf := nf) (nv := tcR R 1) (m := m) (by rw [ev]; exact cf)
      rw [ev] at tt
      rw [tt] at hk
      generalize eT : trL (szR R) (tst x) ln nf (tcR R 1) m = T at *
      have e96 : (96 : Int32) * nI q + 24 + nI v = nI (96 * q + 24 + v) := by rw [show (96 : Int32) = nI 96 from rfl, show (24 : Int32) = nI 24 from rfl, nI_mul, nI_add, nI_add]
      refine w_X12_print_31 (by omega) (c_vars hw.1 ⟨fun _ => ?_, fun y => absurd ((nI_eq (by omega) (by omega)).mp y) (by omega)⟩)
      rw [e96]
      -- behind the branches
      have last : ∀ (W : VH) (x5 : Int32), PLs V W c (nmL ln nf v ++ (40 :: brR T (szR R v))) → vwp E d M_X12_print 164 [some (sl 6 0), some (wi (nI q)), some (wi x2), some (wi (nI v)), some (wi (nI (96 * q + 24 + v))), some (wi x5)] [] W (zv K) := fun W x5 kw => by
        refine w_X12_print_164 (by omega) (c_prints (b := 41) (by omega) kw.2.1 (by decide) (fun W1 k1 => hk W1 ?_))
        have := kw.trans hc k1
        obtain ⟨s, es⟩ : ∃ s, szR R v = s + 1 := ⟨szR R v - 1, by have := s20.2.1; omega⟩
        rw [es, brR_L, ← es, List.append_assoc] at this
        exact this
      have go : ∀ r k W, k + r = szR R v → PLs V W c (nmL ln nf v ++ (40 :: brR T k)) → vwp E d M_X12_print 113 [some (sl 6 0), some (wi (nI q)), some (wi x2), some (wi (nI v)), some (wi (nI (96 * q + 24 + v))), some (wi (nI k))] [] W (zv K) := by
        intro r
        induction r with
        | zero =>
          intro k W ek kw
          have : k = szR R v := by omega
          subst this
          have sw := (hw.fc kw).1.2.2.2.2.2 v hv
          refine w_X12_print_113 (by omega) ?_
          rw [i12, nI_clamp (show 12 * q + v < 2 ^ 31 by omega), sw.1]
          exact ⟨vp_in_nI (by omega) (by decide), fun _ => last W _ kw, fun z => absurd (nI_le (Nat.le_refl _) (by omega)) z⟩
        | succ r ihr =>
          intro k W ek kw
          have sw := (hw.fc kw).1.2.2.2.2.2 v hv
          have tree : ∀ W1 L, PLs V W1 c L → (∀ W2, PLs V W2 c (L ++ T) → PLs V W2 c (nmL ln nf v ++ (40 :: brR T (k + 1)))) → vwp E d M_X12_print 150 [some (sl 6 0), some (wi (nI q)), some (wi x2), some (wi (nI v)), some (wi (nI (96 * q + 24 + v))), some (wi (nI k))] [] W1 (zv K) := fun W1 L k1 hL => by
            refine w_X12_print_150 (by omega) ?_
            rw [nI_1]
            refine w_X12_print_0 (ih (d - 1) W1 _ _ _ (by omega) (by omega) (hw.fc k1) (by omega) k1.2.1 (fun W2 k2 => ?_))
            rw [nI_1]
            exact ihr (k + 1) W2 (by omega) (hL W2 (k1.trans hc k2))
          refine w_X12_print_113 (by omega) ?_
          rw [i12, nI_clamp (show 12 * q + v < 2 ^ 31 by omega), sw.1, kw.2.1]
          refine ⟨vp_in_nI (by omega) (by decide), fun z => absurd z (nI_ge (by omega) (by omega)), fun _ => ⟨fun z => ?_, fun z => ⟨fun y => ?_, fun y => c_prints (b := 44) (by omega) kw.2.1 (by decide) (fun W1 k1 => tree W1 _ (kw.trans hc k1) (fun W2 k2 => ?_))⟩⟩⟩
          · have big : 20000 < min (c + (nmL ln nf v ++ (40 :: brR T k)).length) 20001 := Nat.lt_of_not_le (fun u => absurd (nI_le (b := 20000) u (by decide)) (Int32.not_le.mpr z))
            obtain ⟨M, eM⟩ := brR_pre T (s := szR R v) (r + 1) k (by omega)
            refine last W _ ?_
            have := kw.cut (M := M) (by omega)
            rw [eM]
            rw [show nmL ln nf v ++ (40 :: (brR T k ++ M)) = (nmL ln nf v ++ (40 :: brR T k)) ++ M by simp]
            exact this
          · have k0 : k = 0 := by
              by_cases u : k = 0
              · exact u
              · exact absurd y (nI_ge (b := k) (a := 0) (by omega) (by omega))
            refine tree W _ kw (fun W2 k2 => ?_)
            rw [show brR T (k + 1) = brR T k ++ T by rw [brR, if_pos k0]]
            rw [show nmL ln nf v ++ (40 :: (brR T k ++ T)) = (nmL ln nf v ++ (40 :: brR T k)) ++ T by simp]
            exact k2
          · have k0 : k ≠ 0 := fun u => y (by rw [u]; decide)
            rw [show brR T (k + 1) = brR T k ++ 44 :: T by rw [brR, if_neg k0]]
            rw [show nmL ln nf v ++ (40 :: (brR T k ++ 44 :: T)) = ((nmL ln nf v ++ (40 :: brR T k)) ++ [44]) ++ T by simp]
            exact k2
      -- the name
      have name : ∀ r i W, i + r = ln v → PLs V W c ((List.range i).map (nf v)) → vwp E d M_X12_print 61 [some (sl 6 0), some (wi (nI q)), some (wi x2), some (wi (nI v)), some (wi (nI (96 * q + 24 + v))), some (wi (nI i))] [] W (zv K) := by
        intro r
        induction r with
        | zero =>
          intro i W ei kw
          have : i = ln v := by omega
          subst this
          have ww := (hw.fc kw).2.2 v hv
          refine w_X12_print_61 (by omega) ?_
          rw [nI_clamp (show 96 * q + 24 + v < 2 ^ 31 by omega), ww.2.1]
          refine ⟨vp_in_nI (by omega) (by decide), fun _ => c_prints (b := 40) (by omega) kw.2.1 (by decide) (fun W1 k1 => go (szR R v) 0 W1 (Nat.zero_add _) (kw.trans hc k1)), fun z => absurd (nI_le (Nat.le_refl _) (by omega)) z⟩
        | succ r ihr =>
          intro i W ei kw
          have ww := (hw.fc kw).2.2 v hv
          refine w_X12_print_61 (by omega) ?_
          have e20 : (20000 : Int32) * nI q + nI (ad v) + nI i = nI (20000 * q + ad v + i) := by rw [show (20000 : Int32) = nI 20000 from rfl, nI_mul, nI_add, nI_add]
          rw [nI_clamp (show 96 * q + 24 + v < 2 ^ 31 by omega), ww.2.1, ww.1, e20, nI_clamp (show 20000 * q + ad v + i < 2 ^ 31 by omega)]
          have bi := ww.2.2.2 i (by omega)
          refine ⟨vp_in_nI (by omega) (by decide), fun z => absurd z (nI_ge (by omega) (by omega)), fun _ => ⟨vp_in_nI (by omega) (by decide), vp_in_nI (by omega) (by decide), c_prints (b := nf v i) (by omega) kw.2.1 (i2b_ii (by rw [bt_nI, bi]) (nb i (by omega)).2) (fun W1 k1 => ?_)⟩⟩
          rw [nI_1]
          refine ihr (i + 1) W1 (by omega) ?_
          rw [List.range_succ, List.map_append]
          exact kw.trans hc k1
      have p0 : PLs V V c ((List.range 0).map (nf v)) := ⟨Fc.refl, by rw [h84]; congr 1; show c = min (c + 0) 20001; omega, fun j hj => absurd hj (Nat.not_lt_zero j)⟩
      exact name (ln v) 0 V (Nat.zero_add _) p0
    · have cf : tst x v = true := by
        cases u : tst x v with
        | true => rfl
        | false => exact absurd (px.mpr u) z
      rw [trL_f (by rw [ev]; exact cf)] at hk
      rw [nI_1]
      exact ih d V c x2 K (by omega) (by omega) hw hc h84 hk
end
