/-! bring: the class takes rows over; the reference looks at them -/
section
variable {E : EE} {d : Nat} {V V' W W' : VH} {q g m N w e s c : Nat} {en : Nat → Nat} {b : Nat → Nat}
theorem c_announced {K : Int32 → VH → Prop} (h0 : 2 < d) (tp : Byt V 0 0 N) (N20 : N ≤ 20000)
    (hk0 : ¬ (10 ≤ N ∧ smW (bt (vI V 0 1)) 0 (N - 8) = nL (pkb (fun j => bt (vI V 0 1) (N - 8 + j)) 8)) → K (-1) V)
    (hk1 : 10 ≤ N → smW (bt (vI V 0 1)) 0 (N - 8) = nL (pkb (fun j => bt (vI V 0 1) (N - 8 + j)) 8) → K (nI (pkb (fun j => bt (vI V 0 1) (0 + j)) 2)) V) : vMI E d M_X8_announced [sl 0 23, sl 0 0] V K := by
  refine w_X8_announced_0 tp.1 (by omega) ?_
  rw [tp.2.1]
  by_cases c : N < 10
  · refine ⟨fun _ => hk0 (fun z => by omega), fun z => absurd ?_ z⟩
    have : N = 0 ∨ N = 1 ∨ N = 2 ∨ N = 3 ∨ N = 4 ∨ N = 5 ∨ N = 6 ∨ N = 7 ∨ N = 8 ∨ N = 9 := by omega
    rcases this with z | z | z | z | z | z | z | z | z | z <;> (subst z; decide)
  · rw [show (8 : Int32) = nI 8 from rfl, nI_sub (show 8 ≤ N by omega)]
    refine ⟨fun z => absurd z (fun z => absurd (nI_le (a := 2) (b := N - 8) (by omega) (by omega)) (Int32.not_le.mpr z)), fun _ => c_sum (lo := 0) (by omega) tp (by omega) (by omega) (c_number (m := 8) (by omega) tp (by omega) ?_)⟩
    rw [numS_pkb 8 (by decide), Nat.sub_zero, ← sumS_bt]
    refine ⟨fun z => c_number (lo := 0) (m := 2) (by omega) tp (by omega) ?_, fun z => hk0 (fun y => z y.2)⟩
    rw [numS_pkb 2 (by decide), l2i_nq]
    exact hk1 (by omega) z
theorem c_hasRoom {x2 : Nat} {K : Int32 → VH → Prop} (hc : vI V 0 23 1 = nI c) (c1 : c ≤ 100) (w16 : w < 65536) (hm : vI V 0 24 1 = nI m) (m20 : m ≤ 20000) (x20 : x2 ≤ 20000) (hk0 : ¬ (c + w ≤ 100 ∧ m + x2 ≤ 19990) → K 0 V) (hk1 : c + w ≤ 100 → m + x2 ≤ 19990 → K 1 V) : vMI E d M_X8_hasRoom [sl 0 23, wi (nI w), wi (nI x2)] V K := by
  refine w_X8_hasRoom_0 ?_
  rw [hc, hm, nI_add, nI_add]
  by_cases a : c + w ≤ 100
  · refine ⟨fun z => absurd (nI_le (b := 100) a (by decide)) (Int32.not_le.mpr z), fun _ => ?_⟩
    by_cases e : m + x2 ≤ 19990
    · exact ⟨fun z => absurd (nI_le (b := 19990) e (by decide)) (Int32.not_le.mpr z), fun _ => hk1 a e⟩
    · exact ⟨fun _ => hk0 (fun y => e y.2), fun z => absurd (Int32.not_le.mp (nI_ge (b := m + x2) (a := 19990) (by omega) (by omega))) z⟩
  · exact ⟨fun _ => hk0 (fun y => a y.1), fun z => absurd (Int32.not_le.mp (nI_ge (b := c + w) (a := 100) (by omega) (by omega))) z⟩
theorem c_append {K : VH → Prop} (h0 : 5 < d) (tp : Byt W 0 0 N) (N20 : N ≤ 20000) (N10 : 10 ≤ N) (st : Byt W 0 24 m) (hc : vI W 0 23 1 = nI c) (cw : c + w ≤ 100) (mN : m + (N - 10) ≤ 19990) (e27 : ∀ j, j < w → vI W 0 27 j = nI (en (j + 1) - 2)) (le : ∀ j, j ≤ w → 2 ≤ en j ∧ en j ≤ 20000) (hw0 : w = 0 → N = 10)
    (hk : ∀ V', Fr W V' (fun a f => a = 0 ∧ 23 ≤ f ∧ f ≤ 26) → Byt V' 0 24 (m + (N - 10)) → (∀ j, j < m → vI V' 0 25 j = vI W 0 25 j) → (∀ j, j < N - 10 → vI V' 0 25 (m + j) = vI W 0 1 (2 + j)) → vI V' 0 23 1 = nI (c + w) → (vI V' 0 23 4 = if w = 0 then vI W 0 23 4 else nI c) → (∀ k, k < c → vI V' 0 26 k = vI W 0 26 k) → (∀ i, i < w → vI V' 0 26 (c + i) = nI (m + (en (i + 1) - 2))) → K V') : vMV E d M_X8_append [sl 0 23, sl 0 0, wi (nI w), wi (nI (N - 10))] W K := by
  have hm : vI W 0 24 1 = nI m := st.2.1
  refine w_X8_append_0 tp.1 (by omega) ⟨fun z => ?_, fun z => ?_⟩
  · have w0 : w = 0 := by
      by_cases u : w = 0
      · exact u
      · exact absurd (nI_le (a := 1) (b := w) (by omega) (by omega)) (Int32.not_le.mpr z)
    have n10 := hw0 w0
    subst w0
    subst n10
    exact hk W ⟨rfl, rfl, rfl, fun a f _ => ⟨rfl, rfl, rfl⟩⟩ st (fun j _ => rfl) (fun j hj => absurd hj (Nat.not_lt_zero j)) hc (if_pos rfl).symm (fun k _ => rfl) (fun i hi => absurd hi (Nat.not_lt_zero i))
  · have w0 : w ≠ 0 := fun u => z (by rw [u]; decide)
    refine c_hasRoom hc (by omega) (by omega) hm (by omega) (by omega) (fun u => absurd ⟨cw, mN⟩ u) (fun _ _ => ⟨fun _ V5 e5 => ?_, fun u => absurd u (by decide)⟩)
    rw [hc] at e5
    have go : ∀ n i U, i + n = w → Fc W U (fun a f j => a = 0 ∧ (f = 23 ∧ j = 4 ∨ f = 26 ∧ c ≤ j)) → vI U 0 23 4 = nI c → (∀ j, j < i → vI U 0 26 (c + j) = nI (m + (en (j + 1) - 2))) → vwp E d M_X8_append 26 [some (sl 0 23), some (sl 0 0), some (wi (nI w)), some (wi (nI (N - 10))), some (wi (nI i))] [] U (zv K) := by
      intro n
      induction n with
      | zero =>
        intro i U ei fu h4 h26
        have : i = w := by omega
        subst this
        have tpU := tp.fc2 fu (fun y => by have := y.2; omega)
        have stU := st.fc2 fu (fun y => by have := y.2; omega)
        refine w_X8_append_26 tpU.1 (by omega) ⟨fun _ => ?_, fun z => absurd (nI_le (Nat.le_refl _) (by omega)) z⟩
        refine c_addAll (s := 2) (m := N - 10) (by omega) stU tpU (by decide) (by omega) (by omega) (fun V1 bx r V6 e6 => ?_)
        have o1 : ∀ f, f ≠ 24 → f ≠ 25 → ¬ bR 0 24 0 f := fun f h1 h2 y => by have := y.2; omega
        have i1 : ∀ f j, f ≠ 24 → f ≠ 25 → vI V1 0 f j = vI U 0 f j := fun f j h1 h2 => by rw [bx.1.i (o1 f h1 h2)]
        have h231 : vI V1 0 23 1 = nI c := by rw [i1 23 1 (by decide) (by decide), fu.i (fun y => by have := y.2; omega)]; exact hc
        rw [h231, nI_add] at e6
        have f6 : Fr V1 V6 (fun a f => a = 0 ∧ f = 23) := by rw [e6]; exact Fr_wrI ⟨rfl, rfl⟩
        have n6 : ∀ f, f ≠ 23 → ¬ ((0 : Nat) = 0 ∧ f = 23) := fun f h y => h y.2
        refine hk V6 ⟨by rw [f6.1, bx.1.1, fu.l], by rw [f6.2.1, bx.1.2.1]; unfold vP; rw [fu.2.2.1], by rw [f6.2.2.1, bx.1.2.2.1]; unfold vQ; rw [fu.2.2.1], fun a f y => ?_⟩ (bx.2.1.fr f6 (n6 _ (by decide)) (n6 _ (by decide))) (fun j hj => ?_) (fun j hj => ?_) (by rw [e6, wrI_at]) ?_ (fun k hk => ?_) (fun j hj => ?_)
        · have y1 : ¬ (a = 0 ∧ f = 23) := fun z => y ⟨z.1, by omega, by omega⟩
          have y2 : ¬ bR 0 24 a f := fun z => y ⟨z.1, by have := z.2; omega, by have := z.2; omega⟩
          have y3 : ∀ j, ¬ (a = 0 ∧ (f = 23 ∧ j = 4 ∨ f = 26 ∧ c ≤ j)) := fun j z => y ⟨z.1, by have := z.2; omega, by have := z.2; omega⟩
          exact ⟨by rw [f6.n y1, bx.1.n y2, fu.n], by rw [f6.i y1, bx.1.i y2]; exact funext fun j => fu.i (y3 j), by rw [f6.j y1, bx.1.j y2]; exact funext fun j => fu.j (y3 j)⟩
        · rw [f6.i (n6 _ (by decide)), bx.2.2 j hj, fu.i (fun y => by have := y.2; omega)]
        · rw [f6.i (n6 _ (by decide)), r j hj, fu.i (fun y => by have := y.2; omega)]
        · rw [if_neg w0, e6, wrI_ne (fun z => by omega), i1 23 4 (by decide) (by decide)]; exact h4
        · rw [f6.i (n6 _ (by decide)), i1 26 k (by decide) (by decide), fu.i (fun y => by have := y.2; omega)]
        · rw [f6.i (n6 _ (by decide)), i1 26 _ (by decide) (by decide)]; exact h26 j hj
      | succ n ih =>
        intro i U ei fu h4 h26
        have tpU := tp.fc2 fu (fun y => by have := y.2; omega)
        have stU := st.fc2 fu (fun y => by have := y.2; omega)
        have h231 : vI U 0 23 1 = nI c := by rw [fu.i (fun y => by have := y.2; omega)]; exact hc
        have l := le (i + 1) (by omega)
        refine w_X8_append_26 tpU.1 (by omega) ⟨fun z => absurd z (nI_ge (by omega) (by omega)), fun _ => ?_⟩
        rw [h231, nI_add, nI_clamp (show c + i < 2 ^ 31 by omega), nI_clamp (show i < 2 ^ 31 by omega), stU.2.1, fu.i (fun y => by have := y.2; omega), e27 i (by omega), nI_add, nI_1]
        refine ⟨vp_in_nI (by omega) (by decide), vp_in_nI (by omega) (by decide), fun V8 e8 => ih (i + 1) V8 (by omega) (fu.trans (by rw [e8]; exact Fc_wrI ⟨rfl, Or.inr ⟨rfl, by omega⟩⟩)) (by rw [e8, wrI_ne (fun z => by omega)]; exact h4) (fun j hj => ?_)⟩
        by_cases cj : j = i
        · rw [cj, e8, wrI_at]
        · rw [e8, wrI_ne (fun z => by omega)]; exact h26 j (by omega)
    exact go w 0 V5 (Nat.zero_add w) (by rw [e5]; exact Fc_wrI ⟨rfl, Or.inl ⟨rfl, rfl⟩⟩) (by rw [e5, wrI_at]) (fun j hj => absurd hj (Nat.not_lt_zero j))
/-- cells that looking at rows changes -/
def brM (a f j : Nat) : Prop := rrM 4 a f j ∨ a = 6 ∧ f = 61
/-- the reference: rows up to k -/
theorem bringM_rows {K : Int32 → VH → Prop} {k : Nat} (hE : eFr E) (h0 : 240 < d) (hl6 : vL V 6 = true) (hN21 : vN V 6 21 = 60) (hs : Src V e b) (hb : ∀ j, b j < 256) (he : e ≤ 20000) (e2 : 2 ≤ e) (kw : k ≤ w) (w16 : w < 65536) (rw2 : RwS2 b e k en) {y : Int64}
    (hk : ∀ W, Fc V W brM → vI W 6 33 4 = vI V 6 33 4 + nI k → (∀ j, j < k → vI W 6 61 j = nI (en (j + 1))) → vwp E d M_X12_bring 81 [some (sl 6 0), some (wi (nI w)), some (wi (nI e)), some (wj y), none, some (wi (nI (en k))), some (wi (nI k)), none] [] W (zi K)) : vwp E d M_X12_bring 81 [some (sl 6 0), some (wi (nI w)), some (wi (nI e)), some (wj y), none, some (wi (nI 2)), some (wi (nI 0)), none] [] V (zi K) := by
  have go : ∀ m i W, i + m = k → Fc V W brM → vI W 6 33 4 = vI V 6 33 4 + nI i → (∀ j, j < i → vI W 6 61 j = nI (en (j + 1))) → vwp E d M_X12_bring 81 [some (sl 6 0), some (wi (nI w)), some (wi (nI e)), some (wj y), none, some (wi (nI (en i))), some (wi (nI i)), none] [] W (zi K) := by
    intro m
    induction m with
    | zero =>
      intro i W ei fw st h61
      have : i = k := by omega
      subst this
      exact hk W fw st h61
    | succ m ih =>
      intro i W ei fw st h61
      have l1 := rw2.le e2 i (by omega)
      have yes := (rw2.2 i (by omega)).1
      refine w_X12_bring_81 (by omega) ⟨fun z => absurd z (nI_ge (by omega) (by omega)), fun _ => ?_⟩
      refine c_readRow (p := 4) (N := nB b (en i)) (t := tB b (en i)) hE (by omega) (by decide) (by rw [fw.l]; exact hl6) (by rw [fw.n]; exact hN21) (hs.fc fw (fun f j y => by
        rcases y with y | y
        · have := rrM_s y; omega
        · omega)) hb (by omega) he rfl (fun _ i hi => bt_of (i := i) (hb _)) (fun no => absurd yes (RwY.no no)) (fun R ry W1 W2 k1 st1 mr k2 h15 hv => ?_)
      obtain ⟨R', ry', sm, es⟩ := id yes
      have : R = R' := by
        have a := ry.2.2.2.1
        rw [ry'.2.2.2.1] at a
        exact congrArg Prod.snd (Sum.inr.inj a.symm)
      subst this
      rw [if_pos sm, ← es]
      have l2 := rw2.le e2 (i + 1) (by omega)
      refine ⟨fun _ => ⟨vp_in_nI (by omega) (by decide), fun V5 e5 => ?_⟩, fun z => absurd (nI_le (a := 0) (Nat.zero_le _) (by omega)) z⟩
      rw [nI_clamp (show i < 2 ^ 31 by omega)] at e5
      rw [nI_1]
      have f5 : Fc W2 V5 (fun a f j => a = 6 ∧ f = 61 ∧ j = i) := by rw [e5]; exact Fc_wrI ⟨rfl, rfl, rfl⟩
      have f12 : Fc W W2 (rrM 4) := k1.trans (k2.mono (fun a f j y => rrD_rr y))
      refine ih (i + 1) V5 (by omega) ((fw.trans (f12.mono (fun a f j y => Or.inl y))).trans (f5.mono (fun a f j y => Or.inr ⟨y.1, y.2.1⟩))) ?_ (fun j hj => ?_)
      · rw [f5.i (fun y => by omega), k2.i (fun y => by have := y.2; omega), st1, st, Int32.add_assoc, nI_1]
      · by_cases c : j = i
        · rw [c, e5, wrI_at]
        · rw [f5.i (fun y => c y.2.2), f12.i (fun y => by
            obtain ⟨⟨_, y⟩, _⟩ := y
            rcases y with y | y | y | y
            · omega
            · omega
            · omega
            · have := y.2.1; omega)]
          exact h61 j (by omega)
  have := go k 0 V (Nat.zero_add k) Fc.refl (by show _ = _ + (0 : Int32); rw [Int32.add_zero]) (fun j hj => absurd hj (Nat.not_lt_zero j))
  rw [rw2.1] at this
  exact this
end
