/-! bring: the reference takes rows over; the invariant -/
section
variable {E : EE} {d : Nat} {V V' V1 V2 W W' : VH} {q g m N w e s c B B' : Nat} {en : Nat → Nat} {b : Nat → Nat}
def brE (a f j : Nat) : Prop := a = 6 ∧ (f = 0 ∧ (j = 1 ∨ j = 89 ∨ j = 91 ∨ j = 92) ∨ f = 59 ∨ f = 60)
theorem bringM_end {K : Int32 → VH → Prop} {y : Int64} (h0 : 2 < d) (he : e ≤ 20000) (e2 : 2 ≤ e) (h91 : vI W 6 0 91 = nI c) (h89 : vI W 6 0 89 = nI m) (m20 : m ≤ 20000) (c1 : c ≤ 100) (w16 : w < 65536) (h61 : ∀ j, j < w → vI W 6 61 j = nI (en (j + 1))) (le : ∀ j, j ≤ w → 2 ≤ en j ∧ en j ≤ 20000)
    (hk0 : ¬ (c + w ≤ 100 ∧ m + (e - 2) ≤ 19990) → K (-100000) W)
    (hk1 : c + w ≤ 100 → m + (e - 2) ≤ 19990 → ∀ V', Fc W V' brE → vI V' 6 0 1 = 0 → vI V' 6 0 89 = nI (m + (e - 2)) → vI V' 6 0 91 = nI (c + w) → (vI V' 6 0 92 = if w = 0 then vI W 6 0 92 else nI c) → (∀ j, j < m → vI V' 6 59 j = vI W 6 59 j) → (∀ j, j < e - 2 → vI V' 6 59 (m + j) = i2b (vI W 6 1 (2 + j))) → (∀ k, k ≤ c → vI V' 6 60 k = vI W 6 60 k) → (∀ i, i < w → vI V' 6 60 (c + i + 1) = nI (m + (en (i + 1) - 2))) → K (nI w) V') : vwp E d M_X12_bring 81 [some (sl 6 0), some (wi (nI w)), some (wi (nI e)), some (wj y), none, some (wi (nI e)), some (wi (nI w)), none] [] W (zi K) := by
  refine w_X12_bring_81 (by omega) ⟨fun _ => ⟨fun _ => ?_, fun z => absurd rfl z⟩, fun z => absurd (nI_le (Nat.le_refl _) (by omega)) z⟩
  rw [h91, h89, nI_add, nI_add, show (2 : Int32) = nI 2 from rfl, nI_sub (show 2 ≤ m + e by omega)]
  by_cases a : c + w ≤ 100
  rotate_left
  · exact ⟨fun _ => hk0 (fun y => a y.1), fun z => absurd (Int32.not_le.mp (nI_ge (b := c + w) (a := 100) (by omega) (by omega))) z⟩
  refine ⟨fun z => absurd (nI_le (b := 100) a (by decide)) (Int32.not_le.mpr z), fun _ => ?_⟩
  by_cases l : m + (e - 2) ≤ 19990
  rotate_left
  · exact ⟨fun z => absurd z (nI_ge (b := m + e - 2) (a := 19990) (by omega) (by omega)), fun _ => hk0 (fun y => l y.2)⟩
  refine ⟨fun _ => ?_, fun z => absurd (nI_le (a := m + e - 2) (b := 19990) (by omega) (by decide)) z⟩
  have hk := hk1 a l
  -- from 167 on
  have main : ∀ U, Fc W U (fun a f j => a = 6 ∧ f = 0 ∧ j = 92) → (vI U 6 0 92 = if w = 0 then vI W 6 0 92 else nI c) → vwp E d M_X12_bring 167 [some (sl 6 0), some (wi (nI w)), some (wi (nI e)), some (wj y), none, some (wi (nI e)), some (wi (nI w)), none] [] U (zi K) := by
    intro U fU h92
    have i0 : ∀ f j, ¬ (f = 0 ∧ j = 92) → vI U 6 f j = vI W 6 f j := fun f j h => fU.i (fun y => h y.2)
    refine w_X12_bring_167 ?_
    rw [i0 0 89 (by omega), h89]
    -- ends
    have ends : ∀ n i X, i + n = w → Fc U X (fun a f j => a = 6 ∧ (f = 0 ∧ (j = 89 ∨ j = 91) ∨ f = 59 ∨ f = 60)) → vI X 6 0 89 = nI (m + (e - 2)) → vI X 6 0 91 = nI (c + i) → (∀ j, j < m → vI X 6 59 j = vI W 6 59 j) → (∀ j, j < e - 2 → vI X 6 59 (m + j) = i2b (vI W 6 1 (2 + j))) → (∀ k, k ≤ c → vI X 6 60 k = vI W 6 60 k) → (∀ j, j < i → vI X 6 60 (c + j + 1) = nI (m + (en (j + 1) - 2))) → vwp E d M_X12_bring 217 [some (sl 6 0), some (wi (nI w)), some (wi (nI e)), some (wj y), none, some (wi (nI e)), some (wi (nI m)), some (wi (nI i))] [] X (zi K) := by
      intro n
      induction n with
      | zero =>
        intro i X ei fX g89 g91 g59 g59' g60 g60'
        have : i = w := by omega
        subst this
        refine w_X12_bring_217 ⟨fun _ V1 e1 => ?_, fun z => absurd (nI_le (Nat.le_refl _) (by omega)) z⟩
        have j1 : ∀ f j, ¬ (f = 0 ∧ j = 1) → vI V1 6 f j = vI X 6 f j := fun f j h => by rw [e1, wrI_ne (fun z => h z.2)]
        refine hk V1 (((fU.mono (fun a f j y => ⟨y.1, Or.inl ⟨y.2.1, by omega⟩⟩)).trans (fX.mono (fun a f j y => ⟨y.1, by have := y.2; omega⟩))).trans (by rw [e1]; exact Fc_wrI ⟨rfl, Or.inl ⟨rfl, Or.inl rfl⟩⟩)) (by rw [e1, wrI_at]) (by rw [j1 _ _ (by omega)]; exact g89) (by rw [j1 _ _ (by omega)]; exact g91) ?_ (fun j hj => by rw [j1 _ _ (by omega)]; exact g59 j hj) (fun j hj => by rw [j1 _ _ (by omega)]; exact g59' j hj) (fun j hj => by rw [j1 _ _ (by omega)]; exact g60 j hj) (fun j hj => by rw [j1 _ _ (by omega)]; exact g60' j hj)
        rw [j1 _ _ (by omega), fX.i (fun y => by have := y.2; omega)]; exact h92
      | succ n ih =>
        intro i X ei fX g89 g91 g59 g59' g60 g60'
        have l1 := le (i + 1) (by omega)
        have k61 : vI X 6 61 i = nI (en (i + 1)) := by rw [fX.i (fun y => by have := y.2; omega), i0 61 i (by omega)]; exact h61 i (by omega)
        refine w_X12_bring_217 ⟨fun z => absurd z (nI_ge (by omega) (by omega)), fun _ V2 e2' => ?_⟩
        rw [g91, nI_1] at e2'
        have a91 : vI V2 6 0 91 = nI (c + i + 1) := by rw [e2', wrI_at]
        have a61 : vI V2 6 61 i = nI (en (i + 1)) := by rw [e2', wrI_ne (fun z => by omega)]; exact k61
        rw [a91, nI_clamp (show i < 2 ^ 31 by omega), nI_clamp (show c + i + 1 < 2 ^ 31 by omega), a61, nI_add, show (2 : Int32) = nI 2 from rfl, nI_sub (show 2 ≤ m + en (i + 1) by omega), nI_1, show m + en (i + 1) - 2 = m + (en (i + 1) - 2) by omega]
        refine ⟨vp_in_nI (by omega) (by decide), vp_in_nI (by omega) (by decide), fun V5 e5 => ?_⟩
        have f2 : Fc X V2 (fun a f j => a = 6 ∧ (f = 0 ∧ (j = 89 ∨ j = 91) ∨ f = 59 ∨ f = 60)) := by rw [e2']; exact Fc_wrI ⟨rfl, by omega⟩
        have f5 : Fc V2 V5 (fun a f j => a = 6 ∧ (f = 0 ∧ (j = 89 ∨ j = 91) ∨ f = 59 ∨ f = 60)) := by rw [e5]; exact Fc_wrI ⟨rfl, by omega⟩
        have j5 : ∀ f j, ¬ (f = 60 ∧ j = c + i + 1) → ¬ (f = 0 ∧ j = 91) → vI V5 6 f j = vI X 6 f j := fun f j h1 h2 => by rw [e5, wrI_ne (fun z => h1 z.2), e2', wrI_ne (fun z => h2 z.2)]
        refine ih (i + 1) V5 (by omega) (fX.trans (f2.trans f5)) (by rw [j5 _ _ (by omega) (by omega)]; exact g89) (by rw [e5, wrI_ne (fun z => by omega)]; exact a91) (fun j hj => by rw [j5 _ _ (by omega) (by omega)]; exact g59 j hj) (fun j hj => by rw [j5 _ _ (by omega) (by omega)]; exact g59' j hj) (fun j hj => by rw [j5 _ _ (by omega) (by omega)]; exact g60 j hj) (fun j hj => ?_)
        by_cases cj : j = i
        · rw [cj, e5, wrI_at]
        · rw [j5 _ _ (by omega) (by omega)]; exact g60' j (by omega)
    -- bytes
    have bytes : ∀ n i X, i + n = e - 2 → Fc U X (fun a f j => a = 6 ∧ (f = 0 ∧ j = 89 ∨ f = 59)) → vI X 6 0 89 = nI (m + i) → (∀ j, j < m → vI X 6 59 j = vI W 6 59 j) → (∀ j, j < i → vI X 6 59 (m + j) = i2b (vI W 6 1 (2 + j))) → vwp E d M_X12_bring 176 [some (sl 6 0), some (wi (nI w)), some (wi (nI e)), some (wj y), none, some (wi (nI e)), some (wi (nI m)), some (wi (nI (2 + i)))] [] X (zi K) := by
      intro n
      induction n with
      | zero =>
        intro i X ei fX g89 g59 g59'
        have : i = e - 2 := by omega
        subst this
        refine w_X12_bring_176 ⟨fun _ => ?_, fun z => absurd (nI_le (by omega) (by omega)) z⟩
        refine ends w 0 X (Nat.zero_add w) (fX.mono (fun a f j y => ⟨y.1, by have := y.2; omega⟩)) g89 ?_ g59 g59' (fun k hk => ?_) (fun j hj => absurd hj (Nat.not_lt_zero j))
        · rw [fX.i (fun y => by have := y.2; omega), i0 0 91 (by omega), Nat.add_zero]; exact h91
        · rw [fX.i (fun y => by have := y.2; omega), i0 60 k (by omega)]
      | succ n ih =>
        intro i X ei fX g89 g59 g59'
        have t1 : vI X 6 1 (2 + i) = vI W 6 1 (2 + i) := by rw [fX.i (fun y => by have := y.2; omega), i0 1 _ (by omega)]
        refine w_X12_bring_176 ⟨fun z => absurd z (nI_ge (by omega) (by omega)), fun _ => ?_⟩
        rw [g89, nI_clamp (show 2 + i < 2 ^ 31 by omega), nI_clamp (show m + i < 2 ^ 31 by omega), t1, nI_1]
        refine ⟨vp_in_nI (by omega) (by decide), vp_in_nI (by omega) (by decide), fun V3 e3 V4 e4 => ?_⟩
        have a89 : vI V3 6 0 89 = nI (m + i) := by rw [e3, wrI_ne (fun z => by omega)]; exact g89
        rw [a89, nI_1] at e4
        have f3 : Fc X V3 (fun a f j => a = 6 ∧ (f = 0 ∧ j = 89 ∨ f = 59)) := by rw [e3]; exact Fc_wrI ⟨rfl, by omega⟩
        have f4 : Fc V3 V4 (fun a f j => a = 6 ∧ (f = 0 ∧ j = 89 ∨ f = 59)) := by rw [e4]; exact Fc_wrI ⟨rfl, by omega⟩
        refine ih (i + 1) V4 (by omega) (fX.trans (f3.trans f4)) (by rw [e4, wrI_at]; rfl) (fun j hj => by rw [e4, wrI_ne (fun z => by omega), e3, wrI_ne (fun z => by omega)]; exact g59 j hj) (fun j hj => ?_)
        by_cases cj : j = i
        · rw [cj, e4, wrI_ne (fun z => by omega), e3, wrI_at]
        · rw [e4, wrI_ne (fun z => by omega), e3, wrI_ne (fun z => by omega)]; exact g59' j (by omega)
    exact bytes (e - 2) 0 U (Nat.zero_add _) Fc.refl (by rw [i0 0 89 (by omega), Nat.add_zero]; exact h89) (fun j hj => i0 59 j (by omega)) (fun j hj => absurd hj (Nat.not_lt_zero j))
  refine ⟨fun z => main W Fc.refl ?_, fun z V1 e1 => main V1 (by rw [e1]; exact Fc_wrI ⟨rfl, rfl, rfl⟩) ?_⟩
  · have : w = 0 := by
      by_cases u : w = 0
      · exact u
      · exact absurd z (nI_ge (b := w) (a := 0) (by omega) (by omega))
    rw [if_pos this]
  · have : w ≠ 0 := fun u => z (by rw [u]; decide)
    rw [if_neg this, e1, wrI_at]
/-- the invariant behind bring -/
theorem JS.br (hJ : JS B V) (hB : B ≤ B') (l1 : ∀ a, vL V1 a = if a = 5 then true else vL V a) (p2 : ∀ a f, a ≠ 5 → ¬ (a = 0 ∧ (f ≤ 8 ∨ 23 ≤ f)) → vN V1 a f = vN V a f ∧ vI V1 a f = vI V a f ∧ vJ V1 a f = vJ V a f) (tk : ∃ cap, TkN V1 cap) (g5 : CpS V1 5 ∧ TbN V1 5 ∧ ∃ n, Byt V1 5 1 n) (pq : ∀ g, 1 ≤ g → g ≤ 5 → ¬ vL V1 g = true → vP V1 ≠ g ∧ vQ V1 ≠ g)
    (k : Fc V1 V2 (fun a f j => a = 6 ∧ (f = 0 ∧ (j ≤ 61 ∧ j ≠ 2 ∧ j ≠ 3 ∨ 89 ≤ j) ∨ f = 1 ∨ f = 34 ∨ ofQ 4 f j ∨ f = 59 ∨ f = 60 ∨ f = 61))) (tp : TpJ V2) (bd : BdJ V2) (sj : StJ V2) (sp : StpJ B' V2) (hW : WF V2) : JS B' V2 := by
  obtain ⟨a1, a2, ⟨_, _, a15⟩, a4, a5, a6, a7, a8, a9⟩ := hJ
  obtain ⟨cap, p4⟩ := tk
  have r6 : ∀ f, vN V1 6 f = vN V 6 f ∧ vI V1 6 f = vI V 6 f ∧ vJ V1 6 f = vJ V 6 f := fun f => p2 6 f (by omega) (by omega)
  have of0 : ∀ f j, ofQ 4 f j → 3 ≤ f ∧ f ≤ 33 := fun f j y => ⟨y.1, y.2.1⟩
  have i6 : ∀ j, 62 ≤ j → j < 89 → vI V2 6 0 j = vI V 6 0 j := fun j z1 z2 => by
    rw [k.i (fun y => by rcases y.2 with y | y | y | y | y | y | y; omega; omega; omega; exact absurd (of0 _ _ y).1 (by decide); omega; omega; omega), (r6 0).2.1]
  have tk2 : TkN V2 cap := p4.fc k
  have gr : GrJ V2 := by
    have e : V2.2.2.1 = V1.2.2.1 := k.2.2.1
    refine ⟨fun g h1 h2 h3 => ?_, fun g h1 h2 h3 => ?_⟩
    · rw [k.l] at h3
      unfold vP vQ
      rw [e]
      exact pq g h1 h2 h3
    · by_cases c : g = 5
      · subst c
        obtain ⟨n, b⟩ := g5.2.2
        exact ⟨by unfold CpS; rw [k.n]; exact g5.1, by unfold TbN; rw [k.n]; exact g5.2.1, n, b.fc2 k (fun y => absurd y.1 (by decide))⟩
      · rw [k.l, l1, if_neg c] at h3
        obtain ⟨c1, c2, l, c3⟩ := a6.2 g h1 h2 h3
        have r : ∀ f, vN V2 g f = vN V g f := fun f => by rw [k.n, (p2 g f c (by omega)).1]
        refine ⟨by unfold CpS; rw [r, r]; exact c1, by unfold TbN; rw [r, r, r]; exact c2, l, ?_⟩
        obtain ⟨d1, d2, d3, d4, d5⟩ := c3
        exact ⟨⟨by rw [k.l, l1, if_neg c]; exact d1.1, d1.2⟩, by rw [k.i (fun y => by have := y.1; omega), (p2 g 1 c (by omega)).2.1]; exact d2, by rw [r]; exact d3, by rw [r]; exact d4, by rw [r]; exact d5⟩
  refine ⟨tp, bd, ⟨cap, tk2, by rw [k.n, (p2 0 15 (by omega) (by omega)).1]; exact a15⟩, ?_, sj, gr, sp, CapOK.js hW tp tk2 sj gr ?_, fun q' hq' => ?_⟩
  · unfold SeJ
    have i0 : ∀ j, vI V2 0 16 j = vI V 0 16 j := fun j => by rw [k.i (fun y => absurd y.1 (by decide)), (p2 0 16 (by omega) (by omega)).2.1]
    rw [i0, i0, i0, i0, i6 76 (by omega) (by omega), i6 77 (by omega) (by omega), i6 78 (by omega) (by omega), i6 79 (by omega) (by omega)]
    exact a4
  · rw [k.n, (p2 0 15 (by omega) (by omega)).1]
    exact a8 0 15 (by
      have := hW.1.1
      rw [k.l, l1, if_neg (by omega)] at this
      exact this) (by decide) (by decide)
  · refine ((a9 q' hq').rw (by rw [l1, if_neg (by omega)]) (fun f => p2 (q' + 1) f (by omega) (by omega)) (fun f => (r6 f).2)).fc hq' k (fun a f j y z => ?_) (Or.inl (fun a f j y z => ?_))
    · obtain ⟨rfl, y⟩ := y
      rcases z with z | ⟨_, ⟨z1, z2⟩ | z⟩
      · omega
      · rcases y with y | y | y | y | y | y | y
        · omega
        · omega
        · omega
        · have := y.1; omega
        · omega
        · omega
        · omega
      · have z1 := z.1
        have z2 := z.2.1
        rcases y with y | y | y | y | y | y | y
        · omega
        · omega
        · omega
        · exact ofQ_ne (show 4 ≠ q' by omega) y z
        · omega
        · omega
        · omega
    · obtain ⟨_, z⟩ := z
      rcases y.2 with y | y | y | y | y | y | y
      · omega
      · omega
      · omega
      · have := of0 _ _ y; omega
      · omega
      · omega
      · omega
theorem RowOK.sh {s s' l : Nat} {b b' : Nat → Nat} (h : RowOK b s (s + l)) (hb : ∀ j, j < l → b' (s' + j) = b (s + j)) : RowOK b' s' (s' + l) := by
  obtain ⟨t, n, R, nt, fa, pl, cs, x, p0, p1, p2, p3, p4, p5, p6, p7, p8⟩ := h
  have hl : l = 3 + n + 4 * tcR R 0 + 3 * tcR R 1 + 10 := by omega
  have at_ : ∀ j, j < l → b' (s' + j) = b (s + j) := hb
  refine ⟨t, n, R, nt, fa, pl, cs, x, p0, ?_, ?_, fun i hi => ?_, fun k hk => ⟨(p4 k hk).1, ?_⟩, fun v hv => ⟨(p5 v hv).1, ?_, ?_, (p5 v hv).2.2.2⟩, ?_, p7, by omega⟩
  · have := at_ 0 (by omega); rw [Nat.add_zero, Nat.add_zero] at this; rw [this]; exact p1
  · rw [← p2]; exact pkb_ext 2 (fun j hj => by rw [Nat.add_assoc, Nat.add_assoc]; exact at_ _ (by omega))
  · rw [← p3 i hi, Nat.add_assoc, Nat.add_assoc]; exact at_ _ (by omega)
  · rw [← (p4 k hk).2]
    refine pkb_ext 4 (fun j hj => ?_)
    have := at_ (3 + n + 4 * k + j) (by omega)
    rw [show s' + 3 + n + 4 * k + j = s' + (3 + n + 4 * k + j) by omega, show s + 3 + n + 4 * k + j = s + (3 + n + 4 * k + j) by omega]; exact this
  · rw [← (p5 v hv).2.1, show s' + 3 + n + 4 * tcR R 0 + 3 * v = s' + (3 + n + 4 * tcR R 0 + 3 * v) by omega, show s + 3 + n + 4 * tcR R 0 + 3 * v = s + (3 + n + 4 * tcR R 0 + 3 * v) by omega]
    exact at_ _ (by omega)
  · rw [← (p5 v hv).2.2.1]
    refine pkb_ext 2 (fun j hj => ?_)
    rw [show s' + 3 + n + 4 * tcR R 0 + 3 * v + 1 + j = s' + (3 + n + 4 * tcR R 0 + 3 * v + 1 + j) by omega, show s + 3 + n + 4 * tcR R 0 + 3 * v + 1 + j = s + (3 + n + 4 * tcR R 0 + 3 * v + 1 + j) by omega]
    exact at_ _ (by omega)
  · rw [← p6]
    refine pkb_ext 2 (fun j hj => ?_)
    rw [show s' + 3 + n + 4 * tcR R 0 + 3 * tcR R 1 + j = s' + (3 + n + 4 * tcR R 0 + 3 * tcR R 1 + j) by omega, show s + 3 + n + 4 * tcR R 0 + 3 * tcR R 1 + j = s + (3 + n + 4 * tcR R 0 + 3 * tcR R 1 + j) by omega]
    exact at_ _ (by omega)
end
