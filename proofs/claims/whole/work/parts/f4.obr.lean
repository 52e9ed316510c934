/-! bring -/
section
variable {E : EE} {d : Nat} {V V' U : VH} {N w : Nat} {b : Nat → Nat}
theorem Src.le {L L' : Nat} (h : Src V L b) (l : L' ≤ L) : Src V L' b := ⟨by have := h.1; omega, fun i hi => h.2 i (by omega)⟩
theorem bringM_0 {K : Int32 → VH → Prop} (h0 : 2 < d) (hN : vI U 6 0 1 = nI N) (N20 : N ≤ 20000) (hb : ∀ i, i < N → bt (vI U 6 1) i = b i) (hb2 : ∀ j, b j < 256)
    (hk0 : ¬ (10 ≤ N ∧ smW b 0 (N - 8) = nL (pkb (fun j => b (N - 8 + j)) 8)) → ∀ V', V' = U ∨ V' = wrI U 6 0 93 0 → K (-1) V')
    (hk1 : 10 ≤ N → smW b 0 (N - 8) = nL (pkb (fun j => b (N - 8 + j)) 8) → Src (wrI U 6 0 93 0) N b → ∀ y, vwp E d M_X12_bring 81 [some (sl 6 0), some (wi (nI (pkb (fun j => b (0 + j)) 2))), some (wi (nI (N - 8))), some (wj y), none, some (wi (nI 2)), some (wi (nI 0)), none] [] (wrI U 6 0 93 0) (zi K)) : vMI E d M_X12_bring [sl 6 0] U K := by
  refine w_X12_bring_0 (by omega) ?_
  rw [hN]
  refine ⟨fun z V1 e1 => ?_, fun z => hk0 (fun y => z (nI_le (a := 10) y.1 (by omega))) U (Or.inl rfl)⟩
  have N10 : 10 ≤ N := Nat.le_of_not_lt (fun u => absurd z (nI_ge (b := 10) u (by decide)))
  have f1 : Fc U V1 (fun a f j => a = 6 ∧ f = 0 ∧ j = 93) := by rw [e1]; exact Fc_wrI ⟨rfl, rfl, rfl⟩
  have i1 : vI V1 6 1 = vI U 6 1 := funext fun j => f1.i (fun y => by omega)
  have src : Src V1 N b := ⟨N20, fun i hi => ⟨fun _ => by rw [i1]; exact hb i hi, fun z => absurd (by rw [e1, wrI_at]) z⟩⟩
  have sm : ∀ k, k ≤ N - 8 → smW b 0 k = sumS (vI U 6 1) 0 k 0 := fun k hk => by
    rw [← sumS_bt]
    exact sumS_congr k 0 0 (fun i hi => by show nI (b (0 + i)) = nI (bt (vI U 6 1) (0 + i)); rw [hb _ (by omega)])
  have f93 : V1 = wrI U 6 0 93 0 := e1
  refine c_numberAt (i := 0) (m := 2) (by omega) src hb2 (by omega) ?_
  rw [l2i_nq, f1.i (fun y => by omega), hN, show (8 : Int32) = nI 8 from rfl, nI_sub (show 8 ≤ N by omega)]
  have go : ∀ m k, k + m = N - 8 → vwp E d M_X12_bring 37 [some (sl 6 0), some (wi (nI (pkb (fun j => b (0 + j)) 2))), some (wi (nI (N - 8))), some (wj (smW b 0 k)), none, some (wi (nI k)), none, none] [] V1 (zi K) := by
    intro m
    induction m with
    | zero =>
      intro k ek
      have : k = N - 8 := by omega
      subst this
      refine w_X12_bring_37 (by omega) ⟨fun _ => c_numberAt (m := 8) (by omega) src hb2 (by omega) ⟨fun z => ?_, fun z => hk0 (fun y => z y.2.symm) V1 (Or.inr f93)⟩, fun z => absurd (nI_le (Nat.le_refl _) (by omega)) z⟩
      have := hk1 N10 z.symm (by rw [← f93]; exact src) (smW b 0 (N - 8))
      rw [← f93] at this
      exact this
    | succ m ih =>
      intro k ek
      have i2 := ih (k + 1) (by omega)
      refine w_X12_bring_37 (by omega) ⟨fun z => absurd z (nI_ge (by omega) (by omega)), fun _ => ⟨vp_in_nI (by omega) (by decide), c_mixed ?_⟩⟩
      rw [nI_clamp (show k < 2 ^ 31 by omega), i1, nI_1]
      have : mixS (smW b 0 k) (vI U 6 1 k) = smW b 0 (k + 1) := by
        rw [sm k (by omega), sm (k + 1) (by omega)]
        unfold sumS
        rw [List.range'_1_concat, List.foldl_append, Nat.zero_add]
        rfl
      rw [this]
      exact i2
  exact go (N - 8) 0 (Nat.zero_add _)
end
section
variable {E : EE} {d x B B' : Nat}
theorem o_bring (hE : eFr E) (h0 : 260 < d) (hB : B + 2000 ≤ B') (hB2 : B' < 2 ^ 31) : VO_bring E d (JA x B) (JA x B') := fun V hJ => liftI hJ (fun hW hS => by
  obtain ⟨N, by0, tp, teq⟩ := id hS.1
  obtain ⟨c, m, en0, ⟨a1, a2, a3⟩, ⟨b1, b2, b3⟩, ⟨c1, c2, c3, c4⟩, ce⟩ := id hS.2.2.2.2.1
  have m20 := b2.2
  have N20 := tp.2
  have gj := hS.2.2.2.2.2.1
  have btq : ∀ i, i < N → bt (vI V 6 1) i = bt (vI V 0 1) i := fun i hi => by unfold bt; rw [teq i hi]
  have hb2 : ∀ j, bt (vI V 0 1) j < 256 := fun j => bt_lt _ _
  generalize eb : bt (vI V 0 1) = b at btq hb2
  refine w_X11_bring_0t (by omega) (c_announced (by omega) by0 N20 (fun no => ⟨fun _ => ?_, fun y => absurd y (by decide)⟩) (fun N10 sm => ?_))
  · refine bringM_0 (by omega) tp.1 N20 btq hb2 (fun _ V' e' => ⟨rfl, fun _ => ?_⟩) (fun y1 y2 => absurd ⟨y1, by rw [eb]; exact y2⟩ no)
    rcases e' with rfl | rfl
    · exact hS.mono (by omega)
    · exact hS.w93.mono (by omega)
  have w16 : pkb (fun j => bt (vI V 0 1) (0 + j)) 2 < 65536 := pkb_lt (f := fun j => bt (vI V 0 1) (0 + j)) 2 (fun j _ => bt_lt _ _)
  have sm' : smW b 0 (N - 8) = nL (pkb (fun j => b (N - 8 + j)) 8) := by rw [← eb]; exact sm
  have ew : pkb (fun j => b (0 + j)) 2 = pkb (fun j => bt (vI V 0 1) (0 + j)) 2 := by rw [eb]
  generalize e_w : pkb (fun j => bt (vI V 0 1) (0 + j)) 2 = w at *
  refine ⟨fun y => absurd (nI_le (a := 0) (Nat.zero_le _) (by omega)) y, fun _ => ?_⟩
  -- with the spare problem
  have main : ∀ U, (∀ a, vL U a = if a = 5 then true else vL V a) → (∀ a f, a ≠ 5 → vN U a f = vN V a f ∧ vI U a f = vI V a f ∧ vJ U a f = vJ V a f) → CpS U 5 → TbN U 5 → (∃ n, Byt U 5 1 n) → (∀ g, 1 ≤ g → g ≤ 5 → ¬ vL U g = true → vP U ≠ g ∧ vQ U ≠ g) → vwp E d M_X11_bring 36 [some (sl 0 28), some (wi (nI w)), none, none, none] [] U (zi (fun r V1 => vMI E d M_X12_bring [sl 6 0] V1 (fun r' V2 => r = r' ∧ (WF V2 → JS B' V2)))) := by
    intro U lU oU cp tb by5 pq
    have l0 : vL U 0 = vL V 0 := by rw [lU, if_neg (by decide)]
    have tU : Byt U 0 0 N := by
      obtain ⟨z1, z2, z3, z4, z5⟩ := by0
      have e := (oU 0 (0 + 1) (by decide)).1
      exact ⟨⟨by rw [l0]; exact z1.1, z1.2⟩, by rw [(oU 0 0 (by decide)).2.1]; exact z2, by rw [e]; exact z3, by rw [e]; exact z4, by rw [e]; exact z5⟩
    have ebU : bt (vI U 0 1) = b := by rw [(oU 0 1 (by decide)).2.1, eb]
    have tkU : ∃ cap, TkN U cap := by
      obtain ⟨cap, tk, _⟩ := hS.2.2.1
      exact ⟨cap, by unfold TkN; rw [(oU 0 3 (by decide)).1, (oU 0 4 (by decide)).1, (oU 0 5 (by decide)).1, (oU 0 6 (by decide)).1]; exact tk⟩
    have bU : BrC U U := ⟨rfl, fun a f _ _ => ⟨rfl, rfl, rfl⟩, tkU, ⟨cp, tb, by5⟩, pq⟩
    have e10 : nI (N - 8) - 2 = nI (N - 10) := by rw [show (2 : Int32) = nI 2 from rfl, nI_sub (show 2 ≤ N - 8 by omega), show N - 8 - 2 = N - 10 by omega]
    -- what holds of a state behind the class's look
    have vi : ∀ {W}, BrC U W → ∀ a f, a ≠ 5 → ¬ (a = 0 ∧ (2 ≤ f ∧ f ≤ 8 ∨ f = 27)) → vN W a f = vN V a f ∧ vI W a f = vI V a f ∧ vJ W a f = vJ V a f := fun {W} h a f z1 z2 => by
      have y1 := h.2.1 a f z1 z2
      have y2 := oU a f z1
      exact ⟨by rw [y1.1, y2.1], by rw [y1.2.1, y2.2.1], by rw [y1.2.2, y2.2.2]⟩
    have l6 : ∀ {W}, BrC U W → vL W 6 = true := fun h => by rw [h.1, lU, if_neg (by decide)]; exact hW.1.2.1
    have n21 : ∀ {W}, BrC U W → vN W 6 21 = 60 := fun h => by rw [(vi h 6 21 (by decide) (by omega)).1]; exact hW.2.1 6 hW.1.2.1 (21, 60) (by decide)
    have mo : ∀ {a f j : Nat}, brM a f j → a = 6 ∧ (f = 0 ∧ (j ≤ 61 ∧ j ≠ 1 ∧ j ≠ 2 ∧ j ≠ 3 ∧ j ≠ 4) ∨ f = 34 ∨ ofQ 4 f j ∨ f = 61) := fun {a f j} y => by
      rcases y with ⟨⟨y1, y2⟩, y3, y4⟩ | ⟨y1, y2⟩
      · refine ⟨y1, ?_⟩
        rcases y2 with y | y | y | y
        · exact Or.inl ⟨y.1, by omega⟩
        · omega
        · exact Or.inr (Or.inl y)
        · exact Or.inr (Or.inr (Or.inl y))
      · exact ⟨y1, Or.inr (Or.inr (Or.inr y2))⟩
    have o4 : ∀ {f j : Nat}, ofQ 4 f j → 3 ≤ f ∧ f ≤ 33 ∧ (f = 33 → j = 4) := fun {f j} y => ⟨y.1, y.2.1, fun z => by
      subst z
      have z1 : 1 * 4 ≤ j := y.2.2.1
      have z2 : j < 1 * 4 + 1 := y.2.2.2
      omega⟩
    -- a state in which rows were looked at, and no more
    have look : ∀ {W X}, BrC U W → Fc W X (fun a f j => brM a f j ∨ a = 6 ∧ f = 0 ∧ j = 93) → (∃ k, k ≤ 2000 ∧ vI X 6 33 4 = vI W 6 33 4 + nI k) → WF X → JS B' X := fun {W X} h k st w2 => by
      have o6 : ∀ f j, ¬ (f = 0 ∧ (j ≤ 61 ∧ j ≠ 1 ∧ j ≠ 2 ∧ j ≠ 3 ∧ j ≠ 4) ∨ f = 34 ∨ ofQ 4 f j ∨ f = 61) → ¬ (f = 0 ∧ j = 93) → vI X 6 f j = vI V 6 f j ∧ vJ X 6 f j = vJ V 6 f j := fun f j z1 z2 => by
        have n : ¬ (brM 6 f j ∨ 6 = 6 ∧ f = 0 ∧ j = 93) := fun y => by rcases y with y | y; exact z1 (mo y).2; exact z2 y.2
        exact ⟨by rw [k.i n, (vi h 6 f (by decide) (by omega)).2.1], by rw [k.j n, (vi h 6 f (by decide) (by omega)).2.2]⟩
      have n0 : ∀ f j, ¬ (brM 0 f j ∨ 0 = 6 ∧ f = 0 ∧ j = 93) := fun f j y => by rcases y with y | y; exact absurd (mo y).1 (by decide); omega
      have o0 : ∀ f j, f < 2 ∨ 23 ≤ f → f ≠ 27 → vI X 0 f j = vI V 0 f j ∧ vJ X 0 f j = vJ V 0 f j := fun f j z1 z2 => by
        have z := vi h 0 f (by decide) (by omega)
        exact ⟨by rw [k.i (n0 f j), z.2.1], by rw [k.j (n0 f j), z.2.2]⟩
      have nn : ∀ f, f < 2 ∨ 23 ≤ f → f ≠ 27 → vN X 0 f = vN V 0 f := fun f z1 z2 => by rw [k.n, (vi h 0 f (by decide) (by omega)).1]
      have lX : vL X 0 = vL V 0 := by rw [k.l, h.1, l0]
      have ofn : ∀ f j, f < 3 ∨ 33 < f → ¬ ofQ 4 f j := fun f j z y => by have := y.1; have := y.2.1; omega
      refine hS.br (by omega) (fun a => by rw [h.1]; exact lU a) (fun a f z1 z2 => vi h a f z1 (fun y => z2 (by omega))) h.2.2.1 h.2.2.2.1 h.2.2.2.2 (k.mono (fun a f j y => ?_)) ?_ ?_ ?_ ?_ w2
      · rcases y with y | y
        · obtain ⟨y1, y2⟩ := mo y
          refine ⟨y1, ?_⟩
          rcases y2 with y | y | y | y
          · exact Or.inl ⟨y.1, by omega⟩
          · exact Or.inr (Or.inr (Or.inl y))
          · exact Or.inr (Or.inr (Or.inr (Or.inl y)))
          · exact Or.inr (Or.inr (Or.inr (Or.inr (Or.inr (Or.inr y)))))
        · exact ⟨y.1, Or.inl ⟨y.2.1, by omega⟩⟩
      · refine ⟨N, ?_, ⟨by rw [(o6 0 1 (by rintro (z | z | z | z); omega; omega; exact ofn 0 1 (by omega) z; omega) (by omega)).1]; exact tp.1, tp.2⟩, fun i hi => ?_⟩
        · obtain ⟨z1, z2, z3, z4, z5⟩ := by0
          have e := nn (0 + 1) (by omega) (by omega)
          exact ⟨⟨by rw [lX]; exact z1.1, z1.2⟩, by rw [(o0 0 1 (by omega) (by omega)).1]; exact z2, by rw [e]; exact z3, by rw [e]; exact z4, by rw [e]; exact z5⟩
        · rw [(o0 1 i (by omega) (by omega)).1, (o6 1 i (by rintro (z | z | z | z); omega; omega; exact ofn 1 i (by omega) z; omega) (by omega)).1]
          exact teq i hi
      · have z6 : ∀ j, j = 2 ∨ j = 3 ∨ j = 4 → vI X 6 0 j = vI V 6 0 j ∧ vJ X 6 0 j = vJ V 6 0 j := fun j hj => o6 0 j (by rintro (z | z | z | z); omega; omega; exact ofn 0 j (by omega) z; omega) (by omega)
        unfold BdJ
        rw [(o0 28 9 (by omega) (by omega)).1, (o0 28 10 (by omega) (by omega)).2, (o0 28 11 (by omega) (by omega)).2, (z6 4 (by omega)).1, (z6 2 (by omega)).2, (z6 3 (by omega)).2]
        exact hS.2.1
      · have z6 : ∀ j, 62 ≤ j → j ≠ 93 → vI X 6 0 j = vI V 6 0 j := fun j hj hj2 => (o6 0 j (by rintro (z | z | z | z); omega; omega; exact ofn 0 j (by omega) z; omega) (by omega)).1
        have z9 : ∀ f j, f = 59 ∨ f = 60 → vI X 6 f j = vI V 6 f j := fun f j hf => (o6 f j (by rintro (z | z | z | z); omega; omega; exact ofn f j (by omega) z; omega) (by omega)).1
        have r25 : vI X 0 25 = vI V 0 25 := funext fun j => (o0 25 j (by omega) (by omega)).1
        refine ⟨c, m, en0, ⟨by rw [(o0 23 1 (by omega) (by omega)).1]; exact a1, by rw [z6 91 (by omega) (by omega)]; exact a2, a3⟩, ⟨?_, ⟨by rw [z6 89 (by omega) (by omega)]; exact b2.1, b2.2⟩, fun i hi => by rw [r25, z9 59 i (by omega)]; exact b3 i hi⟩, ⟨c1, c2, fun i hi => by rw [(o0 26 i (by omega) (by omega)).1, r25]; exact c3 i hi, fun i hi => by rw [z9 60 i (by omega)]; exact c4 i hi⟩, by rw [(o0 23 4 (by omega) (by omega)).1, z6 92 (by omega) (by omega)]; exact ce⟩
        obtain ⟨z1, z2, z3, z4, z5⟩ := b1
        have e := nn (24 + 1) (by omega) (by omega)
        exact ⟨⟨by rw [lX]; exact z1.1, z1.2⟩, by rw [(o0 24 1 (by omega) (by omega)).1]; exact z2, by rw [e]; exact z3, by rw [e]; exact z4, by rw [e]; exact z5⟩
      · obtain ⟨s, cc, w1, w3, w4, w5⟩ := hS.2.2.2.2.2.2.1
        obtain ⟨u, hu, est⟩ := st
        have z6 : ∀ j, j = 62 ∨ j = 63 → vI X 6 0 j = vI V 6 0 j := fun j hj => (o6 0 j (by rintro (z | z | z | z); omega; omega; exact ofn 0 j (by omega) z; omega) (by omega)).1
        refine ⟨fun q => if q = 4 then s 4 + u else s q, cc, fun q hq => ?_, by rw [z6 63 (by omega)]; exact w3, by omega, fun q hq z => ?_⟩
        · dsimp only
          by_cases c4 : q = 4
          · subst c4
            rw [if_pos rfl, est, (vi h 6 33 (by decide) (by omega)).2.1, (w1 4 (by omega)).1, nI_add]
            exact ⟨rfl, by have := (w1 4 (by omega)).2; omega⟩
          · rw [if_neg c4, (o6 33 q (by rintro (z | z | z | z); omega; omega; exact c4 ((o4 z).2.2 rfl); omega) (by omega)).1]
            exact ⟨(w1 q hq).1, by have := (w1 q hq).2; omega⟩
        · have := w5 q hq (by rw [z6 62 (by omega)] at z; exact z)
          dsimp only
          by_cases c4 : q = 4
          · subst c4; rw [if_pos rfl]; omega
          · rw [if_neg c4]; exact this
    -- the reference's beginning
    have rows : ∀ {W} {K : Int32 → VH → Prop}, BrC U W → ∀ k en, k ≤ w → RwS2 b (N - 8) k en → (∀ X y, Fc (wrI W 6 0 93 0) X brM → vI X 6 33 4 = vI W 6 33 4 + nI k → (∀ j, j < k → vI X 6 61 j = nI (en (j + 1))) → Src X N b → vwp E d M_X12_bring 81 [some (sl 6 0), some (wi (nI w)), some (wi (nI (N - 8))), some (wj y), none, some (wi (nI (en k))), some (wi (nI k)), none] [] X (zi K)) → vMI E d M_X12_bring [sl 6 0] W K := fun {W K} h k en kw r hX => by
      have i61 : vI W 6 1 = vI V 6 1 := (vi h 6 1 (by decide) (by omega)).2.1
      refine bringM_0 (by omega) (by rw [(vi h 6 0 (by decide) (by omega)).2.1]; exact tp.1) N20 (fun i hi => by rw [i61]; exact btq i hi) hb2 (fun no => absurd ⟨N10, sm'⟩ no) (fun _ _ src y => ?_)
      rw [ew]
      refine bringM_rows (V := wrI W 6 0 93 0) hE (by omega) (show vL W 6 = true from l6 h) (show vN W 6 21 = 60 from n21 h) (src.le (by omega)) hb2 (by omega) (by omega) kw w16 r (fun X f st h61 => hX X y f ?_ h61 (src.fc f (fun f j y => ?_)))
      · rw [st, wrI_ne (fun z => by omega)]
      · rcases mo y with ⟨_, z | z | z | z⟩
        · omega
        · omega
        · have := o4 z; omega
        · omega
    have kle : ∀ {k en}, RwS2 b (N - 8) k en → k ≤ 1999 := fun r => by have := r.le (by omega) _ (Nat.le_refl _); omega
    have f93 : ∀ {W}, Fc W (wrI W 6 0 93 0) (fun a f j => brM a f j ∨ a = 6 ∧ f = 0 ∧ j = 93) := Fc_wrI (Or.inr ⟨rfl, rfl, rfl⟩)
    refine bringC_go hE (by omega) (by rw [lU, if_pos rfl]) tU N20 N10 w16 bU ?_ ?_ ?_
    · -- a row that is not right
      rw [ebU]
      intro k en kw r no W h
      refine rows h k en (by omega) r (fun X y f st h61 sX => ?_)
      have le := r.le (by omega) k (Nat.le_refl k)
      have kl := kle r
      have fX : Fc W X (fun a f j => brM a f j ∨ a = 6 ∧ f = 0 ∧ j = 93) := f93.trans (f.mono (fun a f j y => Or.inl y))
      refine w_X12_bring_81 (by omega) ⟨fun z => absurd z (nI_ge (by omega) (by omega)), fun _ => ?_⟩
      refine c_readRow (p := 4) (N := nB b (en k)) (t := tB b (en k)) hE (by omega) (by decide) (by rw [fX.l]; exact l6 h) (by rw [fX.n]; exact n21 h) (sX.le (by omega)) hb2 (by omega) (by omega) rfl (fun _ i hi => bt_of (i := i) (hb2 _)) (fun _ X2 f2 st2 => ⟨fun z => absurd z (by decide), fun _ => ⟨rfl, look h (fX.trans (f2.mono (fun a f j y => Or.inl (Or.inl y)))) ?_⟩⟩) (fun R ry W1 W2 k1 st1 mr k2 h15 hv => ?_)
      · rcases st2 with z | z
        · exact ⟨k, by omega, by rw [z, st]⟩
        · exact ⟨k + 1, by omega, by rw [z, st, Int32.add_assoc, nI_1]⟩
      · rw [if_neg (fun z => no _ ⟨R, ry, z, rfl⟩)]
        refine ⟨fun z => absurd z (by decide), fun _ => ⟨rfl, look h (fX.trans ((k1.trans (k2.mono (fun a f j y => rrD_rr y))).mono (fun a f j y => Or.inl (Or.inl y)))) ⟨k + 1, by omega, ?_⟩⟩⟩
        rw [k2.i (fun y => by have := y.2; omega), st1, st, Int32.add_assoc, nI_1]
    · -- bytes behind the last row
      rw [ebU]
      intro en r ne W h
      refine rows h w en (Nat.le_refl w) r (fun X y f st h61 sX => ?_)
      have kl := kle r
      have le := r.le (by omega) w (Nat.le_refl w)
      refine w_X12_bring_81 (by omega) ⟨fun _ => ⟨fun z => absurd ((nI_eq (by omega) (by omega)).mp z) ne, fun _ => ⟨rfl, look h (f93.trans (f.mono (fun a f j y => Or.inl y))) ⟨w, by omega, st⟩⟩⟩, fun z => absurd (nI_le (Nat.le_refl _) (by omega)) z⟩
    · -- rows that are right
      rw [ebU]
      intro en r ee W h h27
      have kl := kle r
      have le := r.le (show 2 ≤ N - 8 by omega)
      have le2 : ∀ j, j ≤ w → 2 ≤ en j ∧ en j ≤ 20000 := fun j hj => by have := le j hj; omega
      have tW : Byt W 0 0 N := h.tp tU
      have z0 : ∀ f, f < 2 ∨ 23 ≤ f → f ≠ 27 → vN W 0 f = vN V 0 f ∧ vI W 0 f = vI V 0 f := fun f z1 z2 => by have := vi h 0 f (by decide) (by omega); exact ⟨this.1, this.2.1⟩
      have sW : Byt W 0 24 m := by
        obtain ⟨z1, z2, z3, z4, z5⟩ := b1
        have e := (z0 (24 + 1) (by omega) (by omega)).1
        exact ⟨⟨by rw [h.1, l0]; exact z1.1, z1.2⟩, by rw [(z0 24 (by omega) (by omega)).2]; exact z2, by rw [e]; exact z3, by rw [e]; exact z4, by rw [e]; exact z5⟩
      have cW : vI W 0 23 1 = nI c := by rw [(z0 23 (by omega) (by omega)).2]; exact a1
      have i60 : ∀ f, vI W 6 f = vI V 6 f := fun f => (vi h 6 f (by decide) (by omega)).2.1
      rw [e10]
      refine c_hasRoom cW a3 w16 sW.2.1 (by omega) (by omega) (fun no => ⟨fun z => absurd rfl z, fun _ => ?_⟩) (fun cw mN => ⟨fun _ => ?_, fun z => absurd z (by decide)⟩)
      · refine rows h w en (Nat.le_refl w) r (fun X y f st h61 sX => ?_)
        have fX : Fc W X (fun a f j => brM a f j ∨ a = 6 ∧ f = 0 ∧ j = 93) := f93.trans (f.mono (fun a f j y => Or.inl y))
        have x0 : ∀ j, j = 89 ∨ j = 91 → vI X 6 0 j = vI V 6 0 j := fun j hj => by rw [fX.i (fun y => by
          rcases y with y | y
          · rcases mo y with ⟨_, z | z | z | z⟩
            · omega
            · omega
            · have := o4 z; omega
            · omega
          · omega), i60]
        rw [ee]
        refine bringM_end (by omega) (by omega) (by omega) (by rw [x0 91 (by omega)]; exact a2) (by rw [x0 89 (by omega)]; exact b2.1) (by omega) a3 w16 h61 le2 (fun _ => ⟨rfl, look h fX ⟨w, by omega, st⟩⟩) (fun y1 y2 => absurd ⟨y1, by omega⟩ no)
      · refine c_append (en := en) (by omega) tW N20 N10 sW cW cw mN (fun j hj => h27 j hj (by omega)) le2 (fun w0 => by
          subst w0
          have := r.1
          omega) (fun V3 g3 s3 o3 t3 h231 h234 h26 h26' => ?_)
        refine c_keep (m := 0) (tW.fr g3 (fun y => by have := y.2; omega) (fun y => by have := y.2; omega)) (Nat.zero_le _) (fun V5 g5 t5 => ?_)
        -- the class is done
        have i5 : ∀ a f, ¬ (a = 0 ∧ f = 0) → vI V5 a f = vI V3 a f := fun a f z => g5.i z
        have j6 : ∀ f, vI V5 6 f = vI V 6 f := fun f => by rw [i5 6 f (by omega), g3.i (fun y => absurd y.1 (by decide)), i60]
        have n6 : ∀ f, vN V5 6 f = vN W 6 f := fun f => by rw [g5.n (fun y => absurd y.1 (by decide)), g3.n (fun y => absurd y.1 (by decide))]
        refine bringM_0 (by omega) (by rw [j6]; exact tp.1) N20 (fun i hi => by rw [j6]; exact btq i hi) hb2 (fun no => absurd ⟨N10, sm'⟩ no) (fun _ _ src y => ?_)
        rw [ew]
        have lV5 : vL V5 = vL W := by rw [g5.1, g3.1]
        refine bringM_rows hE (by omega) (by show vL V5 6 = true; rw [lV5]; exact l6 h) (by show vN V5 6 21 = 60; rw [n6]; exact n21 h) (src.le (by omega)) hb2 (by omega) (by omega) (Nat.le_refl w) w16 r (fun X f st h61 => ?_)
        have fX : Fc V5 X (fun a f j => brM a f j ∨ a = 6 ∧ f = 0 ∧ j = 93) := f93.trans (f.mono (fun a f j y => Or.inl y))
        have nx : ∀ {f j}, f = 0 ∧ (62 ≤ j ∧ j ≠ 93 ∨ j = 2 ∨ j = 3 ∨ j = 4) ∨ f = 1 ∨ f = 59 ∨ f = 60 → ¬ (brM 6 f j ∨ 6 = 6 ∧ f = 0 ∧ j = 93) := fun {f j} z y => by
          rcases y with y | y
          · rcases mo y with ⟨_, u | u | u | u⟩
            · omega
            · omega
            · have := o4 u; omega
            · omega
          · omega
        have x6 : ∀ {f j}, f = 0 ∧ (62 ≤ j ∧ j ≠ 93 ∨ j = 2 ∨ j = 3 ∨ j = 4) ∨ f = 1 ∨ f = 59 ∨ f = 60 → vI X 6 f j = vI V 6 f j := fun z => by rw [fX.i (nx z), j6]
        rw [ee]
        refine bringM_end (by omega) (by omega) (by omega) (by rw [x6 (by omega)]; exact a2) (by rw [x6 (by omega)]; exact b2.1) (by omega) a3 w16 h61 le2 (fun no => absurd ⟨cw, by omega⟩ no) (fun _ _ Y fY y1 y89 y91 y92 y59 y59' y60 y60' => ⟨rfl, fun w2 => ?_⟩)
        have n08 : N - 8 - 2 = N - 10 := by omega
        rw [n08] at y89 y59'
        have y0 : ∀ f j, vI Y 0 f j = vI V5 0 f j := fun f j => by rw [fY.i (fun z => absurd z.1 (by decide)), fX.i (fun z => by rcases z with z | z; exact absurd (mo z).1 (by decide); omega)]
        have yj0 : ∀ f j, vJ Y 0 f j = vJ V5 0 f j := fun f j => by rw [fY.j (fun z => absurd z.1 (by decide)), fX.j (fun z => by rcases z with z | z; exact absurd (mo z).1 (by decide); omega)]
        have kXY : Fc V5 Y (fun a f j => a = 6 ∧ (f = 0 ∧ (j ≤ 61 ∧ j ≠ 2 ∧ j ≠ 3 ∨ 89 ≤ j) ∨ f = 1 ∨ f = 34 ∨ ofQ 4 f j ∨ f = 59 ∨ f = 60 ∨ f = 61)) := (fX.mono (fun a f j y => by
          rcases y with y | y
          · obtain ⟨u1, u2⟩ := mo y
            refine ⟨u1, ?_⟩
            rcases u2 with u | u | u | u
            · exact Or.inl ⟨u.1, by omega⟩
            · exact Or.inr (Or.inr (Or.inl u))
            · exact Or.inr (Or.inr (Or.inr (Or.inl u)))
            · exact Or.inr (Or.inr (Or.inr (Or.inr (Or.inr (Or.inr u)))))
          · exact ⟨y.1, Or.inl ⟨y.2.1, by omega⟩⟩)).trans (fY.mono (fun a f j y => ⟨y.1, by
          rcases y.2 with u | u | u
          · exact Or.inl ⟨u.1, by omega⟩
          · exact Or.inr (Or.inr (Or.inr (Or.inr (Or.inl u))))
          · exact Or.inr (Or.inr (Or.inr (Or.inr (Or.inr (Or.inl u)))))⟩))
        have cls : ∀ a f, a ≠ 5 → ¬ (a = 0 ∧ (f ≤ 8 ∨ 23 ≤ f)) → vN V5 a f = vN V a f ∧ vI V5 a f = vI V a f ∧ vJ V5 a f = vJ V a f := fun a f z1 z2 => by
          have u := vi h a f z1 (fun y => z2 (by omega))
          have q1 : ¬ (a = 0 ∧ f = 0) := fun y => z2 (by omega)
          have q2 : ¬ (a = 0 ∧ 23 ≤ f ∧ f ≤ 26) := fun y => z2 (by omega)
          exact ⟨by rw [g5.n q1, g3.n q2, u.1], by rw [g5.i q1, g3.i q2, u.2.1], by rw [g5.j q1, g3.j q2, u.2.2]⟩
        have q5 : ∀ f, ¬ ((5 : Nat) = 0 ∧ f = 0) ∧ ¬ ((5 : Nat) = 0 ∧ 23 ≤ f ∧ f ≤ 26) := fun f => ⟨by omega, by omega⟩
        have c5 : ∀ f, vN V5 5 f = vN W 5 f := fun f => by rw [g5.n (q5 f).1, g3.n (q5 f).2]
        refine hS.br (V1 := V5) (by omega) (fun a => by rw [lV5, h.1]; exact lU a) cls ?_ ⟨?_, ?_, ?_⟩ (fun g u1 u2 u3 => ?_) kXY ?_ ?_ ?_ ?_ w2
        · obtain ⟨cap, tk⟩ := h.2.2.1
          have e : ∀ f, 3 ≤ f → f ≤ 6 → vN V5 0 f = vN W 0 f := fun f u1 u2 => by rw [g5.n (by omega), g3.n (by omega)]
          exact ⟨cap, by unfold TkN; rw [e 3 (by omega) (by omega), e 4 (by omega) (by omega), e 5 (by omega) (by omega), e 6 (by omega) (by omega)]; exact tk⟩
        · unfold CpS; rw [c5, c5]; exact h.2.2.2.1.1
        · unfold TbN; rw [c5, c5, c5]; exact h.2.2.2.1.2.1
        · obtain ⟨l, bl⟩ := h.2.2.2.1.2.2
          exact ⟨l, (bl.fr g3 (q5 _).2 (q5 _).2).fr g5 (q5 _).1 (q5 _).1⟩
        · rw [lV5] at u3
          rw [g5.2.1, g5.2.2.1, g3.2.1, g3.2.2.1]
          exact h.2.2.2.2 g u1 u2 u3
        · exact ⟨0, t5.fc2 kXY (fun y => absurd y.1 (by decide)), ⟨y1, by decide⟩, fun i hi => absurd hi (Nat.not_lt_zero i)⟩
        · have z28 : vI V5 0 28 = vI V 0 28 ∧ vJ V5 0 28 = vJ V 0 28 := by
            have u := vi h 0 28 (by decide) (by omega)
            exact ⟨by rw [i5 0 28 (by omega), g3.i (by omega), u.2.1], by rw [g5.j (by omega), g3.j (by omega), u.2.2]⟩
          have yf : ∀ {j}, j = 2 ∨ j = 3 ∨ j = 4 → ¬ brE 6 0 j := fun {j} hj y => by have := y.2; omega
          have jj : ∀ j, j = 2 ∨ j = 3 → vJ Y 6 0 j = vJ V 6 0 j := fun j hj => by rw [fY.j (yf (by omega)), fX.j (nx (by omega)), g5.j (by omega), g3.j (by omega), (vi h 6 0 (by decide) (by omega)).2.2]
          unfold BdJ
          rw [y0, yj0, yj0, z28.1, z28.2, fY.i (yf (by omega)), x6 (by omega), jj 2 (by omega), jj 3 (by omega)]
          exact hS.2.1
        · -- the store
          have r25 : ∀ i, i < m → vI Y 0 25 i = vI V 0 25 i := fun i hi => by rw [y0, i5 0 25 (by omega), o3 i hi, (z0 25 (by omega) (by omega)).2]
          have r25' : ∀ i, i < N - 10 → vI Y 0 25 (m + i) = vI V 0 1 (2 + i) := fun i hi => by rw [y0, i5 0 25 (by omega), t3 i hi, (z0 1 (by omega) (by omega)).2]
          have mono := en_mono (en := en0) (c := c) (fun k hk => (c3 k hk).2.1)
          refine ⟨c + w, m + (N - 10), fun k => if k ≤ c then en0 k else m + (en (k - c) - 2), ⟨by rw [y0, i5 0 23 (by omega)]; exact h231, y91, cw⟩, ⟨?_, ⟨y89, mN⟩, fun i hi => ?_⟩, ⟨?_, ?_, fun k hk => ?_, fun k hk => ?_⟩, ?_⟩
          · exact (s3.fr g5 (by omega) (by omega)).fc2 kXY (fun y => absurd y.1 (by decide))
          · by_cases ci : i < m
            · rw [r25 i ci, y59 i ci, x6 (by omega)]; exact b3 i ci
            · obtain ⟨j, rfl⟩ : ∃ j, i = m + j := ⟨i - m, by omega⟩
              rw [r25' j (by omega), y59' j (by omega), x6 (by omega), teq (2 + j) (by omega)]
              exact (i2b_fit (hW.2.2 6 1 (2 + j) hW.1.2.1 (by decide))).symm
          · dsimp only; rw [if_pos (Nat.zero_le _)]; exact c1
          · dsimp only
            by_cases w0 : w = 0
            · subst w0
              rw [if_pos (by omega), Nat.add_zero, c2]
              have := r.1
              omega
            · rw [if_neg (by omega), show c + w - c = w by omega, ee]
              omega
          · dsimp only
            by_cases kc : k < c
            · rw [if_pos (by omega), if_pos (by omega), y0, i5 0 26 (by omega), h26 k kc, (z0 26 (by omega) (by omega)).2]
              obtain ⟨q1, q2, q3⟩ := c3 k kc
              refine ⟨q1, q2, q3.ex (fun i u1 u2 => ?_)⟩
              have : en0 (k + 1) ≤ m := by rw [← c2]; exact mono (k + 1) c (by omega) (Nat.le_refl c)
              unfold bt
              rw [r25 i (by omega)]
            · obtain ⟨j, rfl⟩ : ∃ j, k = c + j := ⟨k - c, by omega⟩
              have hj : j < w := by omega
              have e1 : (if c + j ≤ c then en0 (c + j) else m + (en (c + j - c) - 2)) = m + (en j - 2) := by
                by_cases j0 : j = 0
                · subst j0
                  rw [if_pos (by omega), Nat.add_zero, c2, r.1]; rfl
                · rw [if_neg (by omega), show c + j - c = j by omega]
              rw [e1, if_neg (by omega), show c + j + 1 - c = j + 1 by omega, y0, i5 0 26 (by omega), h26' j hj]
              have lj := le j (by omega)
              have lj1 := le (j + 1) (by omega)
              obtain ⟨ry, ro⟩ := r.2 j hj
              have rl := ry.le
              refine ⟨rfl, by omega, ?_⟩
              have := ro
              rw [show en (j + 1) = en j + (en (j + 1) - en j) by omega] at this
              have sh := this.sh (s' := m + (en j - 2)) (b' := bt (vI Y 0 25)) (fun i hi => by
                have q := r25' (en j - 2 + i) (by omega)
                rw [show 2 + (en j - 2 + i) = en j + i by omega] at q
                rw [← eb]
                unfold bt
                rw [Nat.add_assoc, q])
              rw [show m + (en j - 2) + (en (j + 1) - en j) = m + (en (j + 1) - 2) by omega] at sh
              exact sh
          · dsimp only
            by_cases kc : k ≤ c
            · rw [if_pos kc, y60 k kc, x6 (by omega)]; exact c4 k kc
            · obtain ⟨j, rfl⟩ : ∃ j, k = c + j + 1 := ⟨k - c - 1, by omega⟩
              rw [if_neg kc, y60' j (by omega), show c + j + 1 - c = j + 1 by omega]
          · rw [y0, i5 0 23 (by omega), h234, y92]
            by_cases w0 : w = 0
            · rw [if_pos w0, if_pos w0, (z0 23 (by omega) (by omega)).2, x6 (by omega), w0, Nat.add_zero]; exact ce
            · rw [if_neg w0, if_neg w0]
              exact Or.inr ⟨c, by omega, rfl, rfl⟩
        · -- the stamps
          obtain ⟨s, cc, w1, w3, w4, w5⟩ := hS.2.2.2.2.2.2.1
          have nE : ∀ {f j}, f = 33 ∨ f = 0 ∧ (j = 62 ∨ j = 63) → ¬ brE 6 f j := fun {f j} z y => by have := y.2; omega
          have z6 : ∀ j, j = 62 ∨ j = 63 → vI Y 6 0 j = vI V 6 0 j := fun j hj => by rw [fY.i (nE (by omega)), x6 (by omega)]
          refine ⟨fun q => if q = 4 then s 4 + w else s q, cc, fun q hq => ?_, by rw [z6 63 (by omega)]; exact w3, by omega, fun q hq z => ?_⟩
          · dsimp only
            by_cases c4 : q = 4
            · subst c4
              rw [if_pos rfl, fY.i (nE (by omega)), st, wrI_ne (fun z => by omega), j6, (w1 4 (by omega)).1, nI_add]
              exact ⟨rfl, by have := (w1 4 (by omega)).2; omega⟩
            · rw [if_neg c4, fY.i (nE (by omega)), fX.i (fun y => by
                rcases y with y | y
                · rcases mo y with ⟨_, u | u | u | u⟩
                  · omega
                  · omega
                  · exact c4 ((o4 u).2.2 rfl)
                  · omega
                · omega), j6]
              exact ⟨(w1 q hq).1, by have := (w1 q hq).2; omega⟩
          · have := w5 q hq (by rw [z6 62 (by omega)] at z; exact z)
            dsimp only
            by_cases c4 : q = 4
            · subst c4; rw [if_pos rfl]; omega
            · rw [if_neg c4]; exact this
  refine ⟨fun l5 => ?_, fun l5 => ⟨gj.1 5 (by decide) (by decide) l5, fun V' np tl => ?_⟩⟩
  · obtain ⟨q1, q2, q3⟩ := gj.2 5 (by decide) (by decide) l5
    refine main V (fun a => ?_) (fun a f _ => ⟨rfl, rfl, rfl⟩) q1 q2 q3 (fun g u1 u2 u3 => gj.1 g u1 u2 u3)
    by_cases c5 : a = 5
    · rw [if_pos c5, c5]; exact l5
    · rw [if_neg c5]
  · obtain ⟨n1, n2, n3, n4, _, _, n7, _⟩ := np
    refine main V' (fun a => by rw [n1]) (fun a f z => n4 a f z) ?_ ?_ ⟨0, ⟨⟨by rw [n1]; exact if_pos rfl, Or.inr ⟨by decide, by decide, rfl⟩⟩, tl, Nat.zero_le _, by rw [n7 (1 + 1) (by decide)]; decide, by rw [n7 (1 + 1) (by decide)]; decide⟩⟩ (fun g u1 u2 u3 => ?_)
    · unfold CpS; rw [n7 15 (by decide), n7 16 (by decide)]; decide
    · unfold TbN; rw [n7 20 (by decide), n7 21 (by decide), n7 22 (by decide)]; decide
    · rw [n2, n3]
      refine gj.1 g u1 u2 (fun z => u3 ?_)
      rw [n1]
      by_cases c5 : g = 5
      · exact if_pos c5
      · exact (if_neg c5).trans z)
end
