/-! the class draws a move -/
section
variable {E : EE} {d : Nat} {V : VH} {g nv : Nat} {sz : Nat → Nat} {vl : Nat → Nat → Int32} {F : Nat} {fre : Nat → Nat} {len : Int32} {S : SS}
theorem wsd_wsd (S : SS) (x y : Int32) : (S.wsd x).wsd y = S.wsd y := rfl
theorem wsd_cur (S : SS) (x : Int32) : (S.wsd x).cur = S.cur := rfl
theorem wsd_sd (S : SS) (x : Int32) : (S.wsd x).sd = x := rfl
theorem ScC.sd2 {x y : Int32} (h : ScC V F fre len (S.wsd x)) : ScC (wrI V 0 16 2 y) F fre len (S.wsd y) := by
  have := h.sd (x := y)
  rw [wsd_wsd] at this
  exact this
theorem c_swp {a b c : Nat} {K : Int32 → VH → Prop} (h : Sp V g nv sz vl) (ha : a < nv) (hk : K (cuI (swp sz nv vl a b c)) V) : vMI E d M_X7_placeOfValue [sl g 5, wi (nI a), wi (vl b (Dg sz nv b c))] V K := by
  have hn := h.2.2.1
  refine c_placeOfValue h (fun q => ?_) (fun u k hu e hk2 ek hl => ?_)
  · have : swp sz nv vl a b c = none := fsb_none (fun k hk => decide_eq_false (q a ha rfl k hk))
    rw [this] at hk; exact hk
  · have eu : a = u := (nI_eq (by omega) (by omega)).mp e
    subst eu
    have : swp sz nv vl a b c = some k := fsb_some (decide_eq_true ek) (fun j hj => decide_eq_false (hl j hj)) hk2
    rw [this] at hk; exact hk
theorem c_propose {K : Int32 → VH → Prop} (h0 : 2 < d) (hS : Sp V g nv sz vl) (hF : FrO nv sz F fre) (h : ScC V F fre len S) (hc : S.cur < Tp sz nv 0)
    (hn : prp sz nv vl F fre S.sd S.cur = none → ∀ V', Fc V V' seD → ScC V' F fre len (S.wsd (nxs (nxs (nxs S.sd)))) → K 0 V')
    (hy : ∀ mv a b n, prp sz nv vl F fre S.sd S.cur = some (mv, a, b, n) → ∀ V', Fc V V' seD → ScC V' F fre len (S.wsd (nxs (nxs (nxs S.sd)))) → vI V' 0 16 11 = nI mv → vI V' 0 16 12 = nI a → vI V' 0 16 13 = nI b → vI V' 0 16 9 = nI n → a < nv → b < nv → n < Tp sz nv 0 → K 1 V') : vMI E d M_X6_propose [sl 0 16, sl g 5] V K := by
  have hg := hS.1
  have g0 : g ≠ 0 := hg.2.1
  have n12 := hS.2.2.1
  have t0 := hS.2.2.2.2.1
  obtain ⟨f1, f2, f3⟩ := hF
  have pos : ∀ v, v < nv → 0 < sz v := fun v hv => (hS.2.2.2.2.2 v hv).2.1
  have sD : ∀ {A B : VH} {x : Int32} {i : Nat}, (i = 2 ∨ i = 9 ∨ i = 11 ∨ i = 12 ∨ i = 13) → Fc V A seD → B = wrI A 0 16 i x → Fc V B seD := fun hi k e => by rw [e]; exact k.trans (Fc_wrI ⟨rfl, rfl, hi⟩)
  have sO : ∀ {A B : VH} {x : Int32} {i : Nat} {T : SS}, (i = 9 ∨ i = 11 ∨ i = 12 ∨ i = 13) → ScC A F fre len T → B = wrI A 0 16 i x → ScC B F fre len T := fun hi k e => k.fc (by rw [e]; exact Fc_wrI ⟨rfl, rfl, hi⟩)
  have sp : ∀ {A : VH}, Fc V A seD → Sp A g nv sz vl := fun k => hS.fc k (fun f i _ z => g0 z.1)
  have j1 : dw (nxs S.sd) F < F := Nat.mod_lt _ f1
  have j2 : dw (nxs (nxs S.sd)) F < F := Nat.mod_lt _ f1
  have m4 : dw S.sd 4 < 4 := Nat.mod_lt _ (by decide)
  generalize eb : fre (dw (nxs (nxs S.sd)) F) = b at *
  generalize ea : fre (dw (nxs S.sd) F) = a at *
  have ha : a < nv ∧ 2 ≤ sz a := by rw [← ea]; exact f3 _ j1
  have hb : b < nv ∧ 2 ≤ sz b := by rw [← eb]; exact f3 _ j2
  refine w_X6_propose_0 hg (by omega) (c_draw (n := 4) (by omega) (by decide) h (fun V5 e5 => ?_))
  have k5 : Fc V V5 seD := sD (Or.inr (Or.inr (Or.inl rfl))) (Fc_wrI ⟨rfl, rfl, Or.inl rfl⟩) e5
  have c5 : ScC V5 F fre len (S.wsd (nxs S.sd)) := sO (Or.inr (Or.inl rfl)) h.sd e5
  have v5 : vI V5 0 16 11 = nI (dw S.sd 4) := by rw [e5]; exact wrI_at
  rw [c5.2.2.2.2.2.1]
  refine c_draw (S := S.wsd (nxs S.sd)) f1 (by omega) c5 ⟨vp_in_nI (show dw (nxs S.sd) F < 12 by omega) (by decide), ?_⟩
  show ∀ V12 : VH, V12 = wrI (wrI V5 0 16 2 (nxs (nxs S.sd))) 0 16 12 (vI (wrI V5 0 16 2 (nxs (nxs S.sd))) 0 17 (Int32.toNatClampNeg (nI (dw (nxs S.sd) F)))) → _
  have c6 : ScC (wrI V5 0 16 2 (nxs (nxs S.sd))) F fre len (S.wsd (nxs (nxs S.sd))) := c5.sd2
  have k6 : Fc V (wrI V5 0 16 2 (nxs (nxs S.sd))) seD := sD (Or.inl rfl) k5 rfl
  have v6 : vI (wrI V5 0 16 2 (nxs (nxs S.sd))) 0 16 11 = nI (dw S.sd 4) := by rw [wrI_ne (fun z => by omega)]; exact v5
  generalize wrI V5 0 16 2 (nxs (nxs S.sd)) = V6 at c6 k6 v6 ⊢
  intro V12 e12
  rw [nI_clamp (show dw (nxs S.sd) F < 2 ^ 31 by omega), c6.2.2.2.2.2.2.2.2 _ j1, ea] at e12
  have k12 : Fc V V12 seD := sD (Or.inr (Or.inr (Or.inr (Or.inl rfl)))) k6 e12
  have c12 : ScC V12 F fre len (S.wsd (nxs (nxs S.sd))) := sO (Or.inr (Or.inr (Or.inl rfl))) c6 e12
  have v12 : vI V12 0 16 11 = nI (dw S.sd 4) := by rw [e12, wrI_ne (fun z => by omega)]; exact v6
  have w12 : vI V12 0 16 12 = nI a := by rw [e12]; exact wrI_at
  rw [v12]
  refine ⟨fun z => ?_, fun z => ?_⟩
  · have c : ¬ dw S.sd 4 < 3 := fun y => absurd z (nI_ge (show dw S.sd 4 < 3 by omega) (by decide))
    rw [c12.2.2.2.2.2.1]
    refine c_draw (S := S.wsd (nxs (nxs S.sd))) f1 (by omega) c12 ⟨vp_in_nI (show dw (nxs (nxs S.sd)) F < 12 by omega) (by decide), ?_⟩
    show ∀ V19 : VH, V19 = wrI (wrI V12 0 16 2 (nxs (nxs (nxs S.sd)))) 0 16 13 (vI (wrI V12 0 16 2 (nxs (nxs (nxs S.sd)))) 0 17 (Int32.toNatClampNeg (nI (dw (nxs (nxs S.sd)) F)))) → _
    have c13 : ScC (wrI V12 0 16 2 (nxs (nxs (nxs S.sd)))) F fre len (S.wsd (nxs (nxs (nxs S.sd)))) := c12.sd2
    have k13 : Fc V (wrI V12 0 16 2 (nxs (nxs (nxs S.sd)))) seD := sD (Or.inl rfl) k12 rfl
    have v13 : vI (wrI V12 0 16 2 (nxs (nxs (nxs S.sd)))) 0 16 11 = nI (dw S.sd 4) := by rw [wrI_ne (fun z => by omega)]; exact v12
    have w13 : vI (wrI V12 0 16 2 (nxs (nxs (nxs S.sd)))) 0 16 12 = nI a := by rw [wrI_ne (fun z => by omega)]; exact w12
    generalize wrI V12 0 16 2 (nxs (nxs (nxs S.sd))) = V13 at c13 k13 v13 w13 ⊢
    intro V19 e19
    rw [nI_clamp (show dw (nxs (nxs S.sd)) F < 2 ^ 31 by omega), c13.2.2.2.2.2.2.2.2 _ j2, eb] at e19
    have k19 : Fc V V19 seD := sD (Or.inr (Or.inr (Or.inr (Or.inr rfl)))) k13 e19
    have c19 : ScC V19 F fre len (S.wsd (nxs (nxs (nxs S.sd)))) := sO (Or.inr (Or.inr (Or.inr rfl))) c13 e19
    have v19 : vI V19 0 16 11 = nI (dw S.sd 4) := by rw [e19, wrI_ne (fun z => by omega)]; exact v13
    have w19 : vI V19 0 16 12 = nI a := by rw [e19, wrI_ne (fun z => by omega)]; exact w13
    have u19 : vI V19 0 16 13 = nI b := by rw [e19]; exact wrI_at
    have x19 : vI V19 0 16 8 = nI S.cur := by have y := c19.2.2.2.1; rw [wsd_cur] at y; exact y
    have ep : prp sz nv vl F fre S.sd S.cur = (if a = b then none else sw2 sz nv (dw S.sd 4) a b S.cur (swp sz nv vl a b S.cur) (swp sz nv vl b a S.cur)) := by
      unfold prp
      rw [if_neg c, ea, eb]
    rw [w19, u19, x19]
    refine ⟨fun q => ?_, fun q => hn (by rw [ep, if_pos ((nI_eq (by omega) (by omega)).mp q)]) V19 k19 c19⟩
    have ne : a ≠ b := fun y => q (by rw [y])
    rw [if_neg ne] at ep
    refine c_valueOf (sp k19) hb.1 (by omega) (c_swp (sp k19) ha.1 ?_)
    rw [x19, w19, u19]
    refine c_valueOf (sp k19) ha.1 (by omega) (c_swp (sp k19) hb.1 ?_)
    cases e1 : swp sz nv vl a b S.cur with
    | none =>
      rw [e1] at ep
      exact ⟨fun _ => hn ep V19 k19 c19, fun z => absurd (show cuI none < 0 by decide) z⟩
    | some k =>
      have hk : k < sz a := fsb_lt e1
      have ka := (hS.2.2.2.2.2 a ha.1).2.2.1
      refine ⟨fun z => absurd z (nI_pos (show k < 2 ^ 31 by omega)), fun _ => ?_⟩
      cases e2 : swp sz nv vl b a S.cur with
      | none =>
        rw [e1, e2] at ep
        exact ⟨fun z => absurd z (by decide), fun _ => hn ep V19 k19 c19⟩
      | some j =>
        have hj : j < sz b := fsb_lt e2
        have kb := (hS.2.2.2.2.2 b hb.1).2.2.1
        rw [e1, e2] at ep
        have l1 := mvd_lt pos ha.1 hk hc
        have l2 := mvd_lt pos hb.1 hj l1
        refine ⟨fun _ => ?_, fun z => absurd (nI_le (Nat.zero_le j) (by omega)) z⟩
        rw [x19, w19]
        refine c_moved (by omega) (sp k19) ha.1 (by omega) ?_
        rw [u19]
        refine (c_moved (by omega) (sp k19) hb.1 (by omega) (fun V44 e44 => ?_))
        exact hy _ _ _ _ ep V44 (sD (Or.inr (Or.inl rfl)) k19 e44) (sO (Or.inl rfl) c19 e44) (by rw [e44, wrI_ne (fun z => by omega)]; exact v19) (by rw [e44, wrI_ne (fun z => by omega)]; exact w19) (by rw [e44, wrI_ne (fun z => by omega)]; exact u19) (by rw [e44]; exact wrI_at) ha.1 hb.1 l2
  · have c : dw S.sd 4 < 3 := Nat.lt_of_not_le (fun y => z (nI_le y (by omega)))
    intro V45 e45
    rw [w12] at e45
    have k45 : Fc V V45 seD := sD (Or.inr (Or.inr (Or.inr (Or.inr rfl)))) k12 e45
    have c45 : ScC V45 F fre len (S.wsd (nxs (nxs S.sd))) := sO (Or.inr (Or.inr (Or.inr rfl))) c12 e45
    have v45 : vI V45 0 16 11 = nI (dw S.sd 4) := by rw [e45, wrI_ne (fun z => by omega)]; exact v12
    have w45 : vI V45 0 16 12 = nI a := by rw [e45, wrI_ne (fun z => by omega)]; exact w12
    have u45 : vI V45 0 16 13 = nI a := by rw [e45]; exact wrI_at
    have s45 := (sp k45).2.2.2.2.2 a ha.1
    rw [w45, nI_clamp (show a < 2 ^ 31 by omega), s45.1, show nI (sz a) - 1 = nI (sz a - 1) from nI_sub (show 1 ≤ sz a by omega)]
    refine ⟨vp_in_nI (show a < 12 by omega) (by decide), c_draw (S := S.wsd (nxs (nxs S.sd))) (by omega) (by omega) c45 ?_⟩
    have c46 : ScC (wrI V45 0 16 2 (nxs (nxs (nxs S.sd)))) F fre len (S.wsd (nxs (nxs (nxs S.sd)))) := c45.sd2
    have k46 : Fc V (wrI V45 0 16 2 (nxs (nxs (nxs S.sd)))) seD := sD (Or.inl rfl) k45 rfl
    have v46 : vI (wrI V45 0 16 2 (nxs (nxs (nxs S.sd)))) 0 16 11 = nI (dw S.sd 4) := by rw [wrI_ne (fun z => by omega)]; exact v45
    have w46 : vI (wrI V45 0 16 2 (nxs (nxs (nxs S.sd)))) 0 16 12 = nI a := by rw [wrI_ne (fun z => by omega)]; exact w45
    have u46 : vI (wrI V45 0 16 2 (nxs (nxs (nxs S.sd)))) 0 16 13 = nI a := by rw [wrI_ne (fun z => by omega)]; exact u45
    rw [wsd_sd]
    generalize wrI V45 0 16 2 (nxs (nxs (nxs S.sd))) = V46 at c46 k46 v46 w46 u46 ⊢
    have hk : dw (nxs (nxs S.sd)) (sz a - 1) < sz a - 1 := Nat.mod_lt _ (by omega)
    have ep : prp sz nv vl F fre S.sd S.cur = some (dw S.sd 4, a, a, mvd sz nv a (if dw (nxs (nxs S.sd)) (sz a - 1) < Dg sz nv a S.cur then dw (nxs (nxs S.sd)) (sz a - 1) else dw (nxs (nxs S.sd)) (sz a - 1) + 1) S.cur) := by
      unfold prp
      rw [if_pos c, ea]
    generalize dw (nxs (nxs S.sd)) (sz a - 1) = k at hk ep ⊢
    have x46 : vI V46 0 16 8 = nI S.cur := by have y := c46.2.2.2.1; rw [wsd_cur] at y; exact y
    have dl : Dg sz nv a S.cur < sz a := Dg_lt pos ha.1
    have sa := s45.2.2.1
    rw [x46, w46]
    have fin : ∀ m, m < sz a → prp sz nv vl F fre S.sd S.cur = some (dw S.sd 4, a, a, mvd sz nv a m S.cur) → vwp E d M_X6_propose 91 [some (sl 0 16), some (sl g 5), some (wi (nI k)), none] [wi (nI m), wi (nI a), wi (nI S.cur), sl g 5, sl 0 16] V46 (zi K) := fun m hm em => by
      refine w_X6_propose_91 (sp k46).1 (by omega) (c_moved (by omega) (sp k46) ha.1 (by omega) (fun V5 e5 => ?_))
      exact hy _ _ _ _ em V5 (sD (Or.inr (Or.inl rfl)) k46 e5) (sO (Or.inl rfl) c46 e5) (by rw [e5, wrI_ne (fun z => by omega)]; exact v46) (by rw [e5, wrI_ne (fun z => by omega)]; exact w46) (by rw [e5, wrI_ne (fun z => by omega)]; exact u46) (by rw [e5]; exact wrI_at) ha.1 ha.1 (mvd_lt pos ha.1 hm hc)
    refine c_placeOf (sp k46) ha.1 (by omega) ⟨fun z => ?_, fun z => ?_⟩
    · rw [nI_1]
      refine fin (k + 1) (by omega) ?_
      have : ¬ k < Dg sz nv a S.cur := fun y => absurd z (nI_ge y (by omega))
      rw [ep, if_neg this]
    · refine fin k (by omega) ?_
      have : k < Dg sz nv a S.cur := Nat.lt_of_not_le (fun y => z (nI_le y (by omega)))
      rw [ep, if_pos this]
end
