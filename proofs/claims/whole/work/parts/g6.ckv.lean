/-! check: the reference's trees -/
section
variable {E : EE} {V0 V V' : VH} {q : Nat} {t tp : Nat → Int32} {n N : Nat} {R : List SR} {nt fa : Nat → Int32} {h : Nat} {x y : Int32} {cs : Nat → Int32} {i p : Nat}
theorem m_tree (hF : eFr E) (c0 : CkM V0 q t n R nt fa h x cs tp N) : ∀ (m d : Nat) (V : VH) (y : Int32) (p i : Nat) (K : VH → Prop), 2 * m + 10 < d → FrN (tcR R 1) y m → p < plR R → LvM V0 V tp N i → GvM V R y p → CoM V0 tp N R y p (ckT (tkT tp N) (lku (tcR R) (nmR R)) (fun r => decide (lvR R r = 0)) (bkR R nt fa) (ptR R nt fa h) (bdR R nt fa h) (szR R) (tcR R 1) m y p i) K → vMV E d M_X12_tree [sl 6 0, wi (nI q)] V K := by
  have hS := c0.2.2.1
  have q5 := c0.1.q5
  have nv := c0.1.sq.2.2.1
  intro m
  induction m with
  | zero =>
    intro d V y p i K h0 fr hp hv hG hk
    by_cases h1 : (tkT tp N i).1 = 1
    · rw [ckT_0 h1] at hk
      have km := c0.kn hv.1
      have e43 := hv.2.1.2.2.1
      have z1 := (hv.is 1 (by decide)).mpr h1
      have no : ∀ c, c < 1000 → c ≠ 1 → ¬ vI V 6 0 41 = nI c := fun c hc hn u => hn (by rw [(hv.is c hc).mp u] at h1; exact h1)
      refine w_X12_tree_0 (by omega) ⟨fun _ => ⟨fun _ => ⟨fun z => absurd z (no 46 (by decide) (by decide)), fun _ => ⟨fun _ => ⟨fun z => absurd z1 z, fun _ => ?_⟩, fun z => absurd z (no 60 (by decide) (by decide))⟩⟩, fun z => absurd z (no 33 (by decide) (by decide))⟩, fun z => absurd hv.2.2.2 z⟩
      refine c_meaning (by omega) q5 (hv.src hS) km.1.1.2.2.1 hv.2.1.2.2.1 hv.2.1.2.2.2.1 h1 ?_
      have bad : ∀ (x2 x3 : Int32), vwp E d M_X12_tree 213 [some (sl 6 0), some (wi (nI q)), some (wi x2), some (wi x3)] [] V (zv K) := fun x2 x3 => w_X12_tree_213 (by omega) (m_fail (c := 4) hv rfl e43 (by decide) (by decide) (fun V' f' w' _ => hk V' f' w'))
      cases w : lku (tcR R) (nmR R) (tkT tp N i).2.1 with
      | none => exact ⟨fun _ => bad _ _, fun z => absurd (show (-1 : Int32) < 100 by decide) z⟩
      | some y2 =>
        obtain ⟨b1, b2, b3⟩ := mn_lt w km.1.1.2.2.1
        obtain ⟨_, k4, _⟩ := lku_lt w
        have em : mnI (some y2) = nI (100 * y2.1 + y2.2) := rfl
        rw [em]
        refine ⟨fun z => bad _ _, fun z => ⟨fun z2 => bad _ _, fun z2 => ?_⟩⟩
        have y2a := ge_of_nI (b := 100) z (by decide)
        have y2b : ¬ 200 ≤ 100 * y2.1 + y2.2 := fun u => z2 ((nI_leI (a := 200) (by decide) (by omega)).mpr u)
        have y21 : y2.1 = 1 := by omega
        have k5 : y2.2 < tcR R 1 := by rw [y21] at k4; exact k4
        have e100 : nI (100 * y2.1 + y2.2) - 100 = nI y2.2 := by
          rw [show (100 : Int32) = nI 100 from rfl, nI_sub (by omega), y21]
          exact congrArg nI (by omega)
        have dl := Dg_lt c0.1.sq.pos (p := p) k5
        have s20 := (c0.1.sq.2.2.2.2.2 y2.2 k5).2.2.1
        rw [e100, nI_clamp (show y2.2 < 2 ^ 31 by omega), hG y2.2 k5, if_pos (frn_0 fr k5)]
        exact ⟨vp_in_nI (by omega) (by decide), fun z3 => absurd z3 (nI_pos (by omega)), fun _ => bad _ _⟩
    · rw [ckT_l h1] at hk
      exact m_leaf hF (by omega) c0 hv hG h1 hp hk
  | succ m ih =>
    intro d V y p i K h0 fr hp hv hG hk
    by_cases h1 : (tkT tp N i).1 = 1
    · have km := c0.kn hv.1
      have e43 := hv.2.1.2.2.1
      have z1 := (hv.is 1 (by decide)).mpr h1
      have no : ∀ c, c < 1000 → c ≠ 1 → ¬ vI V 6 0 41 = nI c := fun c hc hn u => hn (by rw [(hv.is c hc).mp u] at h1; exact h1)
      refine w_X12_tree_0 (by omega) ⟨fun _ => ⟨fun _ => ⟨fun z => absurd z (no 46 (by decide) (by decide)), fun _ => ⟨fun _ => ⟨fun z => absurd z1 z, fun _ => ?_⟩, fun z => absurd z (no 60 (by decide) (by decide))⟩⟩, fun z => absurd z (no 33 (by decide) (by decide))⟩, fun z => absurd hv.2.2.2 z⟩
      refine c_meaning (by omega) q5 (hv.src hS) km.1.1.2.2.1 hv.2.1.2.2.1 hv.2.1.2.2.2.1 h1 ?_
      have bad : CoM V0 tp N R y p (.inl (4, (tkT tp N i).f)) K → ∀ (x2 x3 : Int32), vwp E d M_X12_tree 213 [some (sl 6 0), some (wi (nI q)), some (wi x2), some (wi x3)] [] V (zv K) := fun hk x2 x3 => w_X12_tree_213 (by omega) (m_fail (c := 4) hv rfl e43 (by decide) (by decide) (fun V' f' w' _ => hk V' f' w'))
      cases w : lku (tcR R) (nmR R) (tkT tp N i).2.1 with
      | none =>
        rw [ckT_n h1 w] at hk
        exact ⟨fun _ => bad hk _ _, fun z => absurd (show (-1 : Int32) < 100 by decide) z⟩
      | some y2 =>
        obtain ⟨b1, b2, b3⟩ := mn_lt w km.1.1.2.2.1
        obtain ⟨_, k4, _⟩ := lku_lt w
        have em : mnI (some y2) = nI (100 * y2.1 + y2.2) := rfl
        rw [em]
        have no4 : ¬ (y2.1 = 1 ∧ tst y y2.2 = false) → CoM V0 tp N R y p (.inl (4, (tkT tp N i).f)) K := fun u => by
          rw [ckT_x h1 w u] at hk
          exact hk
        refine ⟨fun z => bad (no4 (fun u => ?_)) _ _, fun z => ⟨fun z2 => bad (no4 (fun u => ?_)) _ _, fun z2 => ?_⟩⟩
        · have := lt_of_nI (b := 100) z (by omega)
          omega
        · have := (nI_leI (a := 200) (by decide) (by omega)).mp z2
          omega
        have y2a := ge_of_nI (b := 100) z (by decide)
        have y2b : ¬ 200 ≤ 100 * y2.1 + y2.2 := fun u => z2 ((nI_leI (a := 200) (by decide) (by omega)).mpr u)
        have y21 : y2.1 = 1 := by omega
        have k5 : y2.2 < tcR R 1 := by rw [y21] at k4; exact k4
        have e100 : nI (100 * y2.1 + y2.2) - 100 = nI y2.2 := by
          rw [show (100 : Int32) = nI 100 from rfl, nI_sub (by omega), y21]
          exact congrArg nI (by omega)
        have dl := Dg_lt c0.1.sq.pos (p := p) k5
        have s20 := (c0.1.sq.2.2.2.2.2 y2.2 k5).2.2.1
        have vv : vp_in (nI y2.2) 12 := vp_in_nI (by omega) (by decide)
        rw [e100, nI_clamp (show y2.2 < 2 ^ 31 by omega), hG y2.2 k5]
        by_cases c : tst y y2.2 = true
        · rw [if_pos c]
          exact ⟨vv, fun z3 => absurd z3 (nI_pos (by omega)), fun _ => bad (no4 (fun u => by rw [c] at u; exact absurd u.2 (by decide))) _ _⟩
        rw [if_neg c]
        refine ⟨vv, fun _ => ?_, fun z3 => absurd (show (-1 : Int32) < 0 by decide) z3⟩
        have b : tst y y2.2 = false := by
          cases u : tst y y2.2 with
          | true => exact absurd u c
          | false => rfl
        rw [ckT_s h1 w ⟨y21, b⟩] at hk
        have fr' := frn_s fr nv k5 b
        obtain ⟨sub, hsub, hk⟩ : ∃ sub : Nat → Nat → (Nat × Nat) ⊕ Nat, (∀ k j, sub k j = ckT (tkT tp N) (lku (tcR R) (nmR R)) (fun r => decide (lvR R r = 0)) (bkR R nt fa) (ptR R nt fa h) (bdR R nt fa h) (szR R) (tcR R 1) m (y ||| (1 <<< (nI y2.2 &&& 31))) (mvd (szR R) (tcR R 1) y2.2 k p) j) ∧ CoM V0 tp N R y p (ckbR (tkT tp N) sub (szR R y2.2) 0 (i + 1)) K := ⟨_, fun _ _ => rfl, hk⟩
        -- given values but for this var
        have gx : ∀ W, (∀ u, u < tcR R 1 → u ≠ y2.2 → vI W 6 55 u = if tst y u = true then nI (Dg (szR R) (tcR R 1) u p) else -1) → vI W 6 55 y2.2 = -1 → GvM W R y p := fun W g1 g2 u hu => by
          by_cases e : u = y2.2
          · rw [e, g2, if_neg c]
          · exact g1 u hu e
        -- behind the trees, something is wrong
        have dead : ∀ (W : VH) (e : Nat × Nat) (x3 : Int32), Fc V0 W cmS → Wrg W e → CoM V0 tp N R y p (.inl e) K → vwp E (d - 1) M_X12_trees 69 [some (sl 6 0), some (wi (nI q)), some (wi (nI y2.2)), some (wi x3)] [] W (zv K) := fun W e x3 fW wW hk => by
          refine w_X12_trees_69 (by omega) ⟨vv, fun W2 w2 => ?_⟩
          have k2 : Fc W W2 (fun a f _ => a = 6 ∧ f = 55) := by rw [w2]; exact Fc_wrI ⟨rfl, rfl⟩
          have ww : Wrg W2 e := ⟨by rw [k2.i (fun y => by have := y.2; omega)]; exact wW.1, wW.2.1, wW.2.2.1, by rw [k2.i (fun y => by have := y.2; omega)]; exact wW.2.2.2⟩
          have fW2 : Fc V0 W2 cmS := fW.trans (k2.mono (fun a f j y => ⟨y.1, by have := y.2; omega⟩))
          exact ⟨fun _ => w_X12_trees_96 (by omega) ⟨fun _ => hk W2 fW2 ww, fun z3 => absurd z3 ww.dead⟩, fun z3 => absurd z3 ww.dead⟩
        have go : ∀ r k W i', k + r = szR R y2.2 → LvM V0 W tp N i' → (∀ u, u < tcR R 1 → u ≠ y2.2 → vI W 6 55 u = if tst y u = true then nI (Dg (szR R) (tcR R 1) u p) else -1) → CoM V0 tp N R y p (ckbR (tkT tp N) sub r k i') K → vwp E (d - 1) M_X12_trees 2 [some (sl 6 0), some (wi (nI q)), some (wi (nI y2.2)), some (wi (nI k))] [] W (zv K) := by
          intro r
          induction r with
          | zero =>
            intro k W i' ek hw hg hk
            have : k = szR R y2.2 := by omega
            subst this
            have sz := (c0.kn hw.1).sz k5
            refine w_X12_trees_2 ⟨fun z3 => absurd hw.2.2.2 z3, fun _ => ?_⟩
            rw [i12, nI_clamp (show 12 * q + y2.2 < 2 ^ 31 by omega), sz.1]
            refine ⟨vp_in_nI (by omega) (by decide), fun _ => w_X12_trees_69 (by omega) ⟨vv, fun W2 w2 => ?_⟩, fun z3 => absurd (nI_le (Nat.le_refl _) (by omega)) z3⟩
            rw [nI_clamp (show y2.2 < 2 ^ 31 by omega)] at w2
            have k2 : Fc W W2 (fun a f _ => a = 6 ∧ f = 55) := by rw [w2]; exact Fc_wrI ⟨rfl, rfl⟩
            have l2 := hw.gv k2
            have g2 : GvM W2 R y p := gx W2 (fun u hu ne => by rw [w2, wrI_ne (fun z => ne z.2.2)]; exact hg u hu ne) (by rw [w2, wrI_at])
            refine ⟨fun z3 => absurd l2.2.2.2 z3, fun _ => ⟨fun z3 => ?_, fun z3 => ?_⟩⟩
            · have h41 := (l2.is 41 (by decide)).mp z3
              rw [ckb_0y h41] at hk
              exact w_X12_trees_96 (by omega) ⟨fun z4 => absurd l2.2.2.2 z4, fun _ => m_next hF (by omega) hS l2 (by omega) (by omega) (fun V' l' e' => hk V' l' (fun v hv' => by rw [e' 55 v (by decide)]; exact g2 v hv'))⟩
            · have n41 : (tkT tp N i').1 ≠ 41 := fun u => z3 ((l2.is 41 (by decide)).mpr u)
              rw [ckb_0n n41] at hk
              exact m_failHere (by omega) l2 (fun V' f' w' => w_X12_trees_96 (by omega) ⟨fun _ => hk V' f' w', fun z4 => absurd z4 w'.dead⟩)
          | succ r ihr =>
            intro k W i' ek hw hg hk
            have k20 : k < szR R y2.2 := by omega
            have sz := (c0.kn hw.1).sz k5
            have sign : ∀ (c : Nat) (mm : Int32), c = (if k = 0 then 40 else 44) → mm = nI c → vwp E (d - 1) M_X12_trees 39 [some (sl 6 0), some (wi (nI q)), some (wi (nI y2.2)), some (wi (nI k))] [wi mm, wi (vI W 6 0 41)] W (zv K) := fun c mm ec em => by
              have c4 : c = 40 ∨ c = 44 := by
                rw [ec]
                by_cases u : k = 0
                · rw [if_pos u]; exact Or.inl rfl
                · rw [if_neg u]; exact Or.inr rfl
              have isc := hw.is c (by omega)
              refine w_X12_trees_39 (by omega) ⟨fun z3 => ?_, fun z3 => ?_⟩
              · have hc : (tkT tp N i').1 = c := isc.mp (z3.trans em)
                refine m_next hF (by omega) hS hw (by omega) (by omega) (fun V1 l1 e1 => ⟨vv, fun V4 e4 => ?_⟩)
                rw [nI_clamp (show y2.2 < 2 ^ 31 by omega)] at e4
                have k4' : Fc V1 V4 (fun a f _ => a = 6 ∧ f = 55) := by rw [e4]; exact Fc_wrI ⟨rfl, rfl⟩
                have am : ∀ {u : Nat}, u < tcR R 1 → (tst (y ||| (1 <<< (nI y2.2 &&& 31))) u = true ↔ tst y u = true ∨ u = y2.2) ∧ Dg (szR R) (tcR R 1) u (mvd (szR R) (tcR R 1) y2.2 k p) = if u = y2.2 then k else Dg (szR R) (tcR R 1) u p := fun hu => agr_mv c0.1.sq.pos nv k5 k20 b hu
                have g4 : GvM V4 R (y ||| (1 <<< (nI y2.2 &&& 31))) (mvd (szR R) (tcR R 1) y2.2 k p) := fun u hu => by
                  obtain ⟨a1, a2⟩ := am hu
                  by_cases e : u = y2.2
                  · rw [if_pos (a1.mpr (Or.inr e)), a2, if_pos e, e, e4, wrI_at]
                  · rw [a2, if_neg e, e4, wrI_ne (fun z => e z.2.2), e1 55 u (by decide), hg u hu e]
                    by_cases s : tst y u = true
                    · rw [if_pos s, if_pos (a1.mpr (Or.inl s))]
                    · have ns : ¬ tst (y ||| (1 <<< (nI y2.2 &&& 31))) u = true := fun z => by
                        rcases a1.mp z with z | z
                        · exact s z
                        · exact e z
                      rw [if_neg s, if_neg ns]
                refine ih (d - 1 - 1) V4 _ _ (i' + 1) _ (by omega) fr' (mvd_lt c0.1.sq.pos k5 k20 hp) (l1.gv k4') g4 ?_
                rw [← hsub k (i' + 1)]
                cases z6 : sub k (i' + 1) with
                | inl e =>
                  rw [ckb_e (by rw [← ec]; exact hc) z6] at hk
                  exact fun V5 f5 w5 => w_X12_trees_2 ⟨fun _ => dead V5 e _ f5 w5 hk, fun z7 => absurd z7 w5.dead⟩
                | inr j =>
                  rw [ckb_s (by rw [← ec]; exact hc) z6] at hk
                  refine fun V5 l5 g5 => ?_
                  rw [nI_1]
                  refine ihr (k + 1) V5 j (by omega) l5 (fun u hu ne => ?_) hk
                  obtain ⟨a1, a2⟩ := am hu
                  rw [g5 u hu, a2, if_neg ne]
                  by_cases s : tst y u = true
                  · rw [if_pos s, if_pos (a1.mpr (Or.inl s))]
                  · have ns : ¬ tst (y ||| (1 <<< (nI y2.2 &&& 31))) u = true := fun z => by
                      rcases a1.mp z with z | z
                      · exact s z
                      · exact ne z
                    rw [if_neg s, if_neg ns]
              · have nc : (tkT tp N i').1 ≠ (if k = 0 then 40 else 44) := fun u => z3 (by rw [em]; exact isc.mpr (by rw [ec]; exact u))
                rw [ckb_n nc] at hk
                exact m_failHere (by omega) hw (fun V' f' w' => hk V' f' w')
            refine w_X12_trees_2 ⟨fun z3 => absurd hw.2.2.2 z3, fun _ => ?_⟩
            rw [i12, nI_clamp (show 12 * q + y2.2 < 2 ^ 31 by omega), sz.1]
            refine ⟨vp_in_nI (by omega) (by decide), fun z3 => absurd z3 (nI_ge k20 (by omega)), fun _ => ⟨fun z3 => sign 44 44 ?_ rfl, fun z3 => sign 40 40 ?_ rfl⟩⟩
            · rw [if_neg (fun u => z3 (by rw [u]; rfl))]
            · rw [if_pos ((nI_eq (b := 0) (by omega) (by decide)).mp z3)]
        refine m_next hF (by omega) hS hv (by omega) (by omega) (fun V6 l6 e6 => w_X12_trees_0 (go (szR R y2.2) 0 V6 (i + 1) (Nat.zero_add _) l6 (fun u hu ne => ?_) hk))
        rw [e6 55 u (by decide)]
        exact hG u hu
    · rw [ckT_l h1] at hk
      exact m_leaf hF (by omega) c0 hv hG h1 hp hk
end
