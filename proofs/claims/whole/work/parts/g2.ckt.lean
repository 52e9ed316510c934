/-! check: the class reads a tree -/
section
variable {E : EE} {d : Nat} {V0 V V' : VH} {q : Nat} {t : Nat → Int32} {n : Nat} {R : List SR} {nt fa : Nat → Int32} {h : Nat} {x y : Int32} {cs : Nat → Int32} {T : Nat → TK} {L i p : Nat}
theorem k_leaf {x4 : Int32} {K : Int32 → VH → Prop} (h0 : 8 < d) (c0 : CkC V0 q T L) (hI : PbI V0 q t n R nt fa h x cs) (s : Scd V0 q R nt fa) (hv : LvC V0 V q L i) (h1 : (T i).1 ≠ 1) (hp : p < plR R) (hz : ∀ v, tcR R 1 ≤ v → tst y v = false) (hk : CoC V0 q L (ckL T (lku (tcR R) (nmR R)) (fun r => decide (lvR R r = 0)) (bkR R nt fa y p) (ptR R nt fa h y p) (bdR R nt fa h y p) i) K) : vMI E d M_X4_tree [sl 0 20, sl (q + 1) 0, wi y, wi (nI p), wi x4] V K := by
  have hg := ck_gp hI hv.1
  obtain ⟨t6, _, t8⟩ := hv.tok c0
  have t101 : ∀ (b : Bool) (W : VH), LvC V0 W q L i → (T i).1 ≠ 0 → (T i).1 ≠ 3 → CoC V0 q L (if b = true then .inr (i + 1) else .inl (8, (T i).f)) K → vwp E d M_X4_tree 101 [some (sl 0 20), some (sl (q + 1) 0), some (wi y), some (wi (nI p)), some (wi x4), none] [wi (bI b)] W (zi K) := fun b W l n0 n3 hk => by
    have hg := ck_gp hI l.1
    refine w_X4_tree_101 hg (by omega) ⟨fun z => ?_, fun z => ?_⟩
    · rw [if_pos (bI_1.mp z)] at hk
      exact k_step l c0 n0 n3 (fun V' l' => hk V' l')
    · have b0 := bI_0.mp z
      rw [if_neg (by rw [b0]; decide)] at hk
      exact k_fail (c := 8) l.1 rfl (l.tok c0).2.2 (fun V' f fl => ⟨Or.inl rfl, hk V' f fl⟩)
  have t73 : (T i).1 = 46 ∨ (T i).1 = 60 → vwp E d M_X4_tree 73 [some (sl 0 20), some (sl (q + 1) 0), some (wi y), some (wi (nI p)), some (wi x4), none] [] V (zi K) := fun c => by
    refine w_X4_tree_73 hg (by omega) (k_is (c := 46) hv c0 ⟨by decide, by decide⟩ rfl (fun n46 => ⟨fun _ => ?_, fun z => absurd rfl z⟩) (fun h46 => ⟨fun z => absurd z (by decide), fun _ => ?_⟩))
    · have h60 : (T i).1 = 60 := by omega
      refine k_bounded (by omega) c0 hI s hv.1 hp (fun V' k' => t101 _ V' (hv.bn k') (by omega) (by omega) ?_)
      rw [ckL_b h60] at hk
      exact hk
    · refine k_noGain (by omega) hI s hv.1 hp hz (t101 _ V hv (by omega) (by omega) ?_)
      rw [ckL_p h46] at hk
      exact hk
  refine w_X4_tree_0 hg (by omega) ⟨fun _ => ?_, fun z => absurd (clK_2.mp (t6.symm.trans z)) h1⟩
  refine k_is (c := 33) hv c0 ⟨by decide, by decide⟩ rfl (fun n33 => ⟨fun _ => ?_, fun z => absurd rfl z⟩) (fun h33 => ⟨fun z => absurd z (by decide), fun _ => ?_⟩)
  · refine k_is (c := 46) hv c0 ⟨by decide, by decide⟩ rfl (fun n46 => ⟨fun z => absurd rfl z, fun _ => ?_⟩) (fun h46 => ⟨fun _ => t73 (Or.inl h46), fun z => absurd z (by decide)⟩)
    refine k_is (c := 60) hv c0 ⟨by decide, by decide⟩ rfl (fun n60 => ⟨fun z => absurd rfl z, fun _ => ?_⟩) (fun h60 => ⟨fun _ => t73 (Or.inr h60), fun z => absurd z (by decide)⟩)
    rw [ckL_o n33 n46 n60] at hk
    exact k_refuse hv c0 (fun V' f fl => ⟨Or.inl rfl, hk V' f fl⟩)
  · exact k_ruledOut (by omega) c0 hI s hv h33 hp hk.wz
theorem k_tree (c0 : CkC V0 q T L) (hI : PbI V0 q t n R nt fa h x cs) (s : Scd V0 q R nt fa) : ∀ (m d : Nat) (V : VH) (y : Int32) (p dp i : Nat) (K : Int32 → VH → Prop), 2 * m + 10 < d → FrN (tcR R 1) y m → (∀ v, tcR R 1 ≤ v → tst y v = false) → dp + m ≤ 12 → p < plR R → LvC V0 V q L i → CoC V0 q L (ckT T (lku (tcR R) (nmR R)) (fun r => decide (lvR R r = 0)) (bkR R nt fa) (ptR R nt fa h) (bdR R nt fa h) (szR R) (tcR R 1) m y p i) K → vMI E d M_X4_tree [sl 0 20, sl (q + 1) 0, wi y, wi (nI p), wi (nI dp)] V K := by
  have nv := hI.v12
  intro m
  induction m with
  | zero =>
    intro d V y p dp i K h0 fr hz hd hp hv hk
    by_cases h1 : (T i).1 = 1
    · rw [ckT_0 h1] at hk
      have hg := ck_gp hI hv.1
      obtain ⟨t6, _, t8⟩ := hv.tok c0
      refine w_X4_tree_0 hg (by omega) ⟨fun z => absurd (t6.trans (clK_2.mpr h1)) z, fun _ => w_X4_branches_0 hg (by omega) ?_⟩
      rw [hv.key c0 h1]
      refine c_lookUp hg (ck_nm hI hv.1) ?_
      have bad : ∀ {d : Nat}, vMI E d M_X10_fail [sl 0 2, wi 4, wi (vI V 0 2 8)] V (fun r1 V1 => bz r1 ∧ (bz r1 ∧ K r1 V1)) := fun {d} => k_fail (c := 4) hv.1 rfl t8 (fun V' f fl => ⟨Or.inl rfl, Or.inl rfl, hk V' f fl⟩)
      cases w : lku (tcR R) (nmR R) (T i).2.1 with
      | none => exact ⟨fun _ => w_X4_branches_34 hg (by omega) bad, fun z => absurd (show (-1 : Int32) < 0 by decide) z⟩
      | some y2 =>
        obtain ⟨s4, k4, _⟩ := lku_lt w
        have m24 : y2.2 < 24 := by
          have := ((ck_nm hI hv.1).1 y2.1 s4).2
          omega
        obtain ⟨d1, d2⟩ := lk_div (s := y2.1) (k := y2.2) s4 m24
        refine ⟨fun z => absurd z (nI_pos (show 24 * y2.1 + y2.2 < 2 ^ 31 by omega)), fun _ => ?_⟩
        have el : lkI (some y2) = nI (24 * y2.1 + y2.2) := rfl
        rw [el, d2, d1]
        refine ⟨fun z2 => ⟨fun z3 => w_X4_branches_66 hg (by omega) bad, fun z3 => ?_⟩, fun z2 => w_X4_branches_34 hg (by omega) bad⟩
        have y21 : y2.1 = 1 := (nI_eq (b := 1) (by omega) (by decide)).mp z2
        have b := (tst_0 _ (show y2.2 < 32 by omega)).mp z3
        rw [y21] at k4
        rw [frn_0 fr k4] at b
        exact absurd b (by decide)
    · rw [ckT_l h1] at hk
      exact k_leaf (by omega) c0 hI s hv h1 hp hz hk
  | succ m ih =>
    intro d V y p dp i K h0 fr hz hd hp hv hk
    by_cases h1 : (T i).1 = 1
    · have hg := ck_gp hI hv.1
      obtain ⟨t6, _, t8⟩ := hv.tok c0
      refine w_X4_tree_0 hg (by omega) ⟨fun z => absurd (t6.trans (clK_2.mpr h1)) z, fun _ => w_X4_branches_0 hg (by omega) ?_⟩
      rw [hv.key c0 h1]
      refine c_lookUp hg (ck_nm hI hv.1) ?_
      have bad : CoC V0 q L (.inl (4, (T i).f)) K → ∀ {d : Nat}, vMI E d M_X10_fail [sl 0 2, wi 4, wi (vI V 0 2 8)] V (fun r1 V1 => bz r1 ∧ (bz r1 ∧ K r1 V1)) := fun hk {d} => k_fail (c := 4) hv.1 rfl t8 (fun V' f fl => ⟨Or.inl rfl, Or.inl rfl, hk V' f fl⟩)
      cases w : lku (tcR R) (nmR R) (T i).2.1 with
      | none =>
        rw [ckT_n h1 w] at hk
        exact ⟨fun _ => w_X4_branches_34 hg (by omega) (bad hk), fun z => absurd (show (-1 : Int32) < 0 by decide) z⟩
      | some y2 =>
        obtain ⟨s4, k4, _⟩ := lku_lt w
        have m24 : y2.2 < 24 := by
          have := ((ck_nm hI hv.1).1 y2.1 s4).2
          omega
        obtain ⟨d1, d2⟩ := lk_div (s := y2.1) (k := y2.2) s4 m24
        refine ⟨fun z => absurd z (nI_pos (show 24 * y2.1 + y2.2 < 2 ^ 31 by omega)), fun _ => ?_⟩
        have el : lkI (some y2) = nI (24 * y2.1 + y2.2) := rfl
        rw [el, d2, d1]
        have e1 : nI y2.1 = 1 ↔ y2.1 = 1 := nI_eq (b := 1) (by omega) (by decide)
        have no : ¬ (y2.1 = 1 ∧ tst y y2.2 = false) → CoC V0 q L (.inl (4, (T i).f)) K := fun u => by
          rw [ckT_x h1 w u] at hk
          exact hk
        refine ⟨fun z2 => ⟨fun z3 => w_X4_branches_66 hg (by omega) (bad (no (fun u => ?_))), fun z3 => ⟨fun z4 => ?_, fun z4 => absurd (Int32.not_le.mp (nI_ge (b := 12) (show dp < 12 by omega) (by decide))) z4⟩⟩, fun z2 => w_X4_branches_34 hg (by omega) (bad (no (fun u => z2 (e1.mpr u.1))))⟩
        · rw [(tst_1 _ (show y2.2 < 32 by omega)).mp z3] at u
          exact absurd u.2 (by decide)
        · have y21 := e1.mp z2
          have b := (tst_0 _ (show y2.2 < 32 by omega)).mp z3
          rw [y21] at k4
          rw [ckT_s h1 w ⟨y21, b⟩] at hk
          have fr' := frn_s fr nv k4 b
          have hz' : ∀ v, tcR R 1 ≤ v → tst (y ||| (1 <<< (nI y2.2 &&& 31))) v = false := fun v hv' => by
            by_cases c : v < 32
            · have ne : ¬ v = y2.2 := by omega
              rw [tst_or, hz v hv', tst_one (by omega) c, decide_eq_false ne, Bool.or_false]
            · exact tst_big _ (by omega)
          have s20 : szR R y2.2 ≤ 20 := (hI.sp.2.2.2.2.2 y2.2 k4).2.2.1
          obtain ⟨sub, hsub, hk⟩ : ∃ sub : Nat → Nat → (Nat × Nat) ⊕ Nat, (∀ k j, sub k j = ckT T (lku (tcR R) (nmR R)) (fun r => decide (lvR R r = 0)) (bkR R nt fa) (ptR R nt fa h) (bdR R nt fa h) (szR R) (tcR R 1) m (y ||| (1 <<< (nI y2.2 &&& 31))) (mvd (szR R) (tcR R 1) y2.2 k p) j) ∧ CoC V0 q L (ckbR T sub (szR R y2.2) 0 (i + 1)) K := ⟨_, fun _ _ => rfl, hk⟩
          have go : ∀ r k W i', k + r = szR R y2.2 → LvC V0 W q L i' → CoC V0 q L (ckbR T sub r k i') K → vwp E (d - 1) M_X4_branches 92 [some (sl 0 20), some (sl (q + 1) 0), some (wi y), some (wi (nI p)), some (wi (nI dp)), some (wi (nI (24 * y2.1 + y2.2))), some (wi (nI y2.2)), some (wi (nI k))] [] W (zi (fun r V => bz r ∧ K r V)) := by
            intro r
            induction r with
            | zero =>
              intro k W i' ek hw hk
              have hgw := ck_gp hI hw.1
              have : k = szR R y2.2 := by omega
              subst this
              refine w_X4_branches_92 hgw (by omega) ?_
              rw [nI_clamp (show y2.2 < 2 ^ 31 by omega), ((ck_sp hI hw.1).2.2.2.2.2 y2.2 k4).1]
              refine ⟨vp_in_nI (by omega) (by decide), fun _ => k_accept (c := 41) (by omega) hw c0 ⟨by decide, by decide⟩ rfl (fun z5 V' f fl => ?_) (fun z5 V' l' => ?_), fun z5 => absurd (nI_le (Nat.le_refl _) (by omega)) z5⟩
              · rw [ckb_0n z5] at hk
                exact ⟨Or.inl rfl, Or.inl rfl, hk V' f fl⟩
              · rw [ckb_0y z5] at hk
                exact ⟨Or.inr rfl, Or.inr rfl, hk V' l'⟩
            | succ r ihr =>
              intro k W i' ek hw hk
              have hgw := ck_gp hI hw.1
              have k20 : k < szR R y2.2 := by omega
              have sign : ∀ (c : Nat) (mm : Int32), c = (if k = 0 then 40 else 44) → (vcd c = true ∧ 4 ≤ c) → mm = nI (clM c) → vwp E (d - 1) M_X4_branches 123 [some (sl 0 20), some (sl (q + 1) 0), some (wi y), some (wi (nI p)), some (wi (nI dp)), some (wi (nI (24 * y2.1 + y2.2))), some (wi (nI y2.2)), some (wi (nI k))] [wi mm, sl 0 2] W (zi (fun r V => bz r ∧ K r V)) := fun c mm ec hc hm => by
                refine w_X4_branches_123 hgw (by omega) (k_accept (by omega) hw c0 hc hm (fun z5 V' f fl => ⟨fun z6 => absurd rfl z6, fun _ => ?_⟩) (fun z5 V1 l1 => ⟨fun _ => ?_, fun z6 => absurd z6 (by decide)⟩))
                · rw [ckb_n (by rw [← ec]; exact z5)] at hk
                  exact ⟨Or.inl rfl, hk V' f fl⟩
                · refine c_moved (by omega) (ck_sp hI l1.1) k4 (by have := hI.p20; omega) ?_
                  rw [nI_1]
                  refine ih (d - 1 - 1) V1 _ _ (dp + 1) (i' + 1) _ (by omega) fr' hz' (by omega) (mvd_lt hI.sp.pos k4 k20 hp) l1 ?_
                  rw [← hsub k (i' + 1)]
                  cases z6 : sub k (i' + 1) with
                  | inl e =>
                    rw [ckb_e (by rw [← ec]; exact z5) z6] at hk
                    exact fun V' f fl => ⟨fun z7 => absurd rfl z7, fun _ => ⟨Or.inl rfl, hk V' f fl⟩⟩
                  | inr j =>
                    rw [ckb_s (by rw [← ec]; exact z5) z6] at hk
                    exact fun V' l' => ⟨fun _ => by rw [nI_1]; exact ihr (k + 1) V' j (by omega) l' hk, fun z7 => absurd z7 (by decide)⟩
              refine w_X4_branches_92 hgw (by omega) ?_
              rw [nI_clamp (show y2.2 < 2 ^ 31 by omega), ((ck_sp hI hw.1).2.2.2.2.2 y2.2 k4).1]
              refine ⟨vp_in_nI (by omega) (by decide), fun z5 => absurd z5 (nI_ge k20 (by omega)), fun _ => ⟨fun z5 => sign 44 44 ?_ ⟨by decide, by decide⟩ rfl, fun z5 => sign 40 40 ?_ ⟨by decide, by decide⟩ rfl⟩⟩
              · rw [if_neg (fun u => z5 (by rw [u]; rfl))]
              · rw [if_pos ((nI_eq (b := 0) (by omega) (by decide)).mp z5)]
          exact k_step hv c0 (by omega) (by omega) (fun V5 l5 => go (szR R y2.2) 0 V5 (i + 1) (Nat.zero_add _) l5 hk)
    · rw [ckT_l h1] at hk
      exact k_leaf (by omega) c0 hI s hv h1 hp hz hk
end
