section
variable {E : EE} {d : Nat} {V V' V1 V2 : VH} {q B : Nat} {t : Nat → Int32} {n : Nat} {R : List SR} {nt fa : Nat → Int32} {h h' : Nat} {x b : Int32} {cs : Nat → Int32}
abbrev wDr (R : List SR) (nt fa : Nat → Int32) (r p : Nat) : Int64 := Int32.toInt64 (wtR R r) * Int32.toInt64 (DR R nt r fa (sn (szR R) (tcR R 1) (vlR R) p))
/-- level l of scores, rule r taken out of plans below j and from k on -/
def W45 (V : VH) (R : List SR) (nt fa : Nat → Int32) (r j k : Nat) : Prop := ∀ p, p < plR R → ∀ l, l < 3 → vJ V 6 45 (20000 * l + p) = if k ≤ p ∧ p < j then scW R nt fa r p l else scQ R nt fa p l
def s45 (a f _j : Nat) : Prop := a = 6 ∧ f = 45
theorem c_wo {r l : Nat} {K : Int64 → VH → Prop} (h0 : 4 < d) (hs : PrS t n R nt) (hm : KnM V q t n R nt fa h x cs) (hr : r < tcR R 2) (hl : l < 3) (hk : ∀ V' y, Fc V V' s45 → WqR V' R nt fa → (woL R nt fa h x r = [] → y = -9223372036854775808) → (woL R nt fa h x r ≠ [] → y = scW R nt fa r (bst (scW R nt fa r) (woL R nt fa h x r)) l) → K y V') : vwp E d M_X12_without 41 [some (sl 6 0), some (wi (nI q)), some (wi (nI r)), some (wi (nI l)), some (wi (nI (lvn R r))), some (wi 0), none, none, none] [] V (zj K) := by
  have p20 := hm.p20
  have q5 := hm.q5
  have r24 : tcR R 2 ≤ 24 := hs.2.2.2.1.1 2 (by decide)
  obtain ⟨l3, el, _, _⟩ := hs.rule hr
  have fx : ∀ {V1}, Fc V V1 s45 → MiQ V1 q t n R fa h x cs := fun f1 => hm.1.fc hs f1 (fun f j y => Or.inr (Or.inr (by have := y.2; omega)))
  have e25 : ∀ {V1}, Fc V V1 s45 → vI V1 6 25 (24 * q + r) = wtR R r := fun f1 => ((fx f1).1.2.2.2.2.2.2.1.1 r hr).2.1
  have e43 : ∀ {V1}, Fc V V1 s45 → ∀ p, p < plR R → vI V1 6 43 (20000 * r + p) = DR R nt r fa (sn (szR R) (tcR R 1) (vlR R) p) := fun f1 p hp => by
    rw [f1.i (fun y => by have := y.2; omega)]; exact (hm.2 p hp).1 r hr
  have epl : ∀ {V1}, Fc V V1 s45 → vI V1 6 22 q = nI (plR R) := fun f1 => by rw [f1.i (fun y => by have := y.2; omega)]; exact hm.pl
  -- back
  have back : ∀ m j V1 (y : Int64) (x5 : Int32), j + m = plR R → Fc V V1 s45 → W45 V1 R nt fa r (plR R) j → (∀ V', Fc V V' s45 → WqR V' R nt fa → K y V') → vwp E d M_X12_without 140 [some (sl 6 0), some (wi (nI q)), some (wi (nI r)), some (wi (nI l)), some (wi (nI (lvn R r))), some (wi x5), some (wj y), none, some (wi (nI j))] [] V1 (zj K) := by
    intro m
    induction m with
    | zero =>
      intro j V1 y x5 e f1 w1 hk
      have : j = plR R := by omega
      subst this
      refine w_X12_without_140 ?_
      rw [nI_clamp (show q < 2 ^ 31 by omega), epl f1]
      refine ⟨vp_in_nI q5 (by decide), fun _ => hk V1 f1 (fun p hp => ?_), fun z => absurd (nI_le (Nat.le_refl _) (by omega)) z⟩
      have o := hm.2 p hp
      refine ⟨fun r' hr' => by rw [f1.i (fun y => by have := y.2; omega)]; exact o.1 r' hr', fun a ha => by rw [f1.i (fun y => by have := y.2; omega)]; exact o.2.1 a ha, fun l' hl' => ?_⟩
      rw [w1 p hp l' hl', if_neg (fun z => by omega)]
    | succ m ih =>
      intro j V1 y x5 e f1 w1 hk
      have hj : j < plR R := by omega
      refine w_X12_without_140 ?_
      rw [nI_clamp (show q < 2 ^ 31 by omega), epl f1, i20k, i20k, i24, nI_clamp (show 20000 * lvn R r + j < 2 ^ 31 by omega), nI_clamp (show 20000 * r + j < 2 ^ 31 by omega), nI_clamp (show 24 * q + r < 2 ^ 31 by omega), e25 f1, e43 f1 j hj, w1 j hj _ l3, if_pos ⟨Nat.le_refl j, hj⟩]
      refine ⟨vp_in_nI q5 (by decide), fun z => absurd z (nI_ge hj (by omega)), fun _ => ⟨vp_in_nI (by omega) (by decide), vp_in_nI (by omega) (by decide), vp_in_nI (by omega) (by decide), vp_in_nI (by omega) (by decide), fun V6 e6 => ?_⟩⟩
      rw [nI_1]
      refine ih (j + 1) V6 y x5 (by omega) (f1.trans (by rw [e6]; exact Fc_wrJ ⟨rfl, rfl⟩)) (fun p hp l' hl' => ?_) hk
      rw [e6]
      by_cases c : p = j
      · subst c
        by_cases c2 : l' = lvn R r
        · subst c2
          rw [wrJ_at, if_neg (fun z => by omega)]
          unfold scW
          rw [if_pos rfl, Int64.sub_add_cancel]
        · rw [wrJ_ne (fun z => c2 (by omega)), w1 p hp l' hl', if_pos ⟨Nat.le_refl p, hp⟩, if_neg (fun z => by omega)]
          unfold scW
          rw [if_neg c2]
      · rw [wrJ_ne (fun z => by omega), w1 p hp l' hl']
        by_cases c3 : j ≤ p ∧ p < plR R
        · rw [if_pos c3, if_pos ⟨by omega, c3.2⟩]
        · rw [if_neg c3, if_neg (fun z => c3 ⟨by omega, z.2⟩)]
  have go : ∀ m j V1, j + m = plR R → Fc V V1 s45 → W45 V1 R nt fa r j 0 → vwp E d M_X12_without 41 [some (sl 6 0), some (wi (nI q)), some (wi (nI r)), some (wi (nI l)), some (wi (nI (lvn R r))), some (wi (nI j)), none, none, none] [] V1 (zj K) := by
    intro m
    induction m with
    | zero =>
      intro j V1 e f1 w1
      have : j = plR R := by omega
      subst this
      have T1 : Tq V1 (plR R) (scW R nt fa r) := ⟨p20, fun p hp l' hl' => by rw [w1 p hp l' hl', if_pos ⟨Nat.zero_le p, hp⟩]⟩
      have m1 := fx f1
      have sq := m1.1.2.2.2.2.1
      refine w_X12_without_41 (by omega) ?_
      rw [nI_clamp (show q < 2 ^ 31 by omega), epl f1]
      refine ⟨vp_in_nI q5 (by decide), fun _ => ?_, fun z => absurd (nI_le (Nat.le_refl _) (by omega)) z⟩
      refine c_firstBest (sc := scW R nt fa r) (fx := tst x) (h := h) (by omega) sq m1.1.2.2.2.2.2.2.2.2.1 m1.1.2.2.2.2.2.2.2.2.2.1 T1 (fun z => ⟨fun w => absurd w (by decide), fun _ => w_X12_without_135 ?_⟩) (fun z => ?_)
      · exact back (plR R) 0 V1 _ _ (Nat.zero_add _) f1 w1 (fun V' f' w' => hk V' _ f' w' (fun _ => rfl) (fun y => absurd z y))
      · have hb : bst (scW R nt fa r) (woL R nt fa h x r) < plR R := List.mem_range.mp (List.mem_filter.mp (bst_mem (sc := scW R nt fa r) z)).1
        have hb' : bst (scW R nt fa r) (gds (szR R) (tcR R 1) (tst x) h (scW R nt fa r)) < plR R := hb
        rw [i20k, nI_clamp (show 20000 * l + bst (scW R nt fa r) (woL R nt fa h x r) < 2 ^ 31 by omega), w1 _ hb l hl, if_pos ⟨Nat.zero_le _, hb⟩]
        exact ⟨fun _ => ⟨vp_in_nI (by omega) (by decide), w_X12_without_135 (back (plR R) 0 V1 _ _ (Nat.zero_add _) f1 w1 (fun V' f' w' => hk V' _ f' w' (fun y => absurd y z) (fun _ => rfl)))⟩, fun w => absurd (nI_le (a := 0) (Nat.zero_le _) (by omega)) w⟩
    | succ m ih =>
      intro j V1 e f1 w1
      have hj : j < plR R := by omega
      refine w_X12_without_41 (by omega) ?_
      rw [nI_clamp (show q < 2 ^ 31 by omega), epl f1, i20k, i20k, i24, nI_clamp (show 20000 * lvn R r + j < 2 ^ 31 by omega), nI_clamp (show 20000 * r + j < 2 ^ 31 by omega), nI_clamp (show 24 * q + r < 2 ^ 31 by omega), e25 f1, e43 f1 j hj, w1 j hj _ l3, if_neg (fun z => by omega)]
      refine ⟨vp_in_nI q5 (by decide), fun z => absurd z (nI_ge hj (by omega)), fun _ => ⟨vp_in_nI (by omega) (by decide), vp_in_nI (by omega) (by decide), vp_in_nI (by omega) (by decide), vp_in_nI (by omega) (by decide), fun V9 e9 => ?_⟩⟩
      rw [nI_1]
      refine ih (j + 1) V9 (by omega) (f1.trans (by rw [e9]; exact Fc_wrJ ⟨rfl, rfl⟩)) (fun p hp l' hl' => ?_)
      rw [e9]
      by_cases c : p = j
      · subst c
        rw [if_pos ⟨Nat.zero_le p, Nat.lt_succ_self p⟩]
        unfold scW
        by_cases c2 : l' = lvn R r
        · subst c2
          rw [wrJ_at, if_pos rfl]
        · rw [wrJ_ne (fun z => c2 (by omega)), w1 p hp l' hl', if_neg (fun z => by omega), if_neg c2]
      · rw [wrJ_ne (fun z => by omega), w1 p hp l' hl']
        by_cases c3 : 0 ≤ p ∧ p < j
        · rw [if_pos c3, if_pos ⟨c3.1, by omega⟩]
        · rw [if_neg c3, if_neg (fun z => c3 ⟨z.1, by omega⟩)]
  exact go (plR R) 0 V (Nat.zero_add _) Fc.refl (fun p hp l' hl' => by rw [if_neg (fun z => by omega)]; exact hm.tq.2 p hp l' hl')
end
section
variable {E : EE} {d x B B' : Nat}
theorem o_without (h0 : 190 < d) (hB : B ≤ B') : VO_without E d (JA x B) (JA x B') := fun V a0 a1 a2 hJ => liftJ hJ (fun hW hS => by
  rcases hS.inQ a0 with ⟨hP, hM⟩ | ⟨q, t, n, R, nt, fa, h, px, cs, hq, rfl, hI⟩
  · exact nul_without (J := fun V2 => WF V2 → JS B' V2) (by omega) hW hP hM (fun _ => hS.mono hB)
  · have p20 := hI.p20
    have r24 : tcR R 2 ≤ 24 := hI.1.2.2.2.1.1 2 (by decide)
    refine w_X11_without_0 (by omega) (c_scoredW (by omega) hW hq hS hI (fun V1 hW1 hS1 hI1 s1 => ⟨fun z => absurd hI1.2.1.1.1 z, fun _ => ⟨hI1.2.1.1.2, c_isRuleC hI1 (fun hn => ⟨fun _ => ?_, fun z => absurd rfl z⟩) (fun r hr er => ⟨fun z => absurd z (by decide), fun _ => c_lvlC (fun hn => ⟨fun z => absurd rfl z, fun _ => ?_⟩) (fun l hl el => ⟨fun _ => ?_, fun z => absurd z (by decide)⟩)⟩)⟩⟩))
    · exact w_X12_without_0 (by omega) (c_isRuleM (by omega) hI1.1 hI1.mi hq (fun _ => ⟨fun _ => ⟨rfl, fun _ => hS1.mono hB⟩, fun z => absurd rfl z⟩) (fun u hu e => absurd e (hn u hu)))
    · exact w_X12_without_0 (by omega) (c_isRuleM (by omega) hI1.1 hI1.mi hq (fun w => absurd er (w r hr)) (fun _ _ _ => ⟨fun z => absurd z (by decide), fun _ => c_lvlM (fun _ => ⟨fun z => absurd rfl z, fun _ => ⟨rfl, fun _ => hS1.mono hB⟩⟩) (fun l hl el => absurd el (hn l hl))⟩))
    · subst er
      subst el
      have ref : ∀ (y : Int64) (V4 : VH), Fc V1 V4 (csS q) → (woL R nt fa h px r = [] → y = -9223372036854775808) → (woL R nt fa h px r ≠ [] → y = scW R nt fa r (bst (scW R nt fa r) (woL R nt fa h px r)) l) → vMJ E d M_X12_without [sl 6 0, wi (nI q), wi (nI r), wi (nI l)] V4 (fun r' V2 => y = r' ∧ (WF V2 → JS B' V2)) := fun y V4 f4 c1 c2 => by
        have mi := hI1.mi.fc hI1.1 f4 (fun f j y => absurd y (csS_6 hI1 f j))
        refine w_X12_without_0 (by omega) (c_isRuleM (by omega) hI1.1 mi hq (fun w => absurd rfl (w r hr)) (fun _ _ _ => ⟨fun z => absurd z (by decide), fun _ => c_lvlM (fun w => absurd rfl (w l hl)) (fun _ _ _ => ⟨fun _ => know_go (by omega) hI1 f4 (csS_6 hI1) (fun V2 f2 w mi2 e1 e2 => ?_), fun w => absurd w (by decide)⟩)⟩))
        obtain ⟨l3, elv, _, _⟩ := hI1.1.rule hr
        have e24 : vI V2 6 24 (24 * q + r) = nI (lvn R r) := by rw [(mi2.1.2.2.2.2.2.2.1.1 r hr).1]; exact elv
        rw [i24, nI_clamp (show 24 * q + r < 2 ^ 31 by omega), e24]
        refine ⟨vp_in_nI (by omega) (by decide), c_wo (by omega) hI1.1 ⟨mi2, w⟩ hr hl (fun V5 y' f5 w5 d1 d2 => ⟨?_, fun _ => ?_⟩)⟩
        · by_cases c : woL R nt fa h px r = []
          · rw [c1 c, d1 c]
          · rw [c2 c, d2 c]
        · have k : Fc V1 V5 (enK q) := ((f4.mono (fun a f j y => ⟨Or.inl ⟨y.1, by have := y.2; omega⟩, fun z => by have := y.1; omega, fun z => by have := y.1; omega⟩)).trans (f2.mono (fun a f j y => waS_ek y))).trans (f5.mono (fun a f j y => ⟨Or.inr (Or.inl ⟨y.1, Or.inr (Or.inr (by have := y.2; omega))⟩), fun z => by have := y.1; omega, fun z => by have := y.2; omega⟩))
          have m5 := mi2.fc hI1.1 f5 (fun f j y => Or.inr (Or.inr (by have := y.2; omega)))
          refine (hS1.ek hI1 hq k w5 (by rw [f5.i (fun y => by have := y.2; omega)]; exact e1) (by rw [f5.i (fun y => by have := y.2; omega)]; exact e2) ⟨?_, hI1.hnd.2⟩ m5.1.2.2.2.2.2.2.2.2.1).1.mono hB
          rw [f5.i (fun y => by have := y.1; omega), f2.i (fun y => by rcases y with ⟨y, _⟩ | ⟨y, _⟩ <;> omega), f4.i (fun y => by have := y.2; omega)]
          exact hI1.hnd.1
      refine c_bestLacking (by omega) hW1 hI1 s1 hr (fun z V4 f4 => ⟨fun _ => ref _ V4 f4 (fun _ => rfl) (fun y => absurd z y), fun y => absurd rfl y⟩) (fun z V4 f4 e28 => ⟨fun y => absurd y (by decide), fun _ => ⟨vp_in_nI hl (by decide), ?_⟩⟩)
      rw [nI_clamp (show l < 2 ^ 31 by omega), e28 l hl]
      exact ref _ V4 f4 (fun y => absurd y z) (fun _ => rfl))
end
