/-! the reference reads: names in a row, special tests -/
section
variable {E : EE} {d : Nat} {p : Nat} {t : Nat → Int32} {n : Nat} {tc : Nat → Nat} {nm : Nat → Nat → Int64} {o : Nat}
/-- what follows a name in a row of names -/
def rst (T : Nat → TK) (M : MN) (least q k j : Nat) : NR (List Nat) := if q = 0 ∨ (least ≤ k + 1 ∧ (T j).1 ≠ 44) then .inr (j, []) else if (T j).1 = 44 then nms T M least q (k + 1) (j + 1) else .inl (rfe T j)
theorem nms_r {T : Nat → TK} {M : MN} {least m k i : Nat} : nms T M least (m + 1) k i = nrB (vrb T M i) (fun i1 v => nrB (rst T M least m k i1) (fun i2 vs => .inr (i2, v :: vs))) := by
  rw [nms]
  congr 1
  funext i1 v
  unfold rst
  by_cases c : m = 0 ∨ (least ≤ k + 1 ∧ (T i1).1 ≠ 44)
  · rw [if_pos c, if_pos c]; rfl
  · rw [if_neg c, if_neg c]
    by_cases c2 : (T i1).1 = 44
    · rw [if_pos c2, if_pos c2]
    · rw [if_neg c2, if_neg c2]; rfl
theorem md_names {x y : Int32} {V : VH} {K : Int32 → VH → Prop} (h0 : 1 < d) (h : ¬ vI V 6 0 45 = 0) (hk : K 1 V) : vMI E d M_X12_names [sl 6 0, wi x, wi y] V K := w_X12_names_0 (by omega) (md_aVar (by omega) h (w_X12_names_6 ⟨fun _ => hk, fun q => absurd q h⟩))
theorem ms_names {most least : Nat} {jst : Int32} {V : VH} {i : Nat} {K : Int32 → VH → Prop} (hF : eFr E) (h0 : 10 < d) (h : MZ V p t n tc nm i o) (hm : 1 ≤ most) (hm2 : most ≤ 12) (hj : ¬ jst = 0 ∧ least = most ∨ jst = 0 ∧ least = 1) (hk : ∀ V' c, MO V V' p t n tc nm o i (nrI (nms (tkT t n) (lku tc nm) least most 0 i)) → 1 ≤ c → c ≤ most → (∀ i1 vs, nms (tkT t n) (lku tc nm) least most 0 i = .inr (i1, vs) → c = vs.length) → K (nI c) V') : vMI E d M_X12_names [sl 6 0, wi (nI most), wi jst] V K := by
  have go : ∀ (q k j : Nat) (W : VH) (K : Int32 → VH → Prop), k + 1 + q = most → MZ W p t n tc nm j o → (∀ V' c, MO W V' p t n tc nm o j (nrI (rst (tkT t n) (lku tc nm) least q k j)) → k + 1 ≤ c → c ≤ most → (∀ i1 vs, rst (tkT t n) (lku tc nm) least q k j = .inr (i1, vs) → c = k + 1 + vs.length) → K (nI c) V') → vwp E d M_X12_names 6 [some (sl 6 0), some (wi (nI most)), some (wi jst), some (wi (nI (k + 1)))] [] W (zi K) := by
    intro q
    induction q with
    | zero =>
      intro k j W K e s hk
      have z : rst (tkT t n) (lku tc nm) least 0 k j = .inr (j, []) := by unfold rst; rw [if_pos (Or.inl rfl)]
      rw [z] at hk
      have fin := hk W (k + 1) s.id (Nat.le_refl _) (by omega) (fun i1 vs y => by cases y; rfl)
      exact w_X12_names_6 ⟨fun y => absurd s.2.1 y, fun _ => ⟨fun _ => fin, fun y => absurd (nI_le (by omega) (by omega)) y⟩⟩
    | succ q ih =>
      intro k j W K e s hk
      have e44 := s.is 44 (by decide)
      have more : ¬ (q + 1 = 0 ∨ (least ≤ k + 1 ∧ (tkT t n j).1 ≠ 44)) → vwp E d M_X12_names 31 [some (sl 6 0), some (wi (nI most)), some (wi jst), some (wi (nI (k + 1)))] [] W (zi K) := fun c => by
        have z : rst (tkT t n) (lku tc nm) least (q + 1) k j = if (tkT t n j).1 = 44 then nms (tkT t n) (lku tc nm) least (q + 1) (k + 1) (j + 1) else .inl (rfe (tkT t n) j) := by unfold rst; rw [if_neg c]
        rw [z] at hk
        refine w_X12_names_31 (by omega) ?_
        have dead : ∀ (W1 : VH) (e : Nat × Nat), MO W W1 p t n tc nm o j (.inl e) → (∀ V' c, MO W V' p t n tc nm o j (.inl e) → k + 1 ≤ c → c ≤ most → K (nI c) V') → vwp E d M_X12_names 6 [some (sl 6 0), some (wi (nI most)), some (wi jst), some (wi (nI (k + 1) + 1))] [] W1 (zi K) := fun W1 e m1 hk => by
          rw [nI_1]
          exact w_X12_names_6 ⟨fun _ => hk W1 (k + 1 + 1) m1 (by omega) (by omega), fun y => absurd y m1.dead⟩
        refine ms_need (c := 44) hF (by omega) s rfl (by decide) (by decide) (fun W1 m1 => ?_)
        unfold nee at m1
        by_cases c2 : (tkT t n j).1 = 44
        · rw [if_pos c2] at m1 hk
          rw [nms_r] at hk
          refine ms_aVar hF (by omega) m1.2.1 (fun W3 m3 => ?_)
          cases w : vrb (tkT t n) (lku tc nm) (j + 1) with
          | inl e =>
            rw [w] at m3 hk
            exact dead W3 e (m1.tr m3) (fun V' c m a b => hk V' c m a b (fun i1 vs y => by cases y))
          | inr z2 =>
            rw [w] at m3 hk
            rw [nrB_r] at hk
            have m4 := m1.tr m3
            rw [nI_1]
            refine ih (k + 1) z2.1 W3 K (by omega) m3.2.1 (fun V' c m a b vv => hk V' c ?_ (by omega) b (fun i1 vs y => ?_))
            · rw [nrI_b _ _ .inr (fun i2 vs _ => rfl), thn_inr]
              exact m4.tr m
            · cases w2 : rst (tkT t n) (lku tc nm) least q (k + 1) z2.1 with
              | inl e => rw [w2] at y; cases y
              | inr z3 =>
                rw [w2, nrB_r] at y
                cases y
                rw [vv z3.1 z3.2 (by rw [w2]), List.length_cons]; omega
        · rw [if_neg c2] at m1 hk
          exact md_aVar (by omega) m1.dead (dead W1 _ m1 (fun V' c m a b => hk V' c m a b (fun i1 vs y => by cases y)))
      have fin : (least ≤ k + 1 ∧ (tkT t n j).1 ≠ 44) → K (nI (k + 1)) W := fun c => by
        have z : rst (tkT t n) (lku tc nm) least (q + 1) k j = .inr (j, []) := by unfold rst; rw [if_pos (Or.inr c)]
        rw [z] at hk
        exact hk W (k + 1) s.id (Nat.le_refl _) (by omega) (fun i1 vs y => by cases y; rfl)
      refine w_X12_names_6 ⟨fun y => absurd s.2.1 y, fun _ => ⟨fun y => absurd y (nI_ge (by omega) (by omega)), fun _ => ⟨fun y => more ?_, fun y => ⟨fun y2 => fin ?_, fun y2 => more ?_⟩⟩⟩⟩
      · rcases hj with ⟨_, a⟩ | ⟨a, _⟩
        · omega
        · exact absurd a y
      · rcases hj with ⟨a, _⟩ | ⟨_, a⟩
        · exact absurd y a
        · exact ⟨by omega, fun z => y2 (e44.mpr z)⟩
      · intro z
        rcases z with z | z
        · omega
        · exact z.2 (e44.mp y2)
  obtain ⟨m', rfl⟩ : ∃ m', most = m' + 1 := ⟨most - 1, by omega⟩
  rw [nms_r] at hk
  refine w_X12_names_0 (by omega) (ms_aVar hF (by omega) h (fun V1 m1 => ?_))
  cases w : vrb (tkT t n) (lku tc nm) i with
  | inl e =>
    rw [w] at m1 hk
    exact w_X12_names_6 ⟨fun _ => hk V1 1 m1 (Nat.le_refl _) hm (fun i1 vs y => by cases y), fun y => absurd y m1.dead⟩
  | inr z2 =>
    rw [w] at m1 hk
    rw [nrB_r] at hk
    refine go m' 0 z2.1 V1 K (by omega) m1.2.1 (fun V' c m a b vv => hk V' c ?_ a b (fun i1 vs y => ?_))
    · rw [nrI_b _ _ .inr (fun i2 vs _ => rfl), thn_inr]
      exact m1.tr m
    · cases w2 : rst (tkT t n) (lku tc nm) least m' 0 z2.1 with
      | inl e => rw [w2] at y; cases y
      | inr z3 =>
        rw [w2, nrB_r] at y
        cases y
        rw [vv z3.1 z3.2 (by rw [w2]), List.length_cons]; omega
theorem st_names {most least : Nat} {jst : Int32} (hF : eFr E) (h0 : 10 < d) (hm : 1 ≤ most) (hm2 : most ≤ 12) (hj : ¬ jst = 0 ∧ least = most ∨ jst = 0 ∧ least = 1) : StQ p t n tc nm o (fun V K => vMI E d M_X12_names [sl 6 0, wi (nI most), wi jst] V (fun _ V1 => K V1)) (fun i => nrI (nms (tkT t n) (lku tc nm) least most 0 i)) := ⟨fun V i K hM hk => ms_names hF h0 hM hm hm2 hj (fun V' c m _ _ _ => hk V' m), fun V K hD hk => md_names (by omega) hD hk⟩
/-- what comes behind the names of a special test -/
def tl52 (T : Nat → TK) (M : MN) (w c : Nat) : Nat → (Nat × Nat) ⊕ Nat :=
  if w = 306 ∨ w = 309 then nee T 41
  else if w = 308 then fun a => thn (nee T 58 a) (fun b => thn (nrI (nms T M c c 0 b)) (nee T 41))
  else if w = 307 then fun a => thn (nee T 58 a) (fun b => thn (nrI (grs T M shR c 40 b)) (nee T 41))
  else if w = 310 then fun a => thn (nee T 58 a) (fun b => thn (nrI (grs T M shS 3 40 b)) (fun e => thn (nee T 58 e) (fun f => thn (nrI (nls T false 9 10 f)) (nee T 41))))
  else if w = 311 then fun a => thn (nee T 58 a) (fun b => thn (nrI (grs T M shB 3 40 b)) (nee T 41))
  else fun a => thn (nrI (grs T M shA 4 40 a)) (nee T 41)
theorem st_52 {w c : Nat} (hF : eFr E) (h0 : 16 < d) (hw : 306 ≤ w) (hw2 : w ≤ 312) (hc : (w ≠ 311 ∧ w ≠ 312) → 1 ≤ c ∧ c ≤ 12) : StQ p t n tc nm o (fun V K => vwp E d M_X12_special 52 [some (sl 6 0), some (wi (nI w)), some (wi (nI c)), none] [] V (zv K)) (tl52 (tkT t n) (lku tc nm) w c) := by
  have n41 : StQ p t n tc nm o (fun V K => vMV E (d - 1) M_X12_need [sl 6 0, wi 41] V K) (nee (tkT t n) 41) := st_need hF (by omega) rfl (by decide) (by decide)
  have n58 : StQ p t n tc nm o (fun V K => vMV E (d - 1) M_X12_need [sl 6 0, wi 58] V K) (nee (tkT t n) 58) := st_need hF (by omega) rfl (by decide) (by decide)
  have eqw : ∀ m : Nat, m < 400 → (nI w = nI m ↔ w = m) := fun m hm => nI_eq (by omega) (by omega)
  have d6 := eqw 306 (by decide)
  have d7 := eqw 307 (by decide)
  have d8 := eqw 308 (by decide)
  have d9 := eqw 309 (by decide)
  have d10 := eqw 310 (by decide)
  have d11 := eqw 311 (by decide)
  have d12 := eqw 312 (by decide)
  have l147 : ∀ {V : VH} {K : VH → Prop}, vMV E (d - 1) M_X12_need [sl 6 0, wi 41] V K → vwp E d M_X12_special 147 [some (sl 6 0), some (wi (nI w)), some (wi (nI c)), none] [] V (zv K) := fun h => w_X12_special_147 (by omega) h
  have l130 : w ≠ 310 → ∀ {V : VH} {K : VH → Prop}, vMV E (d - 1) M_X12_need [sl 6 0, wi 41] V K → vwp E d M_X12_special 130 [some (sl 6 0), some (wi (nI w)), some (wi (nI c)), none] [] V (zv K) := fun hw {V K} h => w_X12_special_130 (by omega) ⟨fun _ => l147 h, fun q => absurd (d10.mp q) hw⟩
  have cases_ : w = 306 ∨ w = 307 ∨ w = 308 ∨ w = 309 ∨ w = 310 ∨ w = 311 ∨ w = 312 := by omega
  rcases cases_ with e | e | e | e | e | e | e
  · refine (n41.by_ (fun V K h => ?_)).ex (fun i => by unfold tl52; rw [if_pos (Or.inl e)])
    exact w_X12_special_52 (by omega) ⟨fun _ => w_X12_special_79 (by omega) ⟨fun _ => ⟨fun q => absurd (d7.mp q) (by omega), fun _ => ⟨fun q => absurd (d10.mp q) (by omega), fun _ => ⟨fun q => absurd (d11.mp q) (by omega), fun _ => ⟨fun _ => l130 (by omega) h, fun q => absurd (d12.mp q) (by omega)⟩⟩⟩⟩, fun q => absurd (d8.mp q) (by omega)⟩, fun q => absurd (d6.mpr e) q⟩
  · obtain ⟨c1, c2⟩ := hc (by omega)
    have it : StQ p t n tc nm o (fun V K => vMV E (d - 1) M_X12_items [sl 6 0, wi (nI 307), wi (nI c)] V K) (fun i => nrI (grs (tkT t n) (lku tc nm) shR c 40 i)) := st_items hF (by omega) (fun d' hd => st_item_row hF hd c1 c2)
    refine (((n58.seq it).seq n41).by_ (fun V K h => ?_)).ex (fun i => by unfold tl52; rw [if_neg (by omega), if_neg (by omega), if_pos e, thn_assoc])
    rw [e]
    rw [e] at d6 d7 d8 d9 d10 d11 d12 l130
    exact w_X12_special_52 (by omega) ⟨fun q => absurd q (by decide), fun _ => ⟨fun q => absurd q (by decide), fun _ => ⟨fun q => absurd q (by decide), fun _ => vMV.mono h (fun V1 h1 => w_X12_special_79 (by omega) ⟨fun _ => ⟨fun _ => w_X12_special_124 (by omega) (vMV.mono h1 (fun V2 h2 => l130 (by omega) h2)), fun q => absurd rfl q⟩, fun q => absurd q (by decide)⟩)⟩⟩⟩
  · obtain ⟨c1, c2⟩ := hc (by omega)
    have it : StQ p t n tc nm o (fun V K => vMI E (d - 1) M_X12_names [sl 6 0, wi (nI c), wi 1] V (fun _ V1 => K V1)) (fun i => nrI (nms (tkT t n) (lku tc nm) c c 0 i)) := st_names hF (by omega) c1 c2 (Or.inl ⟨by decide, rfl⟩)
    refine (((n58.seq it).seq n41).by_ (fun V K h => ?_)).ex (fun i => by unfold tl52; rw [if_neg (by omega), if_pos e, thn_assoc])
    rw [e]
    rw [e] at l130
    exact w_X12_special_52 (by omega) ⟨fun q => absurd q (by decide), fun _ => ⟨fun q => absurd q (by decide), fun _ => ⟨fun q => absurd q (by decide), fun _ => vMV.mono h (fun V1 h1 => w_X12_special_79 (by omega) ⟨fun q => absurd rfl q, fun _ => vMI.mono h1 (fun r V2 h2 => l130 (by omega) h2)⟩)⟩⟩⟩
  · refine (n41.by_ (fun V K h => ?_)).ex (fun i => by unfold tl52; rw [if_pos (Or.inr e)])
    rw [e]
    rw [e] at l130
    exact w_X12_special_52 (by omega) ⟨fun q => absurd q (by decide), fun _ => ⟨fun _ => w_X12_special_79 (by omega) ⟨fun _ => ⟨fun q => absurd q (by decide), fun _ => ⟨fun q => absurd q (by decide), fun _ => ⟨fun q => absurd q (by decide), fun _ => ⟨fun _ => l130 (by omega) h, fun q => absurd q (by decide)⟩⟩⟩⟩, fun q => absurd q (by decide)⟩, fun q => absurd rfl q⟩⟩
  · have it : StQ p t n tc nm o (fun V K => vMV E (d - 1) M_X12_items [sl 6 0, wi (nI 310), wi (nI c)] V K) (fun i => nrI (grs (tkT t n) (lku tc nm) shS 3 40 i)) := st_items hF (by omega) (fun d' hd => st_item_auto hF hd)
    have ss : StQ p t n tc nm o (fun V K => vMV E (d - 1) M_X12_states [sl 6 0] V K) (fun i => nrI (nls (tkT t n) false 9 10 i)) := st_states hF (by omega)
    refine (((((n58.seq it).seq n58).seq ss).seq n41).by_ (fun V K h => ?_)).ex (fun i => by unfold tl52; rw [if_neg (by omega), if_neg (by omega), if_neg (by omega), if_pos e]; simp only [thn_assoc])
    rw [e]
    rw [e] at l147
    exact w_X12_special_52 (by omega) ⟨fun q => absurd q (by decide), fun _ => ⟨fun q => absurd q (by decide), fun _ => ⟨fun q => absurd q (by decide), fun _ => vMV.mono h (fun V1 h1 => w_X12_special_79 (by omega) ⟨fun _ => ⟨fun q => absurd q (by decide), fun _ => ⟨fun _ => w_X12_special_124 (by omega) (vMV.mono h1 (fun V2 h2 => w_X12_special_130 (by omega) ⟨fun q => absurd rfl q, fun _ => vMV.mono h2 (fun V3 h3 => vMV.mono h3 (fun V4 h4 => l147 h4))⟩)), fun q => absurd rfl q⟩⟩, fun q => absurd q (by decide)⟩)⟩⟩⟩
  · have it : StQ p t n tc nm o (fun V K => vMV E (d - 1) M_X12_items [sl 6 0, wi (nI 311), wi (nI c)] V K) (fun i => nrI (grs (tkT t n) (lku tc nm) shB 3 40 i)) := st_items hF (by omega) (fun d' hd => st_item_busy hF hd)
    refine (((n58.seq it).seq n41).by_ (fun V K h => ?_)).ex (fun i => by unfold tl52; rw [if_neg (by omega), if_neg (by omega), if_neg (by omega), if_neg (by omega), if_pos e, thn_assoc])
    rw [e]
    rw [e] at l130
    exact w_X12_special_52 (by omega) ⟨fun q => absurd q (by decide), fun _ => ⟨fun q => absurd q (by decide), fun _ => ⟨fun q => absurd q (by decide), fun _ => vMV.mono h (fun V1 h1 => w_X12_special_79 (by omega) ⟨fun _ => ⟨fun q => absurd q (by decide), fun _ => ⟨fun q => absurd q (by decide), fun _ => ⟨fun _ => w_X12_special_124 (by omega) (vMV.mono h1 (fun V2 h2 => l130 (by omega) h2)), fun q => absurd rfl q⟩⟩⟩, fun q => absurd q (by decide)⟩)⟩⟩⟩
  · have it : StQ p t n tc nm o (fun V K => vMV E (d - 1) M_X12_items [sl 6 0, wi (nI 312), wi (nI c)] V K) (fun i => nrI (grs (tkT t n) (lku tc nm) shA 4 40 i)) := st_items hF (by omega) (fun d' hd => st_item_apart hF hd)
    refine ((it.seq n41).by_ (fun V K h => ?_)).ex (fun i => by unfold tl52; rw [if_neg (by omega), if_neg (by omega), if_neg (by omega), if_neg (by omega), if_neg (by omega)])
    rw [e]
    rw [e] at l130
    exact w_X12_special_52 (by omega) ⟨fun q => absurd q (by decide), fun _ => ⟨fun q => absurd q (by decide), fun _ => ⟨fun _ => w_X12_special_79 (by omega) ⟨fun _ => ⟨fun q => absurd q (by decide), fun _ => ⟨fun q => absurd q (by decide), fun _ => ⟨fun q => absurd q (by decide), fun _ => ⟨fun q => absurd rfl q, fun _ => w_X12_special_124 (by omega) (vMV.mono h (fun V2 h2 => l130 (by omega) h2))⟩⟩⟩⟩, fun q => absurd q (by decide)⟩, fun q => absurd rfl q⟩⟩⟩
/-- the same in the spec's words -/
theorem spc_I {T : Nat → TK} {M : MN} {nb i : Nat} (hw : 306 ≤ (T i).1) (hw2 : (T i).1 ≤ 312) : rsI (spc T M nb i) = thn (nee T 40 (i + 1)) (fun a => if (T i).1 = 312 then tl52 T M 312 0 a else if (T i).1 = 311 then thn (nrI (nmr T false 0 9999 a)) (tl52 T M 311 0) else match nms T M 1 12 0 a with
    | .inl e => .inl e
    | .inr q => tl52 T M (T i).1 q.2.length q.1) := by
  have fin : ∀ (r : NR (List Int32)), rsI (nrB r (fun i1 N => if (T i1).1 = 41 then rsO (i1 + 1) [(nI ((T i).1 - 284), nI nb)] N else .inl (rfe T i1))) = thn (nrI r) (nee T 41) := fun r => by
    cases r with
    | inl e => rfl
    | inr q =>
      show rsI (if (T q.1).1 = 41 then _ else _) = (if (T q.1).1 = 41 then _ else _)
      by_cases c : (T q.1).1 = 41
      · rw [if_pos c, if_pos c]; rfl
      · rw [if_neg c, if_neg c]; rfl
  unfold spc nee
  by_cases c : (T (i + 1)).1 = 40
  · rw [if_pos c, if_pos c, fin]
    show _ = (if (T i).1 = 312 then tl52 T M 312 0 (i + 2) else if (T i).1 = 311 then _ else _)
    unfold lst
    by_cases c12 : (T i).1 = 312
    · rw [if_pos c12, if_pos c12, nrI_b _ _ .inr (fun i1 q _ => rfl), thn_inr]; rfl
    · rw [if_neg c12, if_neg c12]
      by_cases c11 : (T i).1 = 311
      · rw [if_pos c11, if_pos c11]
        rw [nrI_b _ _ (fun a => thn (nee T 58 a) (fun b => nrI (grs T M shB 3 40 b))) (fun i1 x _ => ?_), thn_assoc]
        · congr 1
          funext a
          rw [thn_assoc]
          rfl
        · unfold nee
          by_cases c58 : (T i1).1 = 58
          · rw [if_pos c58, if_pos c58, nrI_b _ _ .inr (fun i1 q _ => rfl), thn_inr]; rfl
          · rw [if_neg c58, if_neg c58]; rfl
      · rw [if_neg c11, if_neg c11]
        cases w : nms T M 1 12 0 (i + 2) with
        | inl e => rfl
        | inr q =>
          rw [nrB_r]
          show _ = tl52 T M (T i).1 q.2.length q.1
          unfold tl52
          by_cases ca : (T i).1 = 306 ∨ (T i).1 = 309
          · rw [if_pos ca, if_pos ca]; rfl
          · rw [if_neg ca, if_neg ca]
            by_cases c58 : (T q.1).1 = 58
            · rw [if_pos c58]
              have n58 : nee T 58 q.1 = .inr (q.1 + 1) := by unfold nee; rw [if_pos c58]
              by_cases c8 : (T i).1 = 308
              · rw [if_pos c8, if_pos c8]
                show _ = thn (nee T 58 q.1) _
                rw [n58, nrI_b _ _ .inr (fun i1 q _ => rfl), thn_inr]; rfl
              · rw [if_neg c8, if_neg c8]
                by_cases c7 : (T i).1 = 307
                · rw [if_pos c7, if_pos c7]
                  show _ = thn (nee T 58 q.1) _
                  rw [n58, nrI_b _ _ .inr (fun i1 q _ => rfl), thn_inr]; rfl
                · rw [if_neg c7, if_neg c7, if_pos (by omega)]
                  show _ = thn (nee T 58 q.1) _
                  rw [n58, nrI_b _ _ (fun e => thn (nee T 58 e) (fun f => nrI (nls T false 9 10 f))) (fun i2 q2 _ => ?_), thn_assoc]
                  · show _ = thn (nrI (grs T M shS 3 40 (q.1 + 1))) _
                    congr 1
                    funext e
                    rw [thn_assoc]
                  · unfold nee
                    by_cases c5 : (T i2).1 = 58
                    · rw [if_pos c5, if_pos c5, nrI_b _ _ .inr (fun i1 q _ => rfl), thn_inr]; rfl
                    · rw [if_neg c5, if_neg c5]; rfl
            · rw [if_neg c58]
              have n58 : nee T 58 q.1 = .inl (rfe T q.1) := by unfold nee; rw [if_neg c58]
              by_cases c8 : (T i).1 = 308
              · rw [if_pos c8]; show _ = thn (nee T 58 q.1) _; rw [n58]; rfl
              · rw [if_neg c8]
                by_cases c7 : (T i).1 = 307
                · rw [if_pos c7]; show _ = thn (nee T 58 q.1) _; rw [n58]; rfl
                · rw [if_neg c7, if_pos (by omega)]; show _ = thn (nee T 58 q.1) _; rw [n58]; rfl
  · rw [if_neg c, if_neg c]; rfl
theorem ms_special {nb i : Nat} {V : VH} {K : VH → Prop} (hF : eFr E) (h0 : 18 < d) (h : MZ V p t n tc nm i o) (hw : 306 ≤ (tkT t n i).1) (hw2 : (tkT t n i).1 ≤ 312) (hk : ∀ V', MO V V' p t n tc nm o i (rsI (spc (tkT t n) (lku tc nm) nb i)) → K V') : vMV E d M_X12_special [sl 6 0] V K := by
  rw [spc_I hw hw2] at hk
  have et := h.tok.1
  have eqw : ∀ m : Nat, m < 400 → (nI (tkT t n i).1 = nI m ↔ (tkT t n i).1 = m) := fun m hm => nI_eq (by omega) (by omega)
  refine w_X12_special_0 (by omega) ?_
  rw [et]
  refine ms_keep hF (by omega) h (by omega) (by omega) (nuq_0 (by omega) (by omega)) (fun V1 m1 => ?_)
  refine ms_need (c := 40) hF (by omega) m1.2.1 rfl (by decide) (by decide) (fun V3 m3 => ?_)
  cases w : nee (tkT t n) 40 (i + 1) with
  | inl e =>
    rw [w] at m3 hk
    have hk2 := hk V3 (m1.tr m3)
    have D := m3.dead
    have tl : ∀ c, ((tkT t n i).1 ≠ 311 ∧ (tkT t n i).1 ≠ 312 → 1 ≤ c ∧ c ≤ 12) → vwp E d M_X12_special 52 [some (sl 6 0), some (wi (nI (tkT t n i).1)), some (wi (nI c)), none] [] V3 (zv K) := fun c hc => (st_52 (p := p) (t := t) (n := n) (tc := tc) (nm := nm) (o := o) hF (by omega) hw hw2 hc).2 V3 K D hk2
    refine ⟨fun q => ⟨fun q2 => tl 0 (fun z => absurd ((eqw 312 (by decide)).mp q2) z.2), fun q2 => md_names (by omega) D (tl 1 (fun _ => ⟨by decide, by decide⟩))⟩, fun q => md_aNumber (by omega) D (tl 0 (fun z => absurd ((eqw 311 (by decide)).mp q) z.1))⟩
  | inr a =>
    rw [w] at m3 hk
    have s3 := m3.2.1
    have m13 := m1.tr m3
    have hk : ∀ V', MO V V' p t n tc nm o i (if (tkT t n i).1 = 312 then tl52 (tkT t n) (lku tc nm) 312 0 a else if (tkT t n i).1 = 311 then thn (nrI (nmr (tkT t n) false 0 9999 a)) (tl52 (tkT t n) (lku tc nm) 311 0) else match nms (tkT t n) (lku tc nm) 1 12 0 a with
      | .inl e => .inl e
      | .inr q => tl52 (tkT t n) (lku tc nm) (tkT t n i).1 q.2.length q.1) → K V' := hk
    refine ⟨fun q => ⟨fun q2 => ?_, fun q2 => ?_⟩, fun q => ?_⟩
    · have c := (eqw 312 (by decide)).mp q2
      rw [if_pos c] at hk
      rw [c]
      exact (st_52 (w := 312) (c := 0) hF (by omega) (by decide) (by decide) (fun z => by omega)).1 V3 a K s3 (fun V' m => hk V' (m13.tr m))
    · have c12 : ¬ (tkT t n i).1 = 312 := fun z => q2 ((eqw 312 (by decide)).mpr z)
      have c11 : ¬ (tkT t n i).1 = 311 := fun z => q ((eqw 311 (by decide)).mpr z)
      rw [if_neg c12, if_neg c11] at hk
      refine ms_names (most := 12) (least := 1) hF (by omega) s3 (by decide) (by decide) (Or.inr ⟨rfl, rfl⟩) (fun V' c m a1 a2 vv => ?_)
      cases w2 : nms (tkT t n) (lku tc nm) 1 12 0 a with
      | inl e =>
        rw [w2] at m hk
        exact (st_52 (p := p) (t := t) (n := n) (tc := tc) (nm := nm) (o := o) hF (by omega) hw hw2 (fun _ => ⟨a1, a2⟩)).2 V' K m.dead (hk V' (m13.tr m))
      | inr q3 =>
        rw [w2] at m hk
        have ec := vv q3.1 q3.2 (by rw [w2])
        subst ec
        exact (st_52 hF (by omega) hw hw2 (fun _ => ⟨a1, a2⟩)).1 V' q3.1 K m.2.1 (fun V2 m2 => hk V2 ((m13.tr m).tr m2))
    · have c := (eqw 311 (by decide)).mp q
      rw [if_neg (by omega), if_pos c] at hk
      rw [c]
      have s := (st_aNumber (E := E) (d := d - 1) (p := p) (t := t) (n := n) (tc := tc) (nm := nm) (o := o) (lo := 0) (hi := 9999) (x := 0) (y := 9999) hF (by omega) rfl rfl (by decide) (by decide)).seq (st_52 (E := E) (d := d) (w := 311) (c := 0) hF (by omega) (by decide) (by decide) (fun z => by omega))
      exact s.1 V3 a K s3 (fun V' m => hk V' (m13.tr m))
end
