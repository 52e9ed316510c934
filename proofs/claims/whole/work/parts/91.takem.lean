/-! whether the reference takes the new plan -/
def chg (o : Option Nat) : Int32 := match o with
  | none => -1000
  | some t => nI t
theorem sub_le_iff {x y z : Int32} {a b c : Int} (ha : x.toInt = a) (hb : y.toInt = b) (hc : z.toInt = c) (h1 : -2 ^ 31 ≤ a - b) (h2 : a - b < 2 ^ 31) : x - y ≤ z ↔ a - b ≤ c := by
  rw [Int32.le_iff_toInt_le, Int32.toInt_sub, ha, hb, hc, Int.bmod_eq_of_le (by omega) (by omega)]
theorem near_iffM {L s : Nat} {o : Option Nat} (hL : L ≤ 100) (hs : s ≤ 2000) (ho : ∀ t, o = some t → t ≤ 2000) : nI s - chg o ≤ nI L ↔ nearb L s o = true := by
  have es : (nI s).toInt = (s : Int) := nI_toInt (by omega)
  have el : (nI L).toInt = (L : Int) := nI_toInt (by omega)
  cases o with
  | none =>
    rw [sub_le_iff es (show (chg none).toInt = -1000 from rfl) el (by omega) (by omega)]
    constructor
    · intro z; omega
    · intro z; cases z
  | some t =>
    have ht := ho t rfl
    have et : (chg (some t)).toInt = (t : Int) := nI_toInt (by omega)
    have e2 : nearb L s (some t) = decide (s ≤ t + L) := rfl
    rw [sub_le_iff es et el (by omega) (by omega), e2, decide_eq_true_iff]
    omega
/-- the reference's searcher holds S (its plans are locals) -/
def ScM (V : VH) (nv F : Nat) (fre : Nat → Nat) (S : SS) : Prop := vI V 6 0 76 = S.sd ∧ vI V 6 0 77 = S.tr ∧ vI V 6 0 78 = S.ks ∧ (∀ i, i < 20 → vI V 6 54 i = nI (S.lt i)) ∧ (∀ v, v < nv → vI V 6 53 v = chg (S.lc v)) ∧ ∀ j, j < F → vI V 6 52 j = nI (fre j)
abbrev lvm (p hw n F s : Nat) (len z : Int32) (S : SS) (r : List (Option WV)) : List (Option WV) := some (sl 6 0) :: some (wi (nI p)) :: some (wi (nI hw)) :: some (wi len) :: some (wi z) :: some (wi (nI n)) :: some (wi (nI F)) :: some (wi (nI S.cur)) :: some (wi (nI S.kep)) :: some (wi (nI S.tak)) :: some (wi (nI s)) :: r
section
variable {E : EE} {d : Nat} {V : VH} {p nv : Nat} {sc : Nat → Nat → Int64} {F : Nat} {fre : Nat → Nat} {len z0 : Int32} {S : SS} {T : Nat}
theorem m_taken {hw L s n m a b x : Nat} {y0 : Int32} {K : Int32 → VH → Prop} (h0 : 1 < d) (hT : Tq V T sc) (h : ScM V nv F fre S) (ho : SsO T S) (hH : HwO hw len L) (hs : s < n) (hn : n ≤ 2000) (hx : x < T) (n12 : nv ≤ 12) (ha : a < nv) (hb : b < nv)
    (hk : ∀ V' y, (V' = V ∧ (tkn sc hw len L s n S a b x).2 = S.sd ∨ V' = wrI V 6 0 76 (tkn sc hw len L s n S a b x).2) → vwp E d M_X12_search 608 (lvm p hw n F s len z0 S [some (wi (nI m)), some (wi (nI a)), some (wi (nI b)), some (wi (nI x)), some (wi y), some (wi (bI (tkn sc hw len L s n S a b x).1)), none]) [] V' (zi K)) :
    vwp E d M_X12_search 412 (lvm p hw n F s len z0 S [some (wi (nI m)), some (wi (nI a)), some (wi (nI b)), some (wi (nI x)), some (wi y0), none, none]) [] V (zi K) := by
  obtain ⟨o1, o2, o3, o4⟩ := ho
  obtain ⟨w1, w2, w3, w4⟩ := hH
  have q1 : nI hw = 1 ↔ hw = 1 := nI_eq (by omega) (by decide)
  have q2 : nI hw = 2 ↔ hw = 2 := nI_eq (by omega) (by decide)
  have q3 : nI hw = 3 ↔ hw = 3 := nI_eq (by omega) (by decide)
  have stay : ∀ (r : Bool) (y t : Int32), t = bI r → tkn sc hw len L s n S a b x = (r, S.sd) → vwp E d M_X12_search 608 (lvm p hw n F s len z0 S [some (wi (nI m)), some (wi (nI a)), some (wi (nI b)), some (wi (nI x)), some (wi y), some (wi t), none]) [] V (zi K) := fun r y t et e => by
    have := hk V y (Or.inl ⟨rfl, by rw [e]⟩)
    rw [e] at this; rw [et]; exact this
  have r428 : ∀ t0 : Int32, t0 = bI (!btr sc S.cur x) → vwp E d M_X12_search 428 (lvm p hw n F s len z0 S [some (wi (nI m)), some (wi (nI a)), some (wi (nI b)), some (wi (nI x)), some (wi y0), none, none]) [wi t0] V (zi K) := fun t0 e0 => by
    have z0' : t0 = 0 ↔ ¬ btr sc S.cur x = false := by
      rw [e0, bI_0]; cases btr sc S.cur x <;> decide
    refine w_X12_search_428 (by omega) ⟨fun n1 => ⟨fun n2 => ⟨fun n3 => ?_, fun y3 => ?_⟩, fun y2 => ?_⟩, fun y1 => ?_⟩
    · refine stay _ _ _ e0 ?_
      unfold tkn
      rw [if_neg (fun y => n3 (q3.mpr y)), if_neg (fun y => n2 (q2.mpr y.1)), if_neg (fun y => n1 (q1.mpr y)), if_neg (fun y => n2 (q2.mpr y))]
      cases btr sc S.cur x <;> rfl
    · have e3 := q3.mp y3
      have et : tkn sc hw len L s n S a b x = (decide (¬ slk len s n < wrt sc x - wrt sc S.cur), S.sd) := by unfold tkn; rw [if_pos e3]
      refine c_worthM hT hx (c_worthM hT o1 ⟨nI_ne0 (by omega) (by omega), fun y => ?_, fun y => ?_⟩)
      · refine w_X12_search_606 (stay false _ _ rfl ?_)
        rw [et, decide_eq_false (fun u => u y)]
      · refine w_X12_search_606 (stay true _ _ rfl ?_)
        have y' : ¬ slk len s n < wrt sc x - wrt sc S.cur := y
        rw [et, decide_eq_true y']
    · have e2 := q2.mp y2
      obtain ⟨el, l1, l2⟩ := w2 (by omega)
      have l100 := w4 e2
      have r538 : ∀ (fr : Bool) (t17 tt y16 : Int32), t17 = bI fr → (fr = false → (tkn sc hw len L s n S a b x) = (false, S.sd)) → (fr = true → tkn sc hw len L s n S a b x = (if btr sc S.cur x = false then (true, S.sd) else (decide (dw S.sd 8 = 0), nxs S.sd))) → tt = bI (fr && !btr sc S.cur x) → vwp E d M_X12_search 538 (lvm p hw n F s len z0 S [some (wi (nI m)), some (wi (nI a)), some (wi (nI b)), some (wi (nI x)), some (wi t0), some (wi y16), some (wi t17)]) [wi tt] V (zi K) := fun fr t17 tt y16 e17 k0 k1 ett => by
        refine w_X12_search_538 (by omega) ⟨fun z => ?_, fun z => ⟨fun y => ?_, fun y => ?_⟩⟩
        · rw [e17, bI_0] at z
          rw [z] at ett
          exact w_X12_search_566 (stay false _ _ ett (k0 z))
        · have f1 : fr = true := by cases fr; exact absurd e17 z; rfl
          have b0 : btr sc S.cur x = false := Decidable.byContradiction (fun u => y (z0'.mpr u))
          have k := k1 f1
          rw [if_pos b0] at k
          rw [f1, b0] at ett
          exact w_X12_search_566 (stay true _ _ ett k)
        · have f1 : fr = true := by cases fr; exact absurd e17 z; rfl
          have k := k1 f1
          rw [if_neg (z0'.mp y)] at k
          have l8 : dw S.sd 8 < 8 := Nat.mod_lt _ (by decide)
          have e8 : nI (dw S.sd 8) = 0 ↔ dw S.sd 8 = 0 := nI_eq (by omega) (by decide)
          have kk := hk (wrI V 6 0 76 (nxs S.sd)) t0 (Or.inr (by rw [k]))
          rw [k] at kk
          refine c_drawM (n := 8) (by decide) (by decide) h.1 ⟨fun u => ?_, fun u => ?_⟩
          · have : decide (dw S.sd 8 = 0) = false := decide_eq_false (fun w => u (e8.mpr w))
            rw [this] at kk
            exact w_X12_search_564 (w_X12_search_566 kk)
          · have : decide (dw S.sd 8 = 0) = true := decide_eq_true (e8.mp u)
            rw [this] at kk
            exact w_X12_search_564 (w_X12_search_566 kk)
      have r521 : ∀ (fr : Bool) (t y16 : Int32), t = bI fr → (fr = false → (tkn sc hw len L s n S a b x) = (false, S.sd)) → (fr = true → tkn sc hw len L s n S a b x = (if btr sc S.cur x = false then (true, S.sd) else (decide (dw S.sd 8 = 0), nxs S.sd))) → vwp E d M_X12_search 521 (lvm p hw n F s len z0 S [some (wi (nI m)), some (wi (nI a)), some (wi (nI b)), some (wi (nI x)), some (wi t0), some (wi y16), none]) [wi t] V (zi K) := fun fr t y16 et k0 k1 => by
        refine w_X12_search_521 ⟨fun z => ?_, fun z => ⟨fun y => ?_, fun y => ?_⟩⟩
        · refine w_X12_search_537 (r538 fr _ _ _ et k0 k1 ?_)
          rw [et, bI_0] at z
          rw [z]; rfl
        · refine w_X12_search_537 (r538 fr _ _ _ et k0 k1 ?_)
          have := z0'.mp y
          cases e : btr sc S.cur x with
          | false => exact absurd e this
          | true => cases fr <;> rfl
        · refine r538 fr _ _ _ et k0 k1 ?_
          have f1 : fr = true := by cases fr; exact absurd et z; rfl
          have b0 : btr sc S.cur x = false := Decidable.byContradiction (fun u => y (z0'.mpr u))
          rw [f1, b0]; rfl
      have kfree : ¬ ((nearb L s (S.lc a) || nearb L s (S.lc b)) = true ∧ btr sc x S.kep = false) → tkn sc hw len L s n S a b x = (if btr sc S.cur x = false then (true, S.sd) else (decide (dw S.sd 8 = 0), nxs S.sd)) := fun nb => by
        unfold tkn
        rw [if_neg (by omega), if_neg (fun y => nb y.2), if_neg (show ¬ hw = 1 by omega), if_pos e2]
      have r505 : (nearb L s (S.lc a) || nearb L s (S.lc b)) = true → vwp E d M_X12_search 505 (lvm p hw n F s len z0 S [some (wi (nI m)), some (wi (nI a)), some (wi (nI b)), some (wi (nI x)), some (wi t0), some (wi t0), none]) [] V (zi K) := fun nb => by
        refine w_X12_search_505 (by omega) (c_isBetterM hT hx o2 ⟨fun z => ?_, fun z => ?_⟩)
        · refine r521 false _ _ rfl (fun _ => ?_) (fun y => absurd y (by decide))
          unfold tkn
          rw [if_neg (by omega), if_pos ⟨e2, nb, bI_0.mp z⟩]
        · exact w_X12_search_516 (r521 true _ _ rfl (fun y => absurd y (by decide)) (fun _ => kfree (fun y => z (bI_0.mpr y.2))))
      have b8 := h.2.2.2.2.1
      rw [nI_clamp (show a < 2 ^ 31 by omega), nI_clamp (show b < 2 ^ 31 by omega), b8 a ha, b8 b hb]
      have ia := near_iffM (o := S.lc a) l100 (show s ≤ 2000 by omega) (fun t e => o4 a t e)
      have ib := near_iffM (o := S.lc b) l100 (show s ≤ 2000 by omega) (fun t e => o4 b t e)
      rw [← el] at ia ib
      refine ⟨vp_in_nI (show a < 12 by omega) (by decide), fun y => r505 (by rw [ia.mp y]; rfl), fun y => ⟨vp_in_nI (show b < 12 by omega) (by decide), fun u => ?_, fun u => r505 (by rw [ib.mp (Int32.not_lt.mp u), Bool.or_true])⟩⟩
      refine w_X12_search_516 (r521 true _ _ rfl (fun y => absurd y (by decide)) (fun _ => kfree (fun w => ?_)))
      have na : nearb L s (S.lc a) = false := by cases e : nearb L s (S.lc a) with
        | false => rfl
        | true => exact absurd (ia.mpr e) y
      have nb : nearb L s (S.lc b) = false := by cases e : nearb L s (S.lc b) with
        | false => rfl
        | true => exact absurd (ib.mpr e) (Int32.not_le.mpr u)
      rw [na, nb] at w
      exact absurd w.1 (by decide)
    · have h1 := q1.mp y1
      obtain ⟨el, l1, l2⟩ := w2 (by omega)
      have l20 := w3 h1
      have ml : s % L < L := Nat.mod_lt _ (by omega)
      have et : tkn sc hw len L s n S a b x = (if btr sc S.cur x = false then (true, S.sd) else (!btr sc (S.lt (s % L)) x, S.sd)) := by
        unfold tkn
        rw [if_neg (by omega), if_neg (fun y => by omega), if_pos h1]
      refine ⟨fun z => ?_, fun z => ?_⟩
      · have b0 : btr sc S.cur x = false := Decidable.byContradiction (fun u => z (z0'.mpr u))
        rw [if_pos b0] at et
        exact w_X12_search_462 (w_X12_search_467 (stay true _ _ rfl et))
      · rw [if_neg (z0'.mp z)] at et
        have er : nI s - nI s / len * len = nI (s % L) := by rw [el]; exact nI_rem (show s < 2 ^ 31 by omega) (by omega)
        rw [er]
        refine ⟨by rw [el]; exact nI_ne0 (by omega) (by omega), vp_in_nI (show s % L < 20 by omega) (by decide), ?_⟩
        rw [nI_clamp (show s % L < 2 ^ 31 by omega), h.2.2.2.1 _ (show s % L < 20 by omega)]
        refine c_isBetterM hT (o3 _) hx ⟨fun y => ?_, fun y => ?_⟩
        · have bt : btr sc (S.lt (s % L)) x = true := by cases e : btr sc (S.lt (s % L)) x with
            | false => exact absurd (bI_0.mpr e) y
            | true => rfl
          rw [bt] at et
          exact w_X12_search_467 (stay false _ _ rfl et)
        · rw [bI_0.mp y] at et
          exact w_X12_search_462 (w_X12_search_467 (stay true _ _ rfl et))
  refine w_X12_search_412 (by omega) (c_isBetterM hT o1 hx ⟨fun z => r428 0 ?_, fun z => r428 1 ?_⟩)
  · have : btr sc S.cur x = true := by cases e : btr sc S.cur x with
      | false => exact absurd (bI_0.mpr e) z
      | true => rfl
    rw [this]; rfl
  · rw [bI_0.mp z]; rfl
end
