/-! the reference's search: what it keeps (parts 92, 93 with a narrower frame) -/
def smT : Nat → Nat → Nat → Prop := fun a f i => a = 6 ∧ (f = 52 ∨ f = 53 ∨ f = 54 ∨ f = 0 ∧ (i = 76 ∨ i = 77 ∨ i = 78))
def smU (p nv : Nat) : Nat → Nat → Nat → Prop := fun a f i => smT a f i ∨ a = 6 ∧ f = 19 ∧ 12 * p ≤ i ∧ i < 12 * p + nv
section
variable {E : EE} {d : Nat} {V : VH} {p nv : Nat} {sz : Nat → Nat} {vl : Nat → Nat → Int32} {sc : Nat → Nat → Int64} {F : Nat} {fre : Nat → Nat} {len z0 : Int32} {S : SS}
theorem m_settle2 {hw s n m a b x : Nat} {T : Nat} {y r : Int32} {K : Int32 → VH → Prop} (h0 : 1 < d) (hT : Tq V T sc) (h : ScM V nv F fre S) (ho : SsO T S) (hx : x < T) (n12 : nv ≤ 12) (ha : a < nv) (hb : b < nv) (hr : r ≠ 0)
    (hk : ∀ V', Fc V V' smT → ScM V' nv F fre (stl sc s S m a b x) → vwp E d M_X12_search 673 (lvm p hw n F s len z0 (stl sc s S m a b x) [some (wi (nI m)), some (wi (nI a)), some (wi (nI b)), some (wi (nI x)), some (wi y), some (wi r), none]) [] V' (zi K)) :
    vwp E d M_X12_search 608 (lvm p hw n F s len z0 S [some (wi (nI m)), some (wi (nI a)), some (wi (nI b)), some (wi (nI x)), some (wi y), some (wi r), none]) [] V (zi K) := by
  obtain ⟨h1, h2, h3, h4, h5, h6⟩ := h
  refine w_X12_search_608 (by omega) ⟨fun z => absurd z hr, fun _ V1 e1 => ?_⟩
  rw [h2] at e1
  rw [nI_clamp (show a < 2 ^ 31 by omega), nI_clamp (show b < 2 ^ 31 by omega)]
  refine ⟨vp_in_nI (show a < 12 by omega) (by decide), fun V3 e3 => ⟨vp_in_nI (show b < 12 by omega) (by decide), fun V5 e5 => ?_⟩⟩
  have f5 : Fc V V5 smT := by
    rw [e5, e3, e1]
    exact ((Fc_wrI ⟨rfl, by omega⟩).trans (Fc_wrI ⟨rfl, by omega⟩)).trans (Fc_wrI ⟨rfl, by omega⟩)
  have hT5 : Tq V5 T sc := by rw [e5, e3, e1]; exact hT
  have x53 : ∀ v, v < nv → vI V5 6 53 v = chg (if v = a ∨ v = b then some s else S.lc v) := fun v hv => by
    by_cases c : v = b
    · subst c; rw [if_pos (Or.inr rfl), e5, wrI_at]; rfl
    · rw [e5, wrI_ne (fun z => by omega), e3]
      by_cases c2 : v = a
      · subst c2; rw [if_pos (Or.inl rfl), wrI_at]; rfl
      · rw [if_neg (fun z => by omega), wrI_ne (fun z => by omega), e1, wrI_ne (fun z => by omega)]
        exact h5 v hv
  have x77 : vI V5 6 0 77 = 31 * S.tr + nI m := by rw [e5, wrI_ne (fun z => by omega), e3, wrI_ne (fun z => by omega), e1, wrI_at]
  have xo : ∀ f i, f ≠ 53 → (f ≠ 0 ∨ i ≠ 77) → vI V5 6 f i = vI V 6 f i := fun f i q1 q2 => by
    rw [e5, wrI_ne (fun z => by omega), e3, wrI_ne (fun z => by omega), e1, wrI_ne (fun z => by omega)]
  refine c_isBetterM hT5 hx ho.2.1 ⟨fun z => ?_, fun z => ?_⟩
  · have bt := bI_0.mp z
    have k := hk V5 f5 ⟨by rw [xo 0 76 (by decide) (by decide)]; exact h1, x77, ?_, fun i hi => by rw [xo 54 i (by decide) (by omega)]; exact h4 i hi, x53, fun j hj => by rw [xo 52 j (by decide) (by omega)]; exact h6 j hj⟩
    · have ek : (stl sc s S m a b x).kep = S.kep := by
        show (if btr sc x S.kep = true then x else S.kep) = S.kep
        rw [if_neg (by rw [bt]; decide)]
      have et : (stl sc s S m a b x).tak = S.tak + 1 := stl_tak ..
      have ec : (stl sc s S m a b x).cur = x := rfl
      unfold lvm at k
      rw [ek, et, ec] at k
      rw [nI_1]
      exact k
    · show vI V5 6 0 78 = (if btr sc x S.kep = true then nI s else S.ks)
      rw [if_neg (by rw [bt]; decide), xo 0 78 (by decide) (by decide)]; exact h3
  · have bt : btr sc x S.kep = true := by cases e : btr sc x S.kep with
      | false => exact absurd (bI_0.mpr e) z
      | true => rfl
    intro V8 e8
    have k := hk V8 (f5.trans (by rw [e8]; exact Fc_wrI ⟨rfl, by omega⟩)) ⟨by rw [e8, wrI_ne (fun z => by omega), xo 0 76 (by decide) (by decide)]; exact h1, by rw [e8, wrI_ne (fun z => by omega)]; exact x77, ?_, fun i hi => by rw [e8, wrI_ne (fun z => by omega), xo 54 i (by decide) (by omega)]; exact h4 i hi, fun v hv => by rw [e8, wrI_ne (fun z => by omega)]; exact x53 v hv, fun j hj => by rw [e8, wrI_ne (fun z => by omega), xo 52 j (by decide) (by omega)]; exact h6 j hj⟩
    · have ek : (stl sc s S m a b x).kep = x := by
        show (if btr sc x S.kep = true then x else S.kep) = x
        rw [if_pos bt]
      have et : (stl sc s S m a b x).tak = S.tak + 1 := stl_tak ..
      have ec : (stl sc s S m a b x).cur = x := rfl
      unfold lvm at k
      rw [ek, et, ec] at k
      rw [nI_1]
      exact k
    · show vI V8 6 0 78 = (if btr sc x S.kep = true then nI s else S.ks)
      rw [if_pos bt, e8]; exact wrI_at
end
section
variable {E : EE} {d : Nat} {V : VH} {p nv : Nat} {sz : Nat → Nat} {vl : Nat → Nat → Int32} {sc : Nat → Nat → Int64} {F : Nat} {fre : Nat → Nat} {len z0 : Int32} {S : SS}
theorem m_seek_go2 {hw L n : Nat} {K : Int32 → VH → Prop} (h0 : 3 < d) (hS : Sq V p nv sz vl) (hT : Tq V (Tp sz nv 0) sc) (hF : FrO nv sz F fre) (hH : HwO hw len L) (hn : n ≤ 2000)
    : ∀ (k s : Nat) (W : VH) (S : SS), s + k = n → Fc V W smT → ScM W nv F fre S → SsO (Tp sz nv 0) S →
    (∀ V', Fc V V' (smU p nv) → ScM V' nv F fre (srun (sst sz nv vl F fre sc hw len L n) k s S) → Hq V' p nv sz (srun (sst sz nv vl F fre sc hw len L n) k s S).kep → SsO (Tp sz nv 0) (srun (sst sz nv vl F fre sc hw len L n) k s S) → K (nI (srun (sst sz nv vl F fre sc hw len L n) k s S).tak) V') →
    vwp E d M_X12_search 220 (lvm p hw n F s len z0 S [none, none, none, none, none, none, none]) [] W (zi K) := by
  have hp := hS.1
  have n12 := hS.2.2.1
  have t0 := hS.2.2.2.2.1
  have pos : ∀ v, v < nv → 0 < sz v := fun v hv => (hS.2.2.2.2.2 v hv).2.1
  have sqW : ∀ {A : VH}, Fc V A smT → Sq A p nv sz vl := fun q => hS.fc q (fun f i z y => by have := y.2; omega)
  have tqW : ∀ {A : VH}, Fc V A smT → Tq A (Tp sz nv 0) sc := fun q => hT.fc q (fun i y => by have := y.2; omega)
  obtain ⟨f1, f2, f3⟩ := hF
  intro k
  induction k with
  | zero =>
    intro s W S es w hC hO hk
    rw [srun_zero] at hk
    refine w_X12_search_220 (by omega) ⟨fun _ => ?_, fun z => absurd (nI_le (show n ≤ s by omega) (by omega)) z⟩
    refine c_putAtHand (by omega) (sqW w) hO.2.1 (fun V1 g1 hq => ?_)
    refine hk V1 ((w.mono (fun a f i z => Or.inl z)).trans (g1.mono (fun a f i z => Or.inr z))) ?_ hq hO
    obtain ⟨h1, h2, h3, h4, h5, h6⟩ := hC
    have ne : ∀ f i, f ≠ 19 → vI V1 6 f i = vI W 6 f i := fun f i hf => g1.i (fun z => hf z.2.1)
    exact ⟨by rw [ne _ _ (by decide)]; exact h1, by rw [ne _ _ (by decide)]; exact h2, by rw [ne _ _ (by decide)]; exact h3, fun i hi => by rw [ne _ _ (by decide)]; exact h4 i hi, fun i hi => by rw [ne _ _ (by decide)]; exact h5 i hi, fun i hi => by rw [ne _ _ (by decide)]; exact h6 i hi⟩
  | succ k ih =>
    intro s W S es w hC hO hk
    have hs : s < n := by omega
    have next : ∀ (A : VH) (S2 : SS) (y1 y2 y3 y4 y5 y6 : Int32), Fc V A smT → ScM A nv F fre S2 → SsO (Tp sz nv 0) S2 → sst sz nv vl F fre sc hw len L n s S = S2 → vwp E d M_X12_search 689 (lvm p hw n F s len z0 S2 [some (wi y1), some (wi y2), some (wi y3), some (wi y4), some (wi y5), some (wi y6), none]) [] A (zi K) := fun A S2 y1 y2 y3 y4 y5 y6 fA cA oA eS => by
      refine w_X12_search_689 ?_
      rw [nI_1]
      refine ih (s + 1) A S2 (by omega) fA cA oA ?_
      have er : srun (sst sz nv vl F fre sc hw len L n) (k + 1) s S = srun (sst sz nv vl F fre sc hw len L n) k (s + 1) S2 := by rw [srun_succ, eS]
      rw [er] at hk
      exact hk
    have r673 : ∀ (A : VH) (S2 : SS) (y1 y2 y3 y4 y5 y6 : Int32), Fc V A smT → ScM A nv F fre S2 → SsO (Tp sz nv 0) S2 → sst sz nv vl F fre sc hw len L n s S = ltw hw L s S2 → vwp E d M_X12_search 673 (lvm p hw n F s len z0 S2 [some (wi y1), some (wi y2), some (wi y3), some (wi y4), some (wi y5), some (wi y6), none]) [] A (zi K) := fun A S2 y1 y2 y3 y4 y5 y6 fA cA oA eS => by
      have q1 : nI hw = 1 ↔ hw = 1 := nI_eq (by have := hH.1; omega) (by decide)
      refine w_X12_search_673 ⟨fun z => next A S2 _ _ _ _ _ _ fA cA oA (by rw [eS, ltw_no (fun y => z (q1.mpr y))]), fun z => ?_⟩
      have h1 := q1.mp z
      obtain ⟨el, l1, l2⟩ := hH.2.1 (by omega)
      have l20 := hH.2.2.1 h1
      have ml : s % L < L := Nat.mod_lt _ (by omega)
      have er : nI s - nI s / len * len = nI (s % L) := by rw [el]; exact nI_rem (show s < 2 ^ 31 by omega) (by omega)
      rw [er, nI_clamp (show s % L < 2 ^ 31 by omega)]
      refine ⟨by rw [el]; exact nI_ne0 (by omega) (by omega), vp_in_nI (show s % L < 20 by omega) (by decide), fun V3 e3 => ?_⟩
      have c3 : ScM V3 nv F fre (ltw hw L s S2) := by rw [e3]; exact cA.late h1
      exact next V3 (ltw hw L s S2) _ _ _ _ _ _ (fA.trans (by rw [e3]; exact Fc_wrI ⟨rfl, by omega⟩)) c3 (SsO_ltw oA) eS
    have take : ∀ (A : VH) (S1 : SS) (m a b x : Nat) (y0 : Int32), Fc V A smT → ScM A nv F fre S1 → SsO (Tp sz nv 0) S1 → a < nv → b < nv → x < Tp sz nv 0 → sst sz nv vl F fre sc hw len L n s S = sta sc hw len L s n S1 m a b x → vwp E d M_X12_search 412 (lvm p hw n F s len z0 S1 [some (wi (nI m)), some (wi (nI a)), some (wi (nI b)), some (wi (nI x)), some (wi y0), none, none]) [] A (zi K) := fun A S1 m a b x y0 fA cA oA ha hb hx eS => by
      refine m_taken (by omega) (tqW fA) cA oA hH hs hn hx n12 ha hb (fun V9 y q => ?_)
      have all9 : Fc A V9 smT ∧ ScM V9 nv F fre (S1.wsd (tkn sc hw len L s n S1 a b x).2) := by
        rcases q with ⟨q1, q2⟩ | q1
        · rw [q1, q2, wsd_self]; exact ⟨Fc.refl, cA⟩
        · rw [q1]; exact ⟨Fc_wrI ⟨rfl, by omega⟩, cA.sd⟩
      obtain ⟨f9, c9⟩ := all9
      have o9 : SsO (Tp sz nv 0) (S1.wsd (tkn sc hw len L s n S1 a b x).2) := oA.wsd
      have k1 : (S1.wsd (tkn sc hw len L s n S1 a b x).2).cur = S1.cur := wsd_cur S1 _
      have k2 : (S1.wsd (tkn sc hw len L s n S1 a b x).2).kep = S1.kep := (wsd_f S1 _).1
      have k3 : (S1.wsd (tkn sc hw len L s n S1 a b x).2).tak = S1.tak := (wsd_f S1 _).2.2.2.1
      cases tt : (tkn sc hw len L s n S1 a b x).1 with
      | false =>
        rw [sta_no tt] at eS
        generalize S1.wsd (tkn sc hw len L s n S1 a b x).2 = S2 at *
        unfold lvm
        rw [← k1, ← k2, ← k3]
        refine w_X12_search_608 (by omega) ⟨fun _ => ?_, fun z => absurd rfl z⟩
        exact r673 V9 S2 _ _ _ _ _ _ (fA.trans f9) c9 o9 eS
      | true =>
        rw [sta_yes tt] at eS
        generalize S1.wsd (tkn sc hw len L s n S1 a b x).2 = S2 at *
        unfold lvm
        rw [← k1, ← k2, ← k3]
        refine m_settle2 (S := S2) (by omega) (tqW (fA.trans f9)) c9 o9 hx n12 ha hb (by decide) (fun V13 f13 c13 => ?_)
        exact r673 V13 _ _ _ _ _ _ _ ((fA.trans f9).trans f13) c13 (SsO_stl o9 hx (by omega)) eS
    have j1 : dw (nxs S.sd) F < F := Nat.mod_lt _ f1
    have j2 : dw (nxs (nxs S.sd)) F < F := Nat.mod_lt _ f1
    have m4 : dw S.sd 4 < 4 := Nat.mod_lt _ (by decide)
    have ha : fre (dw (nxs S.sd) F) < nv ∧ 2 ≤ sz (fre (dw (nxs S.sd) F)) := f3 _ j1
    have hb : fre (dw (nxs (nxs S.sd)) F) < nv ∧ 2 ≤ sz (fre (dw (nxs (nxs S.sd)) F)) := f3 _ j2
    have hc := hO.1
    refine w_X12_search_220 (by omega) ⟨fun z => absurd z (nI_ge hs (by omega)), fun _ => ?_⟩
    refine c_drawM (n := 4) (by decide) (by decide) hC.1 ?_
    have c3 : ScM (wrI W 6 0 76 (nxs S.sd)) nv F fre (S.wsd (nxs S.sd)) := hC.sd
    have w3 : Fc V (wrI W 6 0 76 (nxs S.sd)) smT := w.trans (Fc_wrI ⟨rfl, by omega⟩)
    generalize wrI W 6 0 76 (nxs S.sd) = V3 at c3 w3 ⊢
    refine c_drawM (s := nxs S.sd) f1 (by omega) c3.sdE ?_
    have c5 : ScM (wrI V3 6 0 76 (nxs (nxs S.sd))) nv F fre (S.wsd (nxs (nxs S.sd))) := c3.sd2
    have w5 : Fc V (wrI V3 6 0 76 (nxs (nxs S.sd))) smT := w3.trans (Fc_wrI ⟨rfl, by omega⟩)
    generalize wrI V3 6 0 76 (nxs (nxs S.sd)) = V5 at c5 w5 ⊢
    rw [nI_clamp (show dw (nxs S.sd) F < 2 ^ 31 by omega), c5.2.2.2.2.2 _ j1]
    refine ⟨vp_in_nI (show dw (nxs S.sd) F < 12 by omega) (by decide), fun z => ?_, fun z => ?_⟩
    · have c : ¬ dw S.sd 4 < 3 := fun y => absurd z (nI_ge (show dw S.sd 4 < 3 by omega) (by decide))
      refine c_drawM (s := nxs (nxs S.sd)) f1 (by omega) c5.sdE ?_
      have c9 : ScM (wrI V5 6 0 76 (nxs (nxs (nxs S.sd)))) nv F fre (S.wsd (nxs (nxs (nxs S.sd)))) := c5.sd2
      have w9 : Fc V (wrI V5 6 0 76 (nxs (nxs (nxs S.sd)))) smT := w5.trans (Fc_wrI ⟨rfl, by omega⟩)
      generalize wrI V5 6 0 76 (nxs (nxs (nxs S.sd))) = V9 at c9 w9 ⊢
      rw [nI_clamp (show dw (nxs (nxs S.sd)) F < 2 ^ 31 by omega), c9.2.2.2.2.2 _ j2]
      refine ⟨vp_in_nI (show dw (nxs (nxs S.sd)) F < 12 by omega) (by decide), ?_⟩
      have ep : prp sz nv vl F fre S.sd S.cur = (if fre (dw (nxs S.sd) F) = fre (dw (nxs (nxs S.sd)) F) then none else sw2 sz nv (dw S.sd 4) (fre (dw (nxs S.sd) F)) (fre (dw (nxs (nxs S.sd)) F)) S.cur (swp sz nv vl (fre (dw (nxs S.sd) F)) (fre (dw (nxs (nxs S.sd)) F)) S.cur) (swp sz nv vl (fre (dw (nxs (nxs S.sd)) F)) (fre (dw (nxs S.sd) F)) S.cur)) := by
        unfold prp
        rw [if_neg c]
      generalize fre (dw (nxs (nxs S.sd)) F) = b at hb ep ⊢
      generalize fre (dw (nxs S.sd) F) = a at ha ep ⊢
      have oS : SsO (Tp sz nv 0) (S.wsd (nxs (nxs (nxs S.sd)))) := hO.wsd
      have k1 : (S.wsd (nxs (nxs (nxs S.sd)))).cur = S.cur := wsd_cur S _
      have k2 : (S.wsd (nxs (nxs (nxs S.sd)))).kep = S.kep := (wsd_f S _).1
      have k3 : (S.wsd (nxs (nxs (nxs S.sd)))).tak = S.tak := (wsd_f S _).2.2.2.1
      have sn : prp sz nv vl F fre S.sd S.cur = none → sst sz nv vl F fre sc hw len L n s S = S.wsd (nxs (nxs (nxs S.sd))) := sst_none
      have ss : ∀ m a b x, prp sz nv vl F fre S.sd S.cur = some (m, a, b, x) → sst sz nv vl F fre sc hw len L n s S = sta sc hw len L s n (S.wsd (nxs (nxs (nxs S.sd)))) m a b x := fun m a b x => sst_some
      generalize S.wsd (nxs (nxs (nxs S.sd))) = S1 at c9 oS k1 k2 k3 sn ss
      refine c_valueIn (by omega) (sqW w9) hb.1 (by omega) (c_swpM (sqW w9) ha.1 ?_)
      refine c_valueIn (by omega) (sqW w9) ha.1 (by omega) (c_swpM (sqW w9) hb.1 ?_)
      have no : prp sz nv vl F fre S.sd S.cur = none → ∀ y1 y2 y3 y4 y5 y6 : Int32, vwp E d M_X12_search 689 (lvm p hw n F s len z0 S [some (wi y1), some (wi y2), some (wi y3), some (wi y4), some (wi y5), some (wi y6), none]) [] V9 (zi K) := fun e y1 y2 y3 y4 y5 y6 => by
        have r := next V9 S1 y1 y2 y3 y4 y5 y6 w9 c9 oS (sn e)
        unfold lvm at r ⊢
        rw [k1, k2, k3] at r
        exact r
      refine ⟨fun q => no (by rw [ep, if_pos ((nI_eq (by omega) (by omega)).mp q)]) _ _ _ _ _ _, fun q => ?_⟩
      have ne : a ≠ b := fun y => q (by rw [y])
      rw [if_neg ne] at ep
      cases e1 : swp sz nv vl a b S.cur with
      | none =>
        rw [e1] at ep
        exact ⟨fun _ => no ep _ _ _ _ _ _, fun z => absurd (show cuI none < 0 by decide) z⟩
      | some kk =>
        have hk' : kk < sz a := fsb_lt e1
        have ka := (hS.2.2.2.2.2 a ha.1).2.2.1
        refine ⟨fun z => absurd z (nI_pos (show kk < 2 ^ 31 by omega)), fun _ => ?_⟩
        cases e2 : swp sz nv vl b a S.cur with
        | none =>
          rw [e1, e2] at ep
          exact ⟨fun z => absurd z (by decide), fun _ => no ep _ _ _ _ _ _⟩
        | some j =>
          have hj : j < sz b := fsb_lt e2
          have kb := (hS.2.2.2.2.2 b hb.1).2.2.1
          rw [e1, e2] at ep
          have l1 := mvd_lt pos ha.1 hk' hc
          have l2 := mvd_lt pos hb.1 hj l1
          refine ⟨fun _ => ?_, fun z => absurd (nI_le (Nat.zero_le j) (by omega)) z⟩
          refine c_withPlace (k := kk) (by omega) (sqW w9) ha.1 (by omega) (c_withPlace (k := j) (by omega) (sqW w9) hb.1 (by omega) ?_)
          have r := take V9 S1 _ a b _ (cuI (some kk)) w9 c9 oS ha.1 hb.1 l2 (ss _ _ _ _ ep)
          unfold lvm at r
          rw [k1, k2, k3] at r
          exact r
    · have c : dw S.sd 4 < 3 := Nat.lt_of_not_le (fun y => z (nI_le y (by omega)))
      have ep : prp sz nv vl F fre S.sd S.cur = some (dw S.sd 4, fre (dw (nxs S.sd) F), fre (dw (nxs S.sd) F), mvd sz nv (fre (dw (nxs S.sd) F)) (if dw (nxs (nxs S.sd)) (sz (fre (dw (nxs S.sd) F)) - 1) < Dg sz nv (fre (dw (nxs S.sd) F)) S.cur then dw (nxs (nxs S.sd)) (sz (fre (dw (nxs S.sd) F)) - 1) else dw (nxs (nxs S.sd)) (sz (fre (dw (nxs S.sd) F)) - 1) + 1) S.cur) := by
        unfold prp
        rw [if_pos c]
      generalize fre (dw (nxs S.sd) F) = a at ha ep ⊢
      have s5 := (sqW w5).2.2.2.2.2 a ha.1
      have e12 : (12 : Int32) * nI p + nI a = nI (12 * p + a) := by rw [show (12 : Int32) = nI 12 from rfl, nI_mul, nI_add]
      have sa := s5.2.2.1
      rw [e12, nI_clamp (show 12 * p + a < 2 ^ 31 by omega), s5.1, show nI (sz a) - 1 = nI (sz a - 1) from nI_sub (show 1 ≤ sz a by omega)]
      refine ⟨vp_in_nI (show 12 * p + a < 60 by omega) (by decide), c_drawM (s := nxs (nxs S.sd)) (by omega) (by omega) c5.sdE ?_⟩
      have c9 : ScM (wrI V5 6 0 76 (nxs (nxs (nxs S.sd)))) nv F fre (S.wsd (nxs (nxs (nxs S.sd)))) := c5.sd2
      have w9 : Fc V (wrI V5 6 0 76 (nxs (nxs (nxs S.sd)))) smT := w5.trans (Fc_wrI ⟨rfl, by omega⟩)
      generalize wrI V5 6 0 76 (nxs (nxs (nxs S.sd))) = V9 at c9 w9 ⊢
      have hk' : dw (nxs (nxs S.sd)) (sz a - 1) < sz a - 1 := Nat.mod_lt _ (by omega)
      generalize dw (nxs (nxs S.sd)) (sz a - 1) = kk at hk' ep ⊢
      have oS : SsO (Tp sz nv 0) (S.wsd (nxs (nxs (nxs S.sd)))) := hO.wsd
      have k1 : (S.wsd (nxs (nxs (nxs S.sd)))).cur = S.cur := wsd_cur S _
      have k2 : (S.wsd (nxs (nxs (nxs S.sd)))).kep = S.kep := (wsd_f S _).1
      have k3 : (S.wsd (nxs (nxs (nxs S.sd)))).tak = S.tak := (wsd_f S _).2.2.2.1
      have ss : ∀ m a b x, prp sz nv vl F fre S.sd S.cur = some (m, a, b, x) → sst sz nv vl F fre sc hw len L n s S = sta sc hw len L s n (S.wsd (nxs (nxs (nxs S.sd)))) m a b x := fun m a b x => sst_some
      generalize S.wsd (nxs (nxs (nxs S.sd))) = S1 at c9 oS k1 k2 k3 ss
      have dl : Dg sz nv a S.cur < sz a := Dg_lt pos ha.1
      have fin : ∀ (mm : Nat) (t1 : Int32), nI kk + t1 = nI mm → mm < sz a → prp sz nv vl F fre S.sd S.cur = some (dw S.sd 4, a, a, mvd sz nv a mm S.cur) → vwp E d M_X12_search 302 (lvm p hw n F s len z0 S [some (wi (nI (dw S.sd 4))), some (wi (nI a)), some (wi (nI a)), some (wi (nI S.cur)), some (wi (nI kk)), none, none]) [wi t1, wi (nI kk)] V9 (zi K) := fun mm t1 em hm e => by
        refine w_X12_search_302 (by omega) ?_
        rw [em]
        refine c_withPlace (by omega) (sqW w9) ha.1 (by omega) ?_
        have r := take V9 S1 _ a a _ (nI mm) w9 c9 oS ha.1 ha.1 (mvd_lt pos ha.1 hm hc) (ss _ _ _ _ e)
        unfold lvm at r
        rw [k1, k2, k3] at r
        exact r
      refine c_place (sqW w9) ha.1 (by omega) ⟨fun u => ?_, fun u => ?_⟩
      · refine fin kk 0 (Int32.add_zero (nI kk)) (by omega) ?_
        have : kk < Dg sz nv a S.cur := Nat.lt_of_not_le (fun y => absurd u (Int32.not_lt.mpr (nI_le y (by omega))))
        rw [ep, if_pos this]
      · refine fin (kk + 1) 1 (by rw [nI_1]) (by omega) ?_
        have : ¬ kk < Dg sz nv a S.cur := fun y => u (Int32.not_le.mp (nI_ge y (by omega)))
        rw [ep, if_neg this]
end
