/-! the reference's search, from its first step to its end -/
section
variable {E : EE} {d : Nat} {V : VH} {p nv : Nat} {sz : Nat → Nat} {vl : Nat → Nat → Int32} {sc : Nat → Nat → Int64} {F : Nat} {fre : Nat → Nat} {len z0 : Int32} {S : SS}
def smS : Nat → Nat → Nat → Prop := fun a f i => a = 6 ∧ (f = 52 ∨ f = 53 ∨ f = 54 ∨ f = 0 ∧ (i = 76 ∨ i = 77 ∨ i = 78 ∨ i = 79))
def smG (p nv : Nat) : Nat → Nat → Nat → Prop := fun a f i => smS a f i ∨ a = 6 ∧ f = 19 ∧ 12 * p ≤ i ∧ i < 12 * p + nv
theorem ScM.sd {x : Int32} (h : ScM V nv F fre S) : ScM (wrI V 6 0 76 x) nv F fre (S.wsd x) := by
  obtain ⟨h1, h2, h3, h4, h5, h6⟩ := h
  refine ⟨wrI_at, ?_, ?_, fun i hi => ?_, fun i hi => ?_, fun i hi => ?_⟩
  · rw [wrI_ne (fun z => by omega)]; exact h2
  · rw [wrI_ne (fun z => by omega)]; exact h3
  · rw [wrI_ne (fun z => by omega)]; exact h4 i hi
  · rw [wrI_ne (fun z => by omega)]; exact h5 i hi
  · rw [wrI_ne (fun z => by omega)]; exact h6 i hi
theorem ScM.sd2 {x y : Int32} (h : ScM V nv F fre (S.wsd x)) : ScM (wrI V 6 0 76 y) nv F fre (S.wsd y) := by
  have := h.sd (x := y)
  rw [wsd_wsd] at this
  exact this
theorem ScM.late {hw L s : Nat} (h : ScM V nv F fre S) (h1 : hw = 1) : ScM (wrI V 6 54 (s % L) (nI S.cur)) nv F fre (ltw hw L s S) := by
  obtain ⟨h1', h2, h3, h4, h5, h6⟩ := h
  refine ⟨?_, ?_, ?_, fun i hi => ?_, fun i hi => ?_, fun i hi => ?_⟩
  · rw [wrI_ne (fun z => by omega)]; exact h1'
  · rw [wrI_ne (fun z => by omega)]; exact h2
  · rw [wrI_ne (fun z => by omega)]; exact h3
  · show _ = nI ((if hw = 1 then fun i => if i = s % L then S.cur else S.lt i else S.lt) i)
    rw [if_pos h1]
    show _ = nI (if i = s % L then S.cur else S.lt i)
    by_cases c : i = s % L
    · rw [if_pos c, c, wrI_at]
    · rw [if_neg c, wrI_ne (fun z => by omega)]; exact h4 i hi
  · rw [wrI_ne (fun z => by omega)]; exact h5 i hi
  · rw [wrI_ne (fun z => by omega)]; exact h6 i hi
theorem m_settle {hw s n m a b x : Nat} {T : Nat} {y r : Int32} {K : Int32 → VH → Prop} (h0 : 1 < d) (hT : Tq V T sc) (h : ScM V nv F fre S) (ho : SsO T S) (hx : x < T) (n12 : nv ≤ 12) (ha : a < nv) (hb : b < nv) (hr : r ≠ 0)
    (hk : ∀ V', Fc V V' smS → ScM V' nv F fre (stl sc s S m a b x) → vwp E d M_X12_search 673 (lvm p hw n F s len z0 (stl sc s S m a b x) [some (wi (nI m)), some (wi (nI a)), some (wi (nI b)), some (wi (nI x)), some (wi y), some (wi r), none]) [] V' (zi K)) :
    vwp E d M_X12_search 608 (lvm p hw n F s len z0 S [some (wi (nI m)), some (wi (nI a)), some (wi (nI b)), some (wi (nI x)), some (wi y), some (wi r), none]) [] V (zi K) := by
  obtain ⟨h1, h2, h3, h4, h5, h6⟩ := h
  refine w_X12_search_608 (by omega) ⟨fun z => absurd z hr, fun _ V1 e1 => ?_⟩
  rw [h2] at e1
  rw [nI_clamp (show a < 2 ^ 31 by omega), nI_clamp (show b < 2 ^ 31 by omega)]
  refine ⟨vp_in_nI (show a < 12 by omega) (by decide), fun V3 e3 => ⟨vp_in_nI (show b < 12 by omega) (by decide), fun V5 e5 => ?_⟩⟩
  have f5 : Fc V V5 smS := by
    rw [e5, e3, e1]
    exact ((Fc_wrI ⟨rfl, by omega⟩).trans (Fc_wrI ⟨rfl, by omega⟩)).trans (Fc_wrI ⟨rfl, by omega⟩)
  have hT5 : Tq V5 T sc := by rw [e5, e3, e1]; exact hT
  have x53 : ∀ v, v < nv → vI V5 6 53 v = chg (if v = a ∨ v = b then some s else S.lc v) := fun v hv => by
    by_cases c : v = b
    · subst c; rw [if_pos (Or.inr rfl), e5, wrI_at]; rfl
    · rw [e5, wrI_ne (fun z => by omega), e3]
      by_cases c2 : v = a
      · subst c2; rw [if_pos (Or.inl rfl), wrI_at]; rfl
      · rw [if_neg (fun z => by omega), wrI_ne (fun z => by omega), e1, wrI_ne (fun z => by omega)]
        exact h5 v hv
  have x77 : vI V5 6 0 77 = 31 * S.tr + nI m := by rw [e5, wrI_ne (fun z => by omega), e3, wrI_ne (fun z => by omega), e1, wrI_at]
  have xo : ∀ f i, f ≠ 53 → (f ≠ 0 ∨ i ≠ 77) → vI V5 6 f i = vI V 6 f i := fun f i q1 q2 => by
    rw [e5, wrI_ne (fun z => by omega), e3, wrI_ne (fun z => by omega), e1, wrI_ne (fun z => by omega)]
  refine c_isBetterM hT5 hx ho.2.1 ⟨fun z => ?_, fun z => ?_⟩
  · have bt := bI_0.mp z
    have k := hk V5 f5 ⟨by rw [xo 0 76 (by decide) (by decide)]; exact h1, x77, ?_, fun i hi => by rw [xo 54 i (by decide) (by omega)]; exact h4 i hi, x53, fun j hj => by rw [xo 52 j (by decide) (by omega)]; exact h6 j hj⟩
    · have ek : (stl sc s S m a b x).kep = S.kep := by
        show (if btr sc x S.kep = true then x else S.kep) = S.kep
        rw [if_neg (by rw [bt]; decide)]
      have et : (stl sc s S m a b x).tak = S.tak + 1 := stl_tak ..
      have ec : (stl sc s S m a b x).cur = x := rfl
      unfold lvm at k
      rw [ek, et, ec] at k
      rw [nI_1]
      exact k
    · show vI V5 6 0 78 = (if btr sc x S.kep = true then nI s else S.ks)
      rw [if_neg (by rw [bt]; decide), xo 0 78 (by decide) (by decide)]; exact h3
  · have bt : btr sc x S.kep = true := by cases e : btr sc x S.kep with
      | false => exact absurd (bI_0.mpr e) z
      | true => rfl
    intro V8 e8
    have k := hk V8 (f5.trans (by rw [e8]; exact Fc_wrI ⟨rfl, by omega⟩)) ⟨by rw [e8, wrI_ne (fun z => by omega), xo 0 76 (by decide) (by decide)]; exact h1, by rw [e8, wrI_ne (fun z => by omega)]; exact x77, ?_, fun i hi => by rw [e8, wrI_ne (fun z => by omega), xo 54 i (by decide) (by omega)]; exact h4 i hi, fun v hv => by rw [e8, wrI_ne (fun z => by omega)]; exact x53 v hv, fun j hj => by rw [e8, wrI_ne (fun z => by omega), xo 52 j (by decide) (by omega)]; exact h6 j hj⟩
    · have ek : (stl sc s S m a b x).kep = x := by
        show (if btr sc x S.kep = true then x else S.kep) = x
        rw [if_pos bt]
      have et : (stl sc s S m a b x).tak = S.tak + 1 := stl_tak ..
      have ec : (stl sc s S m a b x).cur = x := rfl
      unfold lvm at k
      rw [ek, et, ec] at k
      rw [nI_1]
      exact k
    · show vI V8 6 0 78 = (if btr sc x S.kep = true then nI s else S.ks)
      rw [if_pos bt, e8]; exact wrI_at
end
