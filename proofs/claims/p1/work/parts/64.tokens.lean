/-! the class's tokens: writing one, coming to one -/
def TkN (V : VH) (cap : Nat) : Prop := vN V 0 3 = cap ∧ vN V 0 4 = cap ∧ vN V 0 5 = cap ∧ vN V 0 6 = cap ∧ 64 ≤ cap ∧ cap ≤ 50000
def tkR : Nat → Nat → Prop := fun a f => a = 0 ∧ (f = 3 ∨ f = 4 ∨ f = 5 ∨ f = 6)
/-- the first m tokens are as they were -/
def TkS (V V' : VH) (m : Nat) : Prop := ∀ j, j < m → vI V' 0 3 j = vI V 0 3 j ∧ vJ V' 0 4 j = vJ V 0 4 j ∧ vI V' 0 5 j = vI V 0 5 j ∧ vI V' 0 6 j = vI V 0 6 j
theorem TkS.trans {V V' V2 : VH} {m : Nat} (h : TkS V V' m) (k : TkS V' V2 m) : TkS V V2 m := fun j hj => ⟨(k j hj).1.trans (h j hj).1, (k j hj).2.1.trans (h j hj).2.1, (k j hj).2.2.1.trans (h j hj).2.2.1, (k j hj).2.2.2.trans (h j hj).2.2.2⟩
section
variable {E : EE} {d : Nat} {V : VH}
theorem c_write80 {x1 x4 x5 : Int32} {x2 : Int64} {cnt cap : Nat} {K : Int32 → VH → Prop} (hN : TkN V cap) (hc : vI V 0 2 5 = nI cnt) (hcc : cnt < cap)
    (hk : ∀ V', Fr V V' tkR → TkN V' cap → TkS V V' cnt → vI V' 0 3 cnt = x1 → vJ V' 0 4 cnt = x2 → vI V' 0 5 cnt = x4 → vI V' 0 6 cnt = x5 → K x5 V') : vwp E d M_X10_write 80 [some (sl 0 2), some (wi x1), some (wj x2), none, some (wi x4), some (wi x5)] [] V (zi K) := by
  obtain ⟨n3, n4, n5, n6, l1, l2⟩ := id hN
  have ec : Int32.toNatClampNeg (nI cnt) = cnt := nI_clamp (by omega)
  refine w_X10_write_80 ?_
  rw [hc, ec, n3]
  refine ⟨vp_in_nI hcc (by omega), fun V2 e2 => ?_⟩
  have c2 : vI V2 0 2 5 = nI cnt := by rw [e2, wrI_ne (fun z => by omega)]; exact hc
  have m4 : vN V2 0 4 = cap := by rw [e2]; exact n4
  rw [c2, ec, m4]
  refine ⟨vp_in_nI hcc (by omega), fun V4 e4 => ?_⟩
  have c4 : vI V4 0 2 5 = nI cnt := by rw [e4]; exact c2
  have m5 : vN V4 0 5 = cap := by rw [e4, e2]; exact n5
  rw [c4, ec, m5]
  refine ⟨vp_in_nI hcc (by omega), fun V6 e6 => ?_⟩
  have c6 : vI V6 0 2 5 = nI cnt := by rw [e6, wrI_ne (fun z => by omega)]; exact c4
  have m6 : vN V6 0 6 = cap := by rw [e6, e4, e2]; exact n6
  rw [c6, ec, m6]
  refine ⟨vp_in_nI hcc (by omega), fun V8 e8 => ?_⟩
  have f2 : Fr V V2 tkR := by rw [e2]; exact Fr_wrI ⟨rfl, Or.inl rfl⟩
  have f4 : Fr V2 V4 tkR := by rw [e4]; exact Fr_wrJ ⟨rfl, Or.inr (Or.inl rfl)⟩
  have f6 : Fr V4 V6 tkR := by rw [e6]; exact Fr_wrI ⟨rfl, Or.inr (Or.inr (Or.inl rfl))⟩
  have f8 : Fr V6 V8 tkR := by rw [e8]; exact Fr_wrI ⟨rfl, Or.inr (Or.inr (Or.inr rfl))⟩
  have i3 : ∀ j, vI V8 0 3 j = if j = cnt then x1 else vI V 0 3 j := fun j => by
    rw [e8, wrI_ne (fun z => by omega), e6, wrI_ne (fun z => by omega), e4]
    show vI V2 0 3 j = _
    rw [e2]
    by_cases q : j = cnt
    · subst q; rw [if_pos rfl]; exact wrI_at
    · rw [if_neg q]; exact wrI_ne (fun z => q z.2.2)
  have i4 : ∀ j, vJ V8 0 4 j = if j = cnt then x2 else vJ V 0 4 j := fun j => by
    rw [e8]; show vJ V6 0 4 j = _
    rw [e6]; show vJ V4 0 4 j = _
    rw [e4]
    by_cases q : j = cnt
    · subst q; rw [if_pos rfl]; exact wrJ_at
    · rw [if_neg q, wrJ_ne (fun z => q z.2.2), e2]; rfl
  have i5 : ∀ j, vI V8 0 5 j = if j = cnt then x4 else vI V 0 5 j := fun j => by
    rw [e8, wrI_ne (fun z => by omega), e6]
    by_cases q : j = cnt
    · subst q; rw [if_pos rfl]; exact wrI_at
    · rw [if_neg q, wrI_ne (fun z => q z.2.2), e4]
      show vI V2 0 5 j = _
      rw [e2, wrI_ne (fun z => by omega)]
  have i6 : ∀ j, vI V8 0 6 j = if j = cnt then x5 else vI V 0 6 j := fun j => by
    rw [e8]
    by_cases q : j = cnt
    · subst q; rw [if_pos rfl]; exact wrI_at
    · rw [if_neg q, wrI_ne (fun z => q z.2.2), e6, wrI_ne (fun z => by omega), e4]
      show vI V2 0 6 j = _
      rw [e2, wrI_ne (fun z => by omega)]
  refine hk V8 (((f2.trans f4).trans f6).trans f8) ?_ (fun j hj => ?_) ?_ ?_ ?_ ?_
  · rw [e8, e6, e4, e2]; exact hN
  · have q : j ≠ cnt := Nat.ne_of_lt hj
    exact ⟨by rw [i3, if_neg q], by rw [i4, if_neg q], by rw [i5, if_neg q], by rw [i6, if_neg q]⟩
  · rw [i3, if_pos rfl]
  · rw [i4, if_pos rfl]
  · rw [i5, if_pos rfl]
  · rw [i6, if_pos rfl]
theorem grJ_lt {g f m : Nat} (j : Nat) (h : j < vN V g f) : vJ (grJ V g f m) g f j = vJ V g f j := by
  show (if g = g ∧ f = f then va_cpy (vJ V g f) (fun _ => 0) 0 0 (vN V g f) else vJ V g f) j = _
  rw [if_pos ⟨rfl, rfl⟩, pk_cpy_in (Nat.zero_le _) (by omega)]
  congr 1; omega
theorem c_write {x1 x4 x5 : Int32} {x2 : Int64} {cnt cap : Nat} {K : Int32 → VH → Prop} (h0 : 1 < d) (hN : TkN V cap) (hc : vI V 0 2 5 = nI cnt) (hcnt : cnt ≤ 25000) (hcc : cnt ≤ cap)
    (hk : ∀ V' cap', Fr V V' tkR → TkN V' cap' → cnt < cap' → TkS V V' cnt → vI V' 0 3 cnt = x1 → vJ V' 0 4 cnt = x2 → vI V' 0 5 cnt = x4 → vI V' 0 6 cnt = x5 → K x5 V') : vMI E d M_X10_write [sl 0 2, wi x1, wj x2, wi x4, wi x5] V K := by
  obtain ⟨n3, n4, n5, n6, l1, l2⟩ := id hN
  refine w_X10_write_0 (cnt := cnt) (cap := cap) h0 hc (by omega) l1 (by omega) n3 n4 n5 n6 (fun q => c_write80 hN hc q (fun V' a b c => hk V' cap a b q c)) (fun q => ?_)
  have h64 : cnt = cap := by omega
  let A1 := grI V 0 3 (2 * cnt)
  let A2 := grJ A1 0 4 (2 * cnt)
  let A3 := grI A2 0 5 (2 * cnt)
  let A4 := grI A3 0 6 (2 * cnt)
  have f1 : Fr V A1 tkR := Fr_gro ⟨rfl, Or.inl rfl⟩
  have f2 : Fr A1 A2 tkR := Fr_gro ⟨rfl, Or.inr (Or.inl rfl)⟩
  have f3 : Fr A2 A3 tkR := Fr_gro ⟨rfl, Or.inr (Or.inr (Or.inl rfl))⟩
  have f4 : Fr A3 A4 tkR := Fr_gro ⟨rfl, Or.inr (Or.inr (Or.inr rfl))⟩
  have F : Fr V A4 tkR := ((f1.trans f2).trans f3).trans f4
  have S : TkS V A4 cnt := fun j hj => by
    refine ⟨?_, ?_, ?_, ?_⟩
    · show vI A1 0 3 j = _; exact grI_lt j (by omega)
    · show vJ A2 0 4 j = _; exact grJ_lt (V := A1) j (by show j < vN V 0 4; omega)
    · show vI A3 0 5 j = _; exact grI_lt (V := A2) j (by show j < vN V 0 5; omega)
    · exact grI_lt (V := A3) j (by show j < vN V 0 6; omega)
  refine c_write80 (V := A4) (cap := 2 * cnt) ⟨rfl, rfl, rfl, rfl, by omega, by omega⟩ hc (by omega) (fun V' a b c => hk V' (2 * cnt) (F.trans a) b (by omega) (S.trans c))
/-- the fields that come with the token that is come to -/
def stS : Nat → Nat → Nat → Prop := fun a f i => a = 0 ∧ f = 2 ∧ (i = 4 ∨ i = 6 ∨ i = 7 ∨ i = 8 ∨ i = 9)
/-- token k is come to -/
def TkA (V : VH) (k : Nat) : Prop := vI V 0 2 4 = nI k ∧ vI V 0 2 6 = vI V 0 3 k ∧ vJ V 0 2 7 = vJ V 0 4 k ∧ vI V 0 2 8 = vI V 0 5 k ∧ vI V 0 2 9 = vI V 0 6 k
theorem c_step21 {k cap : Nat} {K : VH → Prop} (hN : TkN V cap) (hc : vI V 0 2 4 = nI k) (hkc : k < cap) (hk : ∀ V', Fc V V' stS → TkA V' k → K V') : vwp E d M_X10_step 21 [some (sl 0 2)] [] V (zv K) := by
  obtain ⟨n3, n4, n5, n6, l1, l2⟩ := id hN
  have ec : Int32.toNatClampNeg (nI k) = k := nI_clamp (by omega)
  refine w_X10_step_21 ?_
  rw [hc, ec, n3]
  refine ⟨fun q => absurd q (nI_pos (by omega)), fun _ => ⟨fun _ => ⟨vp_in_nI hkc (by omega), fun V2 e2 => ?_⟩, fun q => absurd (nI_lt hkc (by omega)) q⟩⟩
  have c2 : vI V2 0 2 4 = nI k := by rw [e2, wrI_ne (fun z => by omega)]; exact hc
  have m4 : vN V2 0 4 = cap := by rw [e2]; exact n4
  rw [c2, ec, m4]
  refine ⟨vp_in_nI hkc (by omega), fun V4 e4 => ?_⟩
  have c4 : vI V4 0 2 4 = nI k := by rw [e4]; exact c2
  have m5 : vN V4 0 5 = cap := by rw [e4, e2]; exact n5
  rw [c4, ec, m5]
  refine ⟨vp_in_nI hkc (by omega), fun V6 e6 => ?_⟩
  have c6 : vI V6 0 2 4 = nI k := by rw [e6, wrI_ne (fun z => by omega)]; exact c4
  have m6 : vN V6 0 6 = cap := by rw [e6, e4, e2]; exact n6
  rw [c6, ec, m6]
  refine ⟨vp_in_nI hkc (by omega), fun V8 e8 => ?_⟩
  have f2 : Fc V V2 stS := by rw [e2]; exact Fc_wrI ⟨rfl, rfl, by omega⟩
  have f4 : Fc V2 V4 stS := by rw [e4]; exact Fc_wrJ ⟨rfl, rfl, by omega⟩
  have f6 : Fc V4 V6 stS := by rw [e6]; exact Fc_wrI ⟨rfl, rfl, by omega⟩
  have f8 : Fc V6 V8 stS := by rw [e8]; exact Fc_wrI ⟨rfl, rfl, by omega⟩
  have F := ((f2.trans f4).trans f6).trans f8
  have r3 : ∀ f j, f ≠ 2 → vI V8 0 f j = vI V 0 f j := fun f j h => F.i (fun z => by obtain ⟨_, z, _⟩ := z; omega)
  have rj : ∀ f j, f ≠ 2 → vJ V8 0 f j = vJ V 0 f j := fun f j h => F.j (fun z => by obtain ⟨_, z, _⟩ := z; omega)
  refine hk V8 F ⟨?_, ?_, ?_, ?_, ?_⟩
  · rw [e8, wrI_ne (fun z => by omega)]; exact c6
  · rw [r3 3 k (by omega), e8, wrI_ne (fun z => by omega), e6, wrI_ne (fun z => by omega), e4]
    show vI V2 0 2 6 = _
    rw [e2]; exact wrI_at
  · rw [rj 4 k (by omega), e8]
    show vJ V6 0 2 7 = _
    rw [e6]; show vJ V4 0 2 7 = _
    rw [e4, wrJ_at, e2]; rfl
  · rw [r3 5 k (by omega), e8, wrI_ne (fun z => by omega), e6, wrI_at, e4]
    show vI V2 0 5 k = _
    rw [e2, wrI_ne (fun z => by omega)]
  · rw [r3 6 k (by omega), e8, wrI_at, e6, wrI_ne (fun z => by omega), e4]
    show vI V2 0 6 k = _
    rw [e2, wrI_ne (fun z => by omega)]
/-- the first token is come to -/
theorem c_step0 {cnt cap : Nat} {K : VH → Prop} (hN : TkN V cap) (hc : vI V 0 2 5 = nI cnt) (hcc : cnt < cap) (hcur : vI V 0 2 4 = -1) (hk : ∀ V', Fc V V' stS → TkA V' 0 → K V') : vMV E d M_X10_step [sl 0 2] V K := by
  have l2 := hN.2.2.2.2.2
  refine w_X10_step_0 ?_
  rw [hc, hcur]
  refine ⟨fun q => ?_, fun q V1 e1 => ?_⟩
  · rw [Int32.le_iff_toInt_le, nI_toInt (by omega), show (-1 : Int32).toInt = -1 from by decide] at q
    omega
  · have e1 : V1 = wrI V 0 2 4 0 := e1.trans (by rfl)
    have f1 : Fc V V1 stS := by rw [e1]; exact Fc_wrI ⟨rfl, rfl, by omega⟩
    exact c_step21 (k := 0) (V := V1) (by rw [e1]; exact hN) (by rw [e1]; exact wrI_at) (by omega) (fun V' f t => hk V' (f1.trans f) t)
theorem c_is {m : Int32} {K : Int32 → VH → Prop} (hk : K (if vI V 0 2 6 = 4 ∧ vJ V 0 2 7 = Int32.toInt64 m then 1 else 0) V) : vMI E d M_X10_is [sl 0 2, wi m] V K := by
  refine w_X10_is_0 ⟨fun q => ?_, fun q => ⟨fun q2 => ?_, fun q2 => ?_⟩⟩
  · rw [if_neg (fun z => q z.1)] at hk; exact hk
  · rw [if_neg (fun z => q2 z.2)] at hk; exact hk
  · rw [if_pos ⟨q, q2⟩] at hk; exact hk
def ftS : Nat → Nat → Nat → Prop := fun a f i => a = 0 ∧ f = 2 ∧ (i = 10 ∨ i = 11)
theorem c_refuse {K : Int32 → VH → Prop} (hk : ∀ V', Fc V V' ftS → vI V' 0 2 10 = (if vI V 0 2 6 = 1 then 1 else 2) → vI V' 0 2 11 = vI V 0 2 8 → K 0 V') : vMI E d M_X10_refuse [sl 0 2] V K := by
  have go : ∀ t : Int32, t = (if vI V 0 2 6 = 1 then 1 else 2) → vwp E d M_X10_refuse 14 [some (sl 0 2)] [wi t, sl 0 2] V (zi K) := fun t et => by
    refine w_X10_refuse_14 (fun V1 e1 V2 e2 => ?_)
    have f1 : Fc V V1 ftS := by rw [e1]; exact Fc_wrI ⟨rfl, rfl, by omega⟩
    have f2 : Fc V1 V2 ftS := by rw [e2]; exact Fc_wrI ⟨rfl, rfl, by omega⟩
    refine hk V2 (f1.trans f2) ?_ ?_
    · rw [e2, wrI_ne (fun z => by omega), e1, wrI_at]; exact et
    · rw [e2, wrI_at, e1, wrI_ne (fun z => by omega)]
  refine w_X10_refuse_0 ⟨fun q => go 2 (by rw [if_neg q]), fun q => go 1 (by rw [if_pos q])⟩
/-- Arrays.fill of ints -/
theorem c_fill {a f : Nat} {x : Int32} {K : VH → Prop} (hA : SL (vL V) a f 14) (hn : vN V a f < 2 ^ 31) (hk : ∀ V', Fc V V' (fun b g i => b = a ∧ g = f) → (∀ j, j < vN V a f → vI V' a f j = x) → K V') : vMV E d M_J7_fill_53178 [sl a f, wi x] V K := by
  have go : ∀ (m k : Nat) (V1 : VH), Fc V V1 (fun b g i => b = a ∧ g = f) → (∀ j, j < k → vI V1 a f j = x) → k + m = vN V a f → vwp E d M_J7_fill_53178 5 [some (sl a f), some (wi x), some (wi (nI k)), some (wi (nI (vN V a f)))] [] V1 (zv K) := by
    intro m
    induction m with
    | zero =>
      intro k V1 f1 h1 e
      have hA1 : SL (vL V1) a f 14 := by rw [f1.l]; exact hA
      exact w_J7_fill_53178_5 hA1 ⟨fun _ => hk V1 f1 (fun j hj => h1 j (by omega)), fun q => absurd (nI_le (by omega) (by omega)) q⟩
    | succ m ih =>
      intro k V1 f1 h1 e
      have hA1 : SL (vL V1) a f 14 := by rw [f1.l]; exact hA
      refine w_J7_fill_53178_5 hA1 ⟨fun q => absurd ((nI_leI (by omega) (by omega)).mp q) (by omega), fun _ => ⟨by rw [f1.n]; exact vp_in_nI (by omega) (by omega), fun V2 e2 => ?_⟩⟩
      rw [nI_clamp (by omega)] at e2
      rw [nI_1]
      refine ih (k + 1) V2 (f1.trans (by rw [e2]; exact Fc_wrI ⟨rfl, rfl⟩)) (fun j hj => ?_) (by omega)
      rw [e2]
      by_cases q : j = k
      · subst q; exact wrI_at
      · rw [wrI_ne (fun z => q z.2.2)]; exact h1 j (by omega)
  exact w_J7_fill_53178_0 hA (go (vN V a f) 0 V Fc.refl (fun j hj => absurd hj (Nat.not_lt_zero j)) (by omega))
end
