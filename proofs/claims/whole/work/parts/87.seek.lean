/-! the class searches -/
/-- the new plan is taken in step s -/
def stl (sc : Nat → Nat → Int64) (s : Nat) (S : SS) (m a b x : Nat) : SS := ((S.sd, 31 * S.tr + nI m, if btr sc x S.kep = true then nI s else S.ks), (x, (if btr sc x S.kep = true then x else S.kep), S.tak + 1), S.lt, fun v => if v = a ∨ v = b then some s else S.lc v)
def ltw (hw L s : Nat) (S : SS) : SS := (S.1, S.2.1, (if hw = 1 then fun i => if i = s % L then S.cur else S.lt i else S.lt), S.2.2.2)
/-- after a drawn move -/
def sta (sc : Nat → Nat → Int64) (hw : Nat) (len : Int32) (L s n : Nat) (S : SS) (m a b x : Nat) : SS :=
  ltw hw L s (if (tkn sc hw len L s n S a b x).1 = true then stl sc s (S.wsd (tkn sc hw len L s n S a b x).2) m a b x else S.wsd (tkn sc hw len L s n S a b x).2)
def ssm (o : Option (Nat × Nat × Nat × Nat)) (u : SS) (f : Nat → Nat → Nat → Nat → SS) : SS := match o with
  | none => u
  | some (m, a, b, x) => f m a b x
theorem ssm_none (u : SS) (f : Nat → Nat → Nat → Nat → SS) : ssm none u f = u := rfl
theorem ssm_some (m a b x : Nat) (u : SS) (f : Nat → Nat → Nat → Nat → SS) : ssm (some (m, a, b, x)) u f = f m a b x := rfl
/-- a step -/
def sst (sz : Nat → Nat) (nv : Nat) (vl : Nat → Nat → Int32) (F : Nat) (fre : Nat → Nat) (sc : Nat → Nat → Int64) (hw : Nat) (len : Int32) (L n s : Nat) (S : SS) : SS :=
  ssm (prp sz nv vl F fre S.sd S.cur) (S.wsd (nxs (nxs (nxs S.sd)))) (fun m a b x => sta sc hw len L s n (S.wsd (nxs (nxs (nxs S.sd)))) m a b x)
theorem sst_none {sz : Nat → Nat} {nv : Nat} {vl : Nat → Nat → Int32} {F : Nat} {fre : Nat → Nat} {sc : Nat → Nat → Int64} {hw : Nat} {len : Int32} {L n s : Nat} {S : SS} (e : prp sz nv vl F fre S.sd S.cur = none) : sst sz nv vl F fre sc hw len L n s S = S.wsd (nxs (nxs (nxs S.sd))) := by
  unfold sst; rw [e, ssm_none]
theorem sst_some {sz : Nat → Nat} {nv : Nat} {vl : Nat → Nat → Int32} {F : Nat} {fre : Nat → Nat} {sc : Nat → Nat → Int64} {hw : Nat} {len : Int32} {L n s m a b x : Nat} {S : SS} (e : prp sz nv vl F fre S.sd S.cur = some (m, a, b, x)) : sst sz nv vl F fre sc hw len L n s S = sta sc hw len L s n (S.wsd (nxs (nxs (nxs S.sd)))) m a b x := by
  unfold sst; rw [e, ssm_some]
theorem wsd_f (S : SS) (x : Int32) : (S.wsd x).kep = S.kep ∧ (S.wsd x).lt = S.lt ∧ (S.wsd x).lc = S.lc ∧ (S.wsd x).tak = S.tak ∧ (S.wsd x).tr = S.tr ∧ (S.wsd x).ks = S.ks := ⟨rfl, rfl, rfl, rfl, rfl, rfl⟩
theorem SsO.wsd {T : Nat} {S : SS} {x : Int32} (h : SsO T S) : SsO T (S.wsd x) := h
theorem SsO_stl {T : Nat} {S : SS} {sc : Nat → Nat → Int64} {s m a b x : Nat} (h : SsO T S) (hx : x < T) (hs : s ≤ 2000) : SsO T (stl sc s S m a b x) := by
  obtain ⟨h1, h2, h3, h4⟩ := h
  refine ⟨hx, ?_, h3, fun v t e => ?_⟩
  · show (if btr sc x S.kep = true then x else S.kep) < T
    split
    · exact hx
    · exact h2
  · have e' : (if v = a ∨ v = b then some s else S.lc v) = some t := e
    by_cases c : v = a ∨ v = b
    · rw [if_pos c] at e'
      have : s = t := by simpa using e'
      omega
    · rw [if_neg c] at e'
      exact h4 v t e'
theorem SsO_ltw {T hw L s : Nat} {S : SS} (h : SsO T S) : SsO T (ltw hw L s S) := by
  obtain ⟨h1, h2, h3, h4⟩ := h
  refine ⟨h1, h2, fun i => ?_, h4⟩
  show (if hw = 1 then fun i => if i = s % L then S.cur else S.lt i else S.lt) i < T
  by_cases c : hw = 1
  · rw [if_pos c]
    show (if i = s % L then S.cur else S.lt i) < T
    split
    · exact h1
    · exact h3 i
  · rw [if_neg c]; exact h3 i
theorem SsO_sta {T hw L s n m a b x : Nat} {len : Int32} {S : SS} {sc : Nat → Nat → Int64} (h : SsO T S) (hx : x < T) (hs : s ≤ 2000) : SsO T (sta sc hw len L s n S m a b x) := by
  unfold sta
  refine SsO_ltw ?_
  split
  · exact SsO_stl h.wsd hx hs
  · exact h.wsd
section
variable {E : EE} {d : Nat} {V : VH} {g nv : Nat} {sz : Nat → Nat} {vl : Nat → Nat → Int32} {st : Nat → Int32} {sc : Nat → Nat → Int64} {F : Nat} {fre : Nat → Nat} {len : Int32} {S : SS} {T : Nat}
def seS : Nat → Nat → Nat → Prop := fun a f _ => a = 0 ∧ (f = 16 ∨ f = 17 ∨ f = 18 ∨ f = 19)
theorem c_settle {s m a b x : Nat} {K : VH → Prop} (h0 : 1 < d) (hg : PG (vL V) g) (hT : Tb V g T st sc) (h : ScC V F fre len S) (ho : SsO T S) (hx : x < T) (ha : a < 12) (hb : b < 12)
    (v11 : vI V 0 16 11 = nI m) (v12 : vI V 0 16 12 = nI a) (v13 : vI V 0 16 13 = nI b) (v9 : vI V 0 16 9 = nI x)
    (hk : ∀ V', Fc V V' seS → ScC V' F fre len (stl sc s S m a b x) → K V') : vMV E d M_X6_settle [sl 0 16, sl g 19, wi (nI s), wi len] V K := by
  have g0 : g ≠ 0 := hg.2.1
  obtain ⟨h1, h2, h3, h4, h5, h6, h7, h8, h9⟩ := h
  refine w_X6_settle_0 hg (by omega) (fun V1 e1 V2 e2 => ?_)
  have w12 : vI V2 0 16 12 = nI a := by rw [e2, wrI_ne (fun z => by omega), e1, wrI_ne (fun z => by omega)]; exact v12
  rw [w12, nI_clamp (show a < 2 ^ 31 by omega)]
  refine ⟨vp_in_nI ha (by decide), fun V4 e4 => ?_⟩
  have w13 : vI V4 0 16 13 = nI b := by rw [e4, wrI_ne (fun z => by omega), e2, wrI_ne (fun z => by omega), e1, wrI_ne (fun z => by omega)]; exact v13
  rw [w13, nI_clamp (show b < 2 ^ 31 by omega)]
  refine ⟨vp_in_nI hb (by decide), fun V6 e6 => ?_⟩
  have f6 : Fc V V6 seS := by
    rw [e6, e4, e2, e1]
    exact (((Fc_wrI ⟨rfl, Or.inl rfl⟩).trans (Fc_wrI ⟨rfl, Or.inl rfl⟩)).trans (Fc_wrI ⟨rfl, by omega⟩)).trans (Fc_wrI ⟨rfl, by omega⟩)
  have u16 : ∀ i, i ≠ 8 → i ≠ 1 → vI V6 0 16 i = vI V 0 16 i := fun i p q => by
    rw [e6, wrI_ne (fun z => by omega), e4, wrI_ne (fun z => by omega), e2, wrI_ne (fun z => by omega), e1, wrI_ne (fun z => by omega)]
  have x8 : vI V6 0 16 8 = nI x := by rw [e6, wrI_ne (fun z => by omega), e4, wrI_ne (fun z => by omega), e2, wrI_ne (fun z => by omega), e1, wrI_at]; exact v9
  have x1 : vI V6 0 16 1 = 31 * S.tr + nI m := by
    rw [e6, wrI_ne (fun z => by omega), e4, wrI_ne (fun z => by omega), e2, wrI_at, e1, wrI_ne (fun z => by omega), wrI_ne (fun z => by omega), h2, v11]
  have x19 : ∀ v, v < 12 → vI V6 0 19 v = brI len (if v = a ∨ v = b then some s else S.lc v) := fun v hv => by
    by_cases c : v = b
    · subst c; rw [if_pos (Or.inr rfl), e6, wrI_at]; rfl
    · rw [e6, wrI_ne (fun z => by omega), e4]
      by_cases c2 : v = a
      · subst c2; rw [if_pos (Or.inl rfl), wrI_at]; rfl
      · rw [if_neg (fun z => by omega), wrI_ne (fun z => by omega), e2, wrI_ne (fun z => by omega), e1, wrI_ne (fun z => by omega)]
        exact h8 v hv
  have x18 : ∀ i, i < 20 → vI V6 0 18 i = nI (S.lt i) := fun i hi => by
    rw [e6, wrI_ne (fun z => by omega), e4, wrI_ne (fun z => by omega), e2, wrI_ne (fun z => by omega), e1, wrI_ne (fun z => by omega)]; exact h7 i hi
  have x17 : ∀ i, i < F → vI V6 0 17 i = nI (fre i) := fun i hi => by
    rw [e6, wrI_ne (fun z => by omega), e4, wrI_ne (fun z => by omega), e2, wrI_ne (fun z => by omega), e1, wrI_ne (fun z => by omega)]; exact h9 i hi
  have x10 : vI V6 0 16 10 = nI S.kep := by rw [u16 10 (by decide) (by decide)]; exact h5
  have hT6 : Tb V6 g T st sc := hT.fc f6 (fun i => ⟨fun z => g0 z.1, fun z => g0 z.1⟩)
  rw [x8, x10]
  refine c_isBetter (by omega) (by rw [f6.l]; exact hg) hT6 hx ho.2.1 ⟨fun z => ?_, fun z => ?_⟩
  · intro V11 e11 V12 e12
    have bt : btr sc x S.kep = true := by cases e : btr sc x S.kep with
      | false => exact absurd (bI_0.mpr e) z
      | true => rfl
    rw [x8] at e11
    have f12 : Fc V6 V12 seS := by rw [e12, e11]; exact (Fc_wrI ⟨rfl, Or.inl rfl⟩).trans (Fc_wrI ⟨rfl, Or.inl rfl⟩)
    have y16 : ∀ i, i ≠ 10 → i ≠ 3 → vI V12 0 16 i = vI V6 0 16 i := fun i p q => by
      rw [e12, wrI_ne (fun z => by omega), e11, wrI_ne (fun z => by omega)]
    have yo : ∀ f i, f ≠ 16 → vI V12 0 f i = vI V6 0 f i := fun f i p => by
      rw [e12, wrI_ne (fun z => by omega), e11, wrI_ne (fun z => by omega)]
    refine hk V12 (f6.trans f12) ⟨?_, ?_, ?_, ?_, ?_, ?_, fun i hi => ?_, fun v hv => ?_, fun j hj => ?_⟩
    · rw [y16 2 (by decide) (by decide), u16 2 (by decide) (by decide)]; exact h1
    · rw [y16 1 (by decide) (by decide)]; exact x1
    · show vI V12 0 16 3 = (if btr sc x S.kep = true then nI s else S.ks)
      rw [if_pos bt, e12]; exact wrI_at
    · rw [y16 8 (by decide) (by decide)]; exact x8
    · show vI V12 0 16 10 = nI (if btr sc x S.kep = true then x else S.kep)
      rw [if_pos bt, e12, wrI_ne (fun z => by omega), e11]; exact wrI_at
    · rw [y16 5 (by decide) (by decide), u16 5 (by decide) (by decide)]; exact h6
    · rw [yo 18 i (by decide)]; exact x18 i hi
    · rw [yo 19 v (by decide)]; exact x19 v hv
    · rw [yo 17 j (by decide)]; exact x17 j hj
  · have bt := bI_0.mp z
    refine hk V6 f6 ⟨?_, ?_, ?_, ?_, ?_, ?_, fun i hi => ?_, fun v hv => ?_, fun j hj => ?_⟩
    · rw [u16 2 (by decide) (by decide)]; exact h1
    · exact x1
    · show vI V6 0 16 3 = (if btr sc x S.kep = true then nI s else S.ks)
      rw [bt, u16 3 (by decide) (by decide)]; exact h3
    · exact x8
    · show vI V6 0 16 10 = nI (if btr sc x S.kep = true then x else S.kep)
      rw [bt]; exact x10
    · rw [u16 5 (by decide) (by decide)]; exact h6
    · exact x18 i hi
    · exact x19 v hv
    · exact x17 j hj
end
