/-! the class's search: what it keeps (parts 87, 88 with a narrower frame) -/
def seT : Nat → Nat → Nat → Prop := fun a f i => a = 0 ∧ (f = 16 ∧ i ≠ 0 ∨ f = 17 ∨ f = 18 ∨ f = 19)
def seU (g : Nat) : Nat → Nat → Nat → Prop := fun a f i => seT a f i ∨ a = g ∧ f = 0 ∧ i = 8
section
variable {E : EE} {d : Nat} {V : VH} {g nv : Nat} {sz : Nat → Nat} {vl : Nat → Nat → Int32} {st : Nat → Int32} {sc : Nat → Nat → Int64} {F : Nat} {fre : Nat → Nat} {len : Int32} {S : SS} {T : Nat}
theorem c_settle2 {s m a b x : Nat} {K : VH → Prop} (h0 : 1 < d) (hg : PG (vL V) g) (hT : Tb V g T st sc) (h : ScC V F fre len S) (ho : SsO T S) (hx : x < T) (ha : a < 12) (hb : b < 12)
    (v11 : vI V 0 16 11 = nI m) (v12 : vI V 0 16 12 = nI a) (v13 : vI V 0 16 13 = nI b) (v9 : vI V 0 16 9 = nI x)
    (hk : ∀ V', Fc V V' seT → ScC V' F fre len (stl sc s S m a b x) → K V') : vMV E d M_X6_settle [sl 0 16, sl g 19, wi (nI s), wi len] V K := by
  have g0 : g ≠ 0 := hg.2.1
  obtain ⟨h1, h2, h3, h4, h5, h6, h7, h8, h9⟩ := h
  refine w_X6_settle_0 hg (by omega) (fun V1 e1 V2 e2 => ?_)
  have w12 : vI V2 0 16 12 = nI a := by rw [e2, wrI_ne (fun z => by omega), e1, wrI_ne (fun z => by omega)]; exact v12
  rw [w12, nI_clamp (show a < 2 ^ 31 by omega)]
  refine ⟨vp_in_nI ha (by decide), fun V4 e4 => ?_⟩
  have w13 : vI V4 0 16 13 = nI b := by rw [e4, wrI_ne (fun z => by omega), e2, wrI_ne (fun z => by omega), e1, wrI_ne (fun z => by omega)]; exact v13
  rw [w13, nI_clamp (show b < 2 ^ 31 by omega)]
  refine ⟨vp_in_nI hb (by decide), fun V6 e6 => ?_⟩
  have f6 : Fc V V6 seT := by
    rw [e6, e4, e2, e1]
    exact (((Fc_wrI ⟨rfl, by omega⟩).trans (Fc_wrI ⟨rfl, by omega⟩)).trans (Fc_wrI ⟨rfl, by omega⟩)).trans (Fc_wrI ⟨rfl, by omega⟩)
  have u16 : ∀ i, i ≠ 8 → i ≠ 1 → vI V6 0 16 i = vI V 0 16 i := fun i p q => by
    rw [e6, wrI_ne (fun z => by omega), e4, wrI_ne (fun z => by omega), e2, wrI_ne (fun z => by omega), e1, wrI_ne (fun z => by omega)]
  have x8 : vI V6 0 16 8 = nI x := by rw [e6, wrI_ne (fun z => by omega), e4, wrI_ne (fun z => by omega), e2, wrI_ne (fun z => by omega), e1, wrI_at]; exact v9
  have x1 : vI V6 0 16 1 = 31 * S.tr + nI m := by
    rw [e6, wrI_ne (fun z => by omega), e4, wrI_ne (fun z => by omega), e2, wrI_at, e1, wrI_ne (fun z => by omega), wrI_ne (fun z => by omega), h2, v11]
  have x19 : ∀ v, v < 12 → vI V6 0 19 v = brI len (if v = a ∨ v = b then some s else S.lc v) := fun v hv => by
    by_cases c : v = b
    · subst c; rw [if_pos (Or.inr rfl), e6, wrI_at]; rfl
    · rw [e6, wrI_ne (fun z => by omega), e4]
      by_cases c2 : v = a
      · subst c2; rw [if_pos (Or.inl rfl), wrI_at]; rfl
      · rw [if_neg (fun z => by omega), wrI_ne (fun z => by omega), e2, wrI_ne (fun z => by omega), e1, wrI_ne (fun z => by omega)]
        exact h8 v hv
  have x18 : ∀ i, i < 20 → vI V6 0 18 i = nI (S.lt i) := fun i hi => by
    rw [e6, wrI_ne (fun z => by omega), e4, wrI_ne (fun z => by omega), e2, wrI_ne (fun z => by omega), e1, wrI_ne (fun z => by omega)]; exact h7 i hi
  have x17 : ∀ i, i < F → vI V6 0 17 i = nI (fre i) := fun i hi => by
    rw [e6, wrI_ne (fun z => by omega), e4, wrI_ne (fun z => by omega), e2, wrI_ne (fun z => by omega), e1, wrI_ne (fun z => by omega)]; exact h9 i hi
  have x10 : vI V6 0 16 10 = nI S.kep := by rw [u16 10 (by decide) (by decide)]; exact h5
  have hT6 : Tb V6 g T st sc := hT.fc f6 (fun i => ⟨fun z => g0 z.1, fun z => g0 z.1⟩)
  rw [x8, x10]
  refine c_isBetter (by omega) (by rw [f6.l]; exact hg) hT6 hx ho.2.1 ⟨fun z => ?_, fun z => ?_⟩
  · intro V11 e11 V12 e12
    have bt : btr sc x S.kep = true := by cases e : btr sc x S.kep with
      | false => exact absurd (bI_0.mpr e) z
      | true => rfl
    rw [x8] at e11
    have f12 : Fc V6 V12 seT := by rw [e12, e11]; exact (Fc_wrI ⟨rfl, by omega⟩).trans (Fc_wrI ⟨rfl, by omega⟩)
    have y16 : ∀ i, i ≠ 10 → i ≠ 3 → vI V12 0 16 i = vI V6 0 16 i := fun i p q => by
      rw [e12, wrI_ne (fun z => by omega), e11, wrI_ne (fun z => by omega)]
    have yo : ∀ f i, f ≠ 16 → vI V12 0 f i = vI V6 0 f i := fun f i p => by
      rw [e12, wrI_ne (fun z => by omega), e11, wrI_ne (fun z => by omega)]
    refine hk V12 (f6.trans f12) ⟨?_, ?_, ?_, ?_, ?_, ?_, fun i hi => ?_, fun v hv => ?_, fun j hj => ?_⟩
    · rw [y16 2 (by decide) (by decide), u16 2 (by decide) (by decide)]; exact h1
    · rw [y16 1 (by decide) (by decide)]; exact x1
    · show vI V12 0 16 3 = (if btr sc x S.kep = true then nI s else S.ks)
      rw [if_pos bt, e12]; exact wrI_at
    · rw [y16 8 (by decide) (by decide)]; exact x8
    · show vI V12 0 16 10 = nI (if btr sc x S.kep = true then x else S.kep)
      rw [if_pos bt, e12, wrI_ne (fun z => by omega), e11]; exact wrI_at
    · rw [y16 5 (by decide) (by decide), u16 5 (by decide) (by decide)]; exact h6
    · rw [yo 18 i (by decide)]; exact x18 i hi
    · rw [yo 19 v (by decide)]; exact x19 v hv
    · rw [yo 17 j (by decide)]; exact x17 j hj
  · have bt := bI_0.mp z
    refine hk V6 f6 ⟨?_, ?_, ?_, ?_, ?_, ?_, fun i hi => ?_, fun v hv => ?_, fun j hj => ?_⟩
    · rw [u16 2 (by decide) (by decide)]; exact h1
    · exact x1
    · show vI V6 0 16 3 = (if btr sc x S.kep = true then nI s else S.ks)
      rw [bt, u16 3 (by decide) (by decide)]; exact h3
    · exact x8
    · show vI V6 0 16 10 = nI (if btr sc x S.kep = true then x else S.kep)
      rw [bt]; exact x10
    · rw [u16 5 (by decide) (by decide)]; exact h6
    · exact x18 i hi
    · exact x19 v hv
    · exact x17 j hj
end
section
variable {E : EE} {d : Nat} {V : VH} {g nv : Nat} {sz : Nat → Nat} {vl : Nat → Nat → Int32} {st : Nat → Int32} {sc : Nat → Nat → Int64} {F : Nat} {fre : Nat → Nat} {len : Int32} {S : SS}
theorem c_seek_go2 {hw L n : Nat} {x4 : Int32} {K : Int32 → VH → Prop} (h0 : 4 < d) (hS : Sp V g nv sz vl) (hT : Tb V g (Tp sz nv 0) st sc) (hF : FrO nv sz F fre) (hH : HwO hw len L) (hn : n ≤ 2000)
    : ∀ (k s : Nat) (W : VH) (S : SS), s + k = n → Fc V W seT → ScC W F fre len S → SsO (Tp sz nv 0) S →
    (∀ V', Fc V V' (seU g) → ScC V' F fre len (srun (sst sz nv vl F fre sc hw len L n) k s S) → vI V' g 0 8 = nI (srun (sst sz nv vl F fre sc hw len L n) k s S).kep → SsO (Tp sz nv 0) (srun (sst sz nv vl F fre sc hw len L n) k s S) → K (nI (srun (sst sz nv vl F fre sc hw len L n) k s S).tak) V') →
    vwp E d M_X6_seek 30 [some (sl 0 16), some (sl g 0), some (wi (nI hw)), some (wi len), some (wi x4), some (wi (nI n)), some (wi (nI S.tak)), some (wi (nI s))] [] W (zi K) := by
  have hg := hS.1
  have g0 : g ≠ 0 := hg.2.1
  have n12 := hS.2.2.1
  intro k
  induction k with
  | zero =>
    intro s W S es w hC hO hk
    rw [srun_zero] at hk
    have hgw : PG (vL W) g := by rw [w.l]; exact hg
    refine w_X6_seek_30 hgw (by omega) ⟨fun _ => ?_, fun z => absurd (nI_le (show n ≤ s by omega) (by omega)) z⟩
    refine w_X3_moveTo_0 hgw (fun V1 e1 => ?_)
    rw [hC.2.2.2.2.1] at e1
    have f1 : Fc W V1 (fun a f i => a = g ∧ f = 0 ∧ i = 8) := by rw [e1]; exact Fc_wrI ⟨rfl, rfl, rfl⟩
    refine hk V1 ((w.mono (fun a f i z => Or.inl z)).trans (f1.mono (fun a f i z => Or.inr z))) ?_ (by rw [e1]; exact wrI_at) hO
    obtain ⟨h1, h2, h3, h4, h5, h6, h7, h8, h9⟩ := hC
    have ne : ∀ f i, vI V1 0 f i = vI W 0 f i := fun f i => f1.i (fun z => g0 z.1.symm)
    exact ⟨by rw [ne]; exact h1, by rw [ne]; exact h2, by rw [ne]; exact h3, by rw [ne]; exact h4, by rw [ne]; exact h5, by rw [ne]; exact h6, fun i hi => by rw [ne]; exact h7 i hi, fun i hi => by rw [ne]; exact h8 i hi, fun i hi => by rw [ne]; exact h9 i hi⟩
  | succ k ih =>
    intro s W S es w hC hO hk
    have hs : s < n := by omega
    have hgw : PG (vL W) g := by rw [w.l]; exact hg
    have spW : ∀ {A : VH}, Fc V A seT → Sp A g nv sz vl := fun q => hS.fc q (fun f i _ z => g0 z.1)
    have tbW : ∀ {A : VH}, Fc V A seT → Tb A g (Tp sz nv 0) st sc := fun q => hT.fc q (fun i => ⟨fun z => g0 z.1, fun z => g0 z.1⟩)
    have m16 : ∀ {A B : VH}, Fc A B seD → Fc A B seT := fun q => q.mono (fun a f i z => ⟨z.1, by have := z.2; omega⟩)
    have next : ∀ (A : VH) (S2 : SS), Fc V A seT → ScC A F fre len S2 → SsO (Tp sz nv 0) S2 → sst sz nv vl F fre sc hw len L n s S = S2 → vwp E d M_X6_seek 110 [some (sl 0 16), some (sl g 0), some (wi (nI hw)), some (wi len), some (wi x4), some (wi (nI n)), some (wi (nI S2.tak)), some (wi (nI s))] [] A (zi K) := fun A S2 fA cA oA eS => by
      refine w_X6_seek_110 (spW fA).1 ?_
      rw [nI_1]
      refine ih (s + 1) A S2 (by omega) fA cA oA ?_
      have er : srun (sst sz nv vl F fre sc hw len L n) (k + 1) s S = srun (sst sz nv vl F fre sc hw len L n) k (s + 1) S2 := by
        rw [srun_succ, eS]
      rw [er] at hk
      exact hk
    have r82 : ∀ (A : VH) (S2 : SS), Fc V A seT → ScC A F fre len S2 → SsO (Tp sz nv 0) S2 → sst sz nv vl F fre sc hw len L n s S = ltw hw L s S2 → vwp E d M_X6_seek 82 [some (sl 0 16), some (sl g 0), some (wi (nI hw)), some (wi len), some (wi x4), some (wi (nI n)), some (wi (nI S2.tak)), some (wi (nI s))] [] A (zi K) := fun A S2 fA cA oA eS => by
      have q1 : nI hw = 1 ↔ hw = 1 := nI_eq (by have := hH.1; omega) (by decide)
      refine w_X6_seek_82 (spW fA).1 ⟨fun z => next A S2 fA cA oA (by rw [eS, ltw_no (fun y => z (q1.mpr y))]), fun z => ?_⟩
      have h1 := q1.mp z
      obtain ⟨el, l1, l2⟩ := hH.2.1 (by omega)
      have l20 := hH.2.2.1 h1
      have ml : s % L < L := Nat.mod_lt _ (by omega)
      rw [el, nI_rem (show s < 2 ^ 31 by omega) (by omega)]
      refine ⟨fun y => absurd y (nI_ge (show 0 < L by omega) (by omega)), fun _ => ⟨fun y => absurd y (Int32.not_lt.mpr (nI_le (show L ≤ 20 by omega) (by decide))), fun _ => ⟨nI_ne0 (by omega) (by omega), vp_in_nI (show s % L < 20 by omega) (by decide), fun V3 e3 => ?_⟩⟩⟩
      rw [nI_clamp (show s % L < 2 ^ 31 by omega), cA.2.2.2.1] at e3
      rw [← el]
      have c3 : ScC V3 F fre len (ltw hw L s S2) := by rw [e3]; exact cA.late (by omega) h1
      exact next V3 (ltw hw L s S2) (fA.trans (by rw [e3]; exact Fc_wrI ⟨rfl, by omega⟩)) c3 (SsO_ltw oA) eS
    refine w_X6_seek_30 hgw (by omega) ⟨fun z => absurd z (nI_ge hs (by omega)), fun _ => ?_⟩
    refine c_propose (by omega) (spW w) hF hC hO.1 (fun e V5 f5 c5 => ?_) (fun m a b x e V5 f5 c5 v11 v12 v13 v9 ha hb hx => ?_)
    · have eS := sst_none (sc := sc) (hw := hw) (len := len) (L := L) (n := n) (s := s) e
      have oS : SsO (Tp sz nv 0) (S.wsd (nxs (nxs (nxs S.sd)))) := hO.wsd
      have tS : (S.wsd (nxs (nxs (nxs S.sd)))).tak = S.tak := (wsd_f S _).2.2.2.1
      generalize S.wsd (nxs (nxs (nxs S.sd))) = S1 at eS oS c5 tS
      rw [← tS]
      exact ⟨fun z => absurd rfl z, fun _ => next V5 S1 (w.trans (m16 f5)) c5 oS eS⟩
    · have eS := sst_some (sc := sc) (hw := hw) (len := len) (L := L) (n := n) (s := s) e
      have oS : SsO (Tp sz nv 0) (S.wsd (nxs (nxs (nxs S.sd)))) := hO.wsd
      have tS : (S.wsd (nxs (nxs (nxs S.sd)))).tak = S.tak := (wsd_f S _).2.2.2.1
      generalize S.wsd (nxs (nxs (nxs S.sd))) = S1 at eS oS c5 tS
      rw [← tS]
      have F5 : Fc V V5 seT := w.trans (m16 f5)
      refine ⟨fun _ => ?_, fun z => absurd z (by decide)⟩
      refine c_isTaken (by omega) (spW F5).1 (tbW F5) c5 oS hH hs hn hx (by omega) (by omega) v12 v13 v9 (fun V9 q => ?_)
      have all9 : Fc V5 V9 seD ∧ ScC V9 F fre len (S1.wsd (tkn sc hw len L s n S1 a b x).2) := by
        rcases q with ⟨q1, q2⟩ | q1
        · rw [q1, q2, wsd_self]; exact ⟨Fc.refl, c5⟩
        · rw [q1]; exact ⟨Fc_wrI ⟨rfl, rfl, Or.inl rfl⟩, c5.sd⟩
      have u : ∀ i, i ≠ 2 → vI V9 0 16 i = vI V5 0 16 i := fun i hi => by
        rcases q with ⟨q1, q2⟩ | q1
        · rw [q1]
        · rw [q1, wrI_ne (fun z => by omega)]
      obtain ⟨f9, c9⟩ := all9
      have F9 : Fc V V9 seT := F5.trans (m16 f9)
      have o9 : SsO (Tp sz nv 0) (S1.wsd (tkn sc hw len L s n S1 a b x).2) := oS.wsd
      refine ⟨fun z => ?_, fun z => ?_⟩
      · have tf := bI_0.mp z
        have t9 : (S1.wsd (tkn sc hw len L s n S1 a b x).2).tak = S1.tak := (wsd_f S1 _).2.2.2.1
        rw [← t9]
        exact r82 V9 _ F9 c9 o9 (by rw [eS, sta_no tf])
      · have tt : (tkn sc hw len L s n S1 a b x).1 = true := by cases y : (tkn sc hw len L s n S1 a b x).1 with
          | false => exact absurd (bI_0.mpr y) z
          | true => rfl
        refine c_settle2 (m := m) (a := a) (b := b) (x := x) (by omega) (spW F9).1 (tbW F9) c9 o9 hx (by omega) (by omega) (by rw [u 11 (by decide)]; exact v11) (by rw [u 12 (by decide)]; exact v12) (by rw [u 13 (by decide)]; exact v13) (by rw [u 9 (by decide)]; exact v9) (fun V13 f13 c13 => ?_)
        have t13 : (stl sc s (S1.wsd (tkn sc hw len L s n S1 a b x).2) m a b x).tak = S1.tak + 1 := by rw [stl_tak, (wsd_f S1 _).2.2.2.1]
        rw [nI_1, ← t13]
        exact r82 V13 _ (F9.trans f13) c13 (SsO_stl o9 hx (by omega)) (by rw [eS, sta_yes tt])
end
