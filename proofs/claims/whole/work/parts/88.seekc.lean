/-! the class's search, from its first step to its end -/
def srun (f : Nat → SS → SS) : Nat → Nat → SS → SS
  | 0, _, S => S
  | k + 1, s, S => srun f k (s + 1) (f s S)
theorem srun_zero (f : Nat → SS → SS) (s : Nat) (S : SS) : srun f 0 s S = S := rfl
theorem srun_succ (f : Nat → SS → SS) (k s : Nat) (S : SS) : srun f (k + 1) s S = srun f k (s + 1) (f s S) := rfl
theorem stl_tak (sc : Nat → Nat → Int64) (s : Nat) (S : SS) (m a b x : Nat) : (stl sc s S m a b x).tak = S.tak + 1 := rfl
section
variable {E : EE} {d : Nat} {V : VH} {g nv : Nat} {sz : Nat → Nat} {vl : Nat → Nat → Int32} {st : Nat → Int32} {sc : Nat → Nat → Int64} {F : Nat} {fre : Nat → Nat} {len : Int32} {S : SS}
def seG (g : Nat) : Nat → Nat → Nat → Prop := fun a f i => seS a f i ∨ a = g ∧ f = 0 ∧ i = 8
theorem sta_no {hw L s n m a b x : Nat} (h : (tkn sc hw len L s n S a b x).1 = false) : sta sc hw len L s n S m a b x = ltw hw L s (S.wsd (tkn sc hw len L s n S a b x).2) := by
  unfold sta; rw [if_neg (by rw [h]; decide)]
theorem sta_yes {hw L s n m a b x : Nat} (h : (tkn sc hw len L s n S a b x).1 = true) : sta sc hw len L s n S m a b x = ltw hw L s (stl sc s (S.wsd (tkn sc hw len L s n S a b x).2) m a b x) := by
  unfold sta; rw [if_pos h]
theorem ScC.late {hw L s : Nat} (h : ScC V F fre len S) (hs : s % L < 20) (h1 : hw = 1) : ScC (wrI V 0 18 (s % L) (nI S.cur)) F fre len (ltw hw L s S) := by
  obtain ⟨h1', h2, h3, h4, h5, h6, h7, h8, h9⟩ := h
  refine ⟨?_, ?_, ?_, ?_, ?_, ?_, fun i hi => ?_, fun v hv => ?_, fun j hj => ?_⟩
  · rw [wrI_ne (fun z => by omega)]; exact h1'
  · rw [wrI_ne (fun z => by omega)]; exact h2
  · rw [wrI_ne (fun z => by omega)]; exact h3
  · rw [wrI_ne (fun z => by omega)]; exact h4
  · rw [wrI_ne (fun z => by omega)]; exact h5
  · rw [wrI_ne (fun z => by omega)]; exact h6
  · show _ = nI ((if hw = 1 then fun i => if i = s % L then S.cur else S.lt i else S.lt) i)
    rw [if_pos h1]
    show _ = nI (if i = s % L then S.cur else S.lt i)
    by_cases c : i = s % L
    · rw [if_pos c, c, wrI_at]
    · rw [if_neg c, wrI_ne (fun z => by omega)]; exact h7 i hi
  · rw [wrI_ne (fun z => by omega)]; exact h8 v hv
  · rw [wrI_ne (fun z => by omega)]; exact h9 j hj
theorem ltw_no {hw L s : Nat} (h : hw ≠ 1) : ltw hw L s S = S := by unfold ltw; rw [if_neg h]; rfl
theorem c_seek_go {hw L n : Nat} {x4 : Int32} {K : Int32 → VH → Prop} (h0 : 4 < d) (hS : Sp V g nv sz vl) (hT : Tb V g (Tp sz nv 0) st sc) (hF : FrO nv sz F fre) (hH : HwO hw len L) (hn : n ≤ 2000)
    : ∀ (k s : Nat) (W : VH) (S : SS), s + k = n → Fc V W seS → ScC W F fre len S → SsO (Tp sz nv 0) S →
    (∀ V', Fc V V' (seG g) → ScC V' F fre len (srun (sst sz nv vl F fre sc hw len L n) k s S) → vI V' g 0 8 = nI (srun (sst sz nv vl F fre sc hw len L n) k s S).kep → SsO (Tp sz nv 0) (srun (sst sz nv vl F fre sc hw len L n) k s S) → K (nI (srun (sst sz nv vl F fre sc hw len L n) k s S).tak) V') →
    vwp E d M_X6_seek 30 [some (sl 0 16), some (sl g 0), some (wi (nI hw)), some (wi len), some (wi x4), some (wi (nI n)), some (wi (nI S.tak)), some (wi (nI s))] [] W (zi K) := by
  have hg := hS.1
  have g0 : g ≠ 0 := hg.2.1
  have n12 := hS.2.2.1
  intro k
  induction k with
  | zero =>
    intro s W S es w hC hO hk
    rw [srun_zero] at hk
    have hgw : PG (vL W) g := by rw [w.l]; exact hg
    refine w_X6_seek_30 hgw (by omega) ⟨fun _ => ?_, fun z => absurd (nI_le (show n ≤ s by omega) (by omega)) z⟩
    refine w_X3_moveTo_0 hgw (fun V1 e1 => ?_)
    rw [hC.2.2.2.2.1] at e1
    have f1 : Fc W V1 (fun a f i => a = g ∧ f = 0 ∧ i = 8) := by rw [e1]; exact Fc_wrI ⟨rfl, rfl, rfl⟩
    refine hk V1 ((w.mono (fun a f i z => Or.inl z)).trans (f1.mono (fun a f i z => Or.inr z))) ?_ (by rw [e1]; exact wrI_at) hO
    obtain ⟨h1, h2, h3, h4, h5, h6, h7, h8, h9⟩ := hC
    have ne : ∀ f i, vI V1 0 f i = vI W 0 f i := fun f i => f1.i (fun z => g0 z.1.symm)
    exact ⟨by rw [ne]; exact h1, by rw [ne]; exact h2, by rw [ne]; exact h3, by rw [ne]; exact h4, by rw [ne]; exact h5, by rw [ne]; exact h6, fun i hi => by rw [ne]; exact h7 i hi, fun i hi => by rw [ne]; exact h8 i hi, fun i hi => by rw [ne]; exact h9 i hi⟩
  | succ k ih =>
    intro s W S es w hC hO hk
    have hs : s < n := by omega
    have hgw : PG (vL W) g := by rw [w.l]; exact hg
    have spW : ∀ {A : VH}, Fc V A seS → Sp A g nv sz vl := fun q => hS.fc q (fun f i _ z => g0 z.1)
    have tbW : ∀ {A : VH}, Fc V A seS → Tb A g (Tp sz nv 0) st sc := fun q => hT.fc q (fun i => ⟨fun z => g0 z.1, fun z => g0 z.1⟩)
    have m16 : ∀ {A B : VH}, Fc A B seD → Fc A B seS := fun q => q.mono (fun a f i z => ⟨z.1, Or.inl z.2.1⟩)
    have next : ∀ (A : VH) (S2 : SS), Fc V A seS → ScC A F fre len S2 → SsO (Tp sz nv 0) S2 → sst sz nv vl F fre sc hw len L n s S = S2 → vwp E d M_X6_seek 110 [some (sl 0 16), some (sl g 0), some (wi (nI hw)), some (wi len), some (wi x4), some (wi (nI n)), some (wi (nI S2.tak)), some (wi (nI s))] [] A (zi K) := fun A S2 fA cA oA eS => by
      refine w_X6_seek_110 (spW fA).1 ?_
      rw [nI_1]
      refine ih (s + 1) A S2 (by omega) fA cA oA ?_
      have er : srun (sst sz nv vl F fre sc hw len L n) (k + 1) s S = srun (sst sz nv vl F fre sc hw len L n) k (s + 1) S2 := by
        rw [srun_succ, eS]
      rw [er] at hk
      exact hk
    have r82 : ∀ (A : VH) (S2 : SS), Fc V A seS → ScC A F fre len S2 → SsO (Tp sz nv 0) S2 → sst sz nv vl F fre sc hw len L n s S = ltw hw L s S2 → vwp E d M_X6_seek 82 [some (sl 0 16), some (sl g 0), some (wi (nI hw)), some (wi len), some (wi x4), some (wi (nI n)), some (wi (nI S2.tak)), some (wi (nI s))] [] A (zi K) := fun A S2 fA cA oA eS => by
      have q1 : nI hw = 1 ↔ hw = 1 := nI_eq (by have := hH.1; omega) (by decide)
      refine w_X6_seek_82 (spW fA).1 ⟨fun z => next A S2 fA cA oA (by rw [eS, ltw_no (fun y => z (q1.mpr y))]), fun z => ?_⟩
      have h1 := q1.mp z
      obtain ⟨el, l1, l2⟩ := hH.2.1 (by omega)
      have l20 := hH.2.2.1 h1
      have ml : s % L < L := Nat.mod_lt _ (by omega)
      rw [el, nI_rem (show s < 2 ^ 31 by omega) (by omega)]
      refine ⟨fun y => absurd y (nI_ge (show 0 < L by omega) (by omega)), fun _ => ⟨fun y => absurd y (Int32.not_lt.mpr (nI_le (show L ≤ 20 by omega) (by decide))), fun _ => ⟨nI_ne0 (by omega) (by omega), vp_in_nI (show s % L < 20 by omega) (by decide), fun V3 e3 => ?_⟩⟩⟩
      rw [nI_clamp (show s % L < 2 ^ 31 by omega), cA.2.2.2.1] at e3
      rw [← el]
      have c3 : ScC V3 F fre len (ltw hw L s S2) := by rw [e3]; exact cA.late (by omega) h1
      exact next V3 (ltw hw L s S2) (fA.trans (by rw [e3]; exact Fc_wrI ⟨rfl, by omega⟩)) c3 (SsO_ltw oA) eS
    refine w_X6_seek_30 hgw (by omega) ⟨fun z => absurd z (nI_ge hs (by omega)), fun _ => ?_⟩
    refine c_propose (by omega) (spW w) hF hC hO.1 (fun e V5 f5 c5 => ?_) (fun m a b x e V5 f5 c5 v11 v12 v13 v9 ha hb hx => ?_)
    · have eS := sst_none (sc := sc) (hw := hw) (len := len) (L := L) (n := n) (s := s) e
      have oS : SsO (Tp sz nv 0) (S.wsd (nxs (nxs (nxs S.sd)))) := hO.wsd
      have tS : (S.wsd (nxs (nxs (nxs S.sd)))).tak = S.tak := (wsd_f S _).2.2.2.1
      generalize S.wsd (nxs (nxs (nxs S.sd))) = S1 at eS oS c5 tS
      rw [← tS]
      exact ⟨fun z => absurd rfl z, fun _ => next V5 S1 (w.trans (m16 f5)) c5 oS eS⟩
    · have eS := sst_some (sc := sc) (hw := hw) (len := len) (L := L) (n := n) (s := s) e
      have oS : SsO (Tp sz nv 0) (S.wsd (nxs (nxs (nxs S.sd)))) := hO.wsd
      have tS : (S.wsd (nxs (nxs (nxs S.sd)))).tak = S.tak := (wsd_f S _).2.2.2.1
      generalize S.wsd (nxs (nxs (nxs S.sd))) = S1 at eS oS c5 tS
      rw [← tS]
      have F5 : Fc V V5 seS := w.trans (m16 f5)
      refine ⟨fun _ => ?_, fun z => absurd z (by decide)⟩
      refine c_isTaken (by omega) (spW F5).1 (tbW F5) c5 oS hH hs hn hx (by omega) (by omega) v12 v13 v9 (fun V9 q => ?_)
      have all9 : Fc V5 V9 seD ∧ ScC V9 F fre len (S1.wsd (tkn sc hw len L s n S1 a b x).2) := by
        rcases q with ⟨q1, q2⟩ | q1
        · rw [q1, q2, wsd_self]; exact ⟨Fc.refl, c5⟩
        · rw [q1]; exact ⟨Fc_wrI ⟨rfl, rfl, Or.inl rfl⟩, c5.sd⟩
      have u : ∀ i, i ≠ 2 → vI V9 0 16 i = vI V5 0 16 i := fun i hi => by
        rcases q with ⟨q1, q2⟩ | q1
        · rw [q1]
        · rw [q1, wrI_ne (fun z => by omega)]
      obtain ⟨f9, c9⟩ := all9
      have F9 : Fc V V9 seS := F5.trans (m16 f9)
      have o9 : SsO (Tp sz nv 0) (S1.wsd (tkn sc hw len L s n S1 a b x).2) := oS.wsd
      refine ⟨fun z => ?_, fun z => ?_⟩
      · have tf := bI_0.mp z
        have t9 : (S1.wsd (tkn sc hw len L s n S1 a b x).2).tak = S1.tak := (wsd_f S1 _).2.2.2.1
        rw [← t9]
        exact r82 V9 _ F9 c9 o9 (by rw [eS, sta_no tf])
      · have tt : (tkn sc hw len L s n S1 a b x).1 = true := by cases y : (tkn sc hw len L s n S1 a b x).1 with
          | false => exact absurd (bI_0.mpr y) z
          | true => rfl
        refine c_settle (m := m) (a := a) (b := b) (x := x) (by omega) (spW F9).1 (tbW F9) c9 o9 hx (by omega) (by omega) (by rw [u 11 (by decide)]; exact v11) (by rw [u 12 (by decide)]; exact v12) (by rw [u 13 (by decide)]; exact v13) (by rw [u 9 (by decide)]; exact v9) (fun V13 f13 c13 => ?_)
        have t13 : (stl sc s (S1.wsd (tkn sc hw len L s n S1 a b x).2) m a b x).tak = S1.tak + 1 := by rw [stl_tak, (wsd_f S1 _).2.2.2.1]
        rw [nI_1, ← t13]
        exact r82 V13 _ (F9.trans f13) c13 (SsO_stl o9 hx (by omega)) (by rw [eS, sta_yes tt])
end
