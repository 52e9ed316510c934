/-! a search begins (class) -/
/-- the j-th below n that P holds of -/
def frP (P : Nat → Bool) : Nat → Nat → Nat
  | 0, _ => 0
  | n + 1, j => if P n = true ∧ j = cnt P n then n else frP P n j
theorem frP_in (P : Nat → Bool) : ∀ (n j : Nat), j < cnt P n → frP P n j < n ∧ P (frP P n j) = true
  | 0, j, h => absurd h (Nat.not_lt_zero j)
  | n + 1, j, h => by
    unfold frP
    by_cases c : P n = true ∧ j = cnt P n
    · rw [if_pos c]; exact ⟨Nat.lt_succ_self n, c.1⟩
    · rw [if_neg c]
      have hj : j < cnt P n := by
        have h' : j < cnt P n + (if P n = true then 1 else 0) := h
        by_cases q : P n = true
        · rw [if_pos q] at h'
          have : j ≠ cnt P n := fun y => c ⟨q, y⟩
          omega
        · rw [if_neg q] at h'; exact h'
      obtain ⟨a, b⟩ := frP_in P n j hj
      exact ⟨by omega, b⟩
/-- variable v may be moved -/
def mvb (x : Int32) (sz : Nat → Nat) (v : Nat) : Bool := !tst x v && decide (2 ≤ sz v)
def ss0 (z : Int32) (h : Nat) : SS := ((z, 1, -1), (h, h, 0), (fun _ => h), fun _ => none)
theorem frO_of {x : Int32} {sz : Nat → Nat} {nv : Nat} (hn : nv ≤ 12) (h1 : 1 ≤ cnt (mvb x sz) nv) : FrO nv sz (cnt (mvb x sz) nv) (frP (mvb x sz) nv) := by
  refine ⟨h1, Nat.le_trans (cnt_le _ nv) hn, fun j hj => ?_⟩
  obtain ⟨a, b⟩ := frP_in (mvb x sz) nv j hj
  refine ⟨a, ?_⟩
  have b' : (!tst x (frP (mvb x sz) nv j) && decide (2 ≤ sz (frP (mvb x sz) nv j))) = true := b
  rw [Bool.and_eq_true] at b'
  exact of_decide_eq_true b'.2
section
variable {E : EE} {d : Nat} {V : VH} {g nv : Nat} {sz : Nat → Nat} {vl : Nat → Nat → Int32} {len : Int32}
theorem c_begin {z x : Int32} {h : Nat} {K : VH → Prop} (h0 : 0 < d) (hS : Sp V g nv sz vl) (hh : vI V g 0 8 = nI h) (hx : vI V g 0 9 = x)
    (hk : ∀ V', Fc V V' seS → ScC V' (cnt (mvb x sz) nv) (frP (mvb x sz) nv) len (ss0 z h) → vI V' 0 16 0 = 1 → K V') : vMV E d M_X6_begin [sl 0 16, sl g 0, wi z] V K := by
  have hg := hS.1
  have g0 : g ≠ 0 := hg.2.1
  have n12 := hS.2.2.1
  refine vM.wf (fun hW => ?_)
  refine w_X6_begin_0 hg h0 (fun V1 e1 V2 e2 V3 e3 V4 e4 V5 e5 V6 e6 => ?_)
  have h4 : vI V4 g 0 8 = nI h := by rw [e4, wrI_ne (fun z => g0 z.1), e3, wrI_ne (fun z => g0 z.1), e2, wrI_ne (fun z => g0 z.1), e1, wrI_ne (fun z => g0 z.1)]; exact hh
  have h5 : vI V5 g 0 8 = nI h := by rw [e5, wrI_ne (fun z => g0 z.1)]; exact h4
  have h6 : vI V6 g 0 8 = nI h := by rw [e6, wrI_ne (fun z => g0 z.1)]; exact h5
  have F6 : Fc V V6 seS := by
    rw [e6, e5, e4, e3, e2, e1]
    exact (((((Fc_wrI ⟨rfl, Or.inl rfl⟩).trans (Fc_wrI ⟨rfl, Or.inl rfl⟩)).trans (Fc_wrI ⟨rfl, Or.inl rfl⟩)).trans (Fc_wrI ⟨rfl, Or.inl rfl⟩)).trans (Fc_wrI ⟨rfl, Or.inl rfl⟩)).trans (Fc_wrI ⟨rfl, Or.inl rfl⟩)
  have n18 : vN V 0 18 = 20 := hW.2.1 0 hW.1.1 (18, 20) (by decide)
  have n19 : vN V 0 19 = 12 := hW.2.1 0 hW.1.1 (19, 12) (by decide)
  have a0 : vI V6 0 16 0 = 1 := by rw [e6, wrI_ne (fun z => by omega), e5, wrI_ne (fun z => by omega), e4, wrI_ne (fun z => by omega), e3, wrI_ne (fun z => by omega), e2, wrI_ne (fun z => by omega), e1, wrI_at]
  have a1 : vI V6 0 16 1 = 1 := by rw [e6, wrI_ne (fun z => by omega), e5, wrI_ne (fun z => by omega), e4, wrI_ne (fun z => by omega), e3, wrI_ne (fun z => by omega), e2, wrI_at]
  have a2 : vI V6 0 16 2 = z := by rw [e6, wrI_ne (fun z => by omega), e5, wrI_ne (fun z => by omega), e4, wrI_ne (fun z => by omega), e3, wrI_at]
  have a3 : vI V6 0 16 3 = -1 := by rw [e6, wrI_ne (fun z => by omega), e5, wrI_ne (fun z => by omega), e4, wrI_at]
  have a8 : vI V6 0 16 8 = nI h := by rw [e6, wrI_ne (fun z => by omega), e5, wrI_at]; exact h4
  have a10 : vI V6 0 16 10 = nI h := by rw [e6, wrI_at]; exact h5
  rw [h6]
  refine c_fill ⟨by rw [F6.l]; exact hW.1.1, by decide, rfl⟩ (by rw [F6.n, n18]; decide) (fun V7 f7 b7 => ?_)
  refine c_fill ⟨by rw [f7.l, F6.l]; exact hW.1.1, by decide, rfl⟩ (by rw [f7.n, F6.n, n19]; decide) (fun V11 f11 b11 V15 e15 => ?_)
  rw [F6.n, n18] at b7
  rw [f7.n, F6.n, n19] at b11
  have F15 : Fc V V15 seS := by
    rw [e15]
    exact ((F6.trans (f7.mono (fun a f i z => ⟨z.1, by omega⟩))).trans (f11.mono (fun a f i z => ⟨z.1, by omega⟩))).trans (Fc_wrI ⟨rfl, Or.inl rfl⟩)
  have u16 : ∀ i, i ≠ 5 → vI V15 0 16 i = vI V6 0 16 i := fun i hi => by rw [e15, wrI_ne (fun z => by omega), f11.i (fun z => by omega), f7.i (fun z => by omega)]
  have c18 : ∀ i, i < 20 → vI V15 0 18 i = nI h := fun i hi => by rw [e15, wrI_ne (fun z => by omega), f11.i (fun z => by omega)]; exact b7 i hi
  have c19 : ∀ i, i < 12 → vI V15 0 19 i = -1 := fun i hi => by rw [e15, wrI_ne (fun z => by omega)]; exact b11 i hi
  have c5 : vI V15 0 16 5 = nI (cnt (mvb x sz) 0) := by rw [e15]; exact wrI_at
  have go : ∀ (m v : Nat) (W : VH), v + m = nv → Fc V W seS → (∀ i, i ≠ 5 → vI W 0 16 i = vI V15 0 16 i) → vI W 0 18 = vI V15 0 18 → vI W 0 19 = vI V15 0 19 → vI W 0 16 5 = nI (cnt (mvb x sz) v) → (∀ j, j < cnt (mvb x sz) v → vI W 0 17 j = nI (frP (mvb x sz) v j)) → vwp E d M_X6_begin 62 [some (sl 0 16), some (sl g 0), some (wi z), some (wi (nI v))] [] W (zv K) := by
    intro m
    induction m with
    | zero =>
      intro v W em w w16 w18 w19 w5 w17
      have ev : v = nv := by omega
      subst ev
      have sw : Sp W g v sz vl := hS.fc w (fun f i _ z => g0 z.1)
      refine w_X6_begin_62 sw.1 ?_
      rw [sw.2.1]
      refine ⟨fun _ => ?_, fun y => absurd (nI_le (Nat.le_refl _) (by omega)) y⟩
      refine hk W w ⟨?_, ?_, ?_, ?_, ?_, w5, fun i hi => ?_, fun i hi => ?_, w17⟩ (by rw [w16 0 (by decide), u16 0 (by decide)]; exact a0)
      · rw [w16 2 (by decide), u16 2 (by decide)]; exact a2
      · rw [w16 1 (by decide), u16 1 (by decide)]; exact a1
      · rw [w16 3 (by decide), u16 3 (by decide)]; exact a3
      · rw [w16 8 (by decide), u16 8 (by decide)]; exact a8
      · rw [w16 10 (by decide), u16 10 (by decide)]; exact a10
      · rw [w18]; exact c18 i hi
      · rw [w19]; exact c19 i hi
    | succ m ih =>
      intro v W em w w16 w18 w19 w5 w17
      have hv : v < nv := by omega
      have sw : Sp W g nv sz vl := hS.fc w (fun f i _ z => g0 z.1)
      have s6 := sw.2.2.2.2.2 v hv
      have xw : vI W g 0 9 = x := by rw [w.i (fun z => g0 z.1)]; exact hx
      have cs : cnt (mvb x sz) (v + 1) = cnt (mvb x sz) v + (if mvb x sz v = true then 1 else 0) := rfl
      have cl := cnt_le (mvb x sz) v
      have skip : mvb x sz v = false → vwp E d M_X6_begin 114 [some (sl 0 16), some (sl g 0), some (wi z), some (wi (nI v))] [] W (zv K) := fun q => by
        refine w_X6_begin_114 sw.1 ?_
        rw [nI_1]
        have c' : cnt (mvb x sz) (v + 1) = cnt (mvb x sz) v := by rw [cs, if_neg (by rw [q]; decide)]; rfl
        refine ih (v + 1) W (by omega) w w16 w18 w19 (by rw [c']; exact w5) (fun j hj => ?_)
        rw [c'] at hj
        have : frP (mvb x sz) (v + 1) j = frP (mvb x sz) v j := by
          show (if mvb x sz v = true ∧ j = cnt (mvb x sz) v then v else frP (mvb x sz) v j) = _
          rw [if_neg (fun y => by rw [q] at y; exact absurd y.1 (by decide))]
        rw [this]; exact w17 j hj
      refine w_X6_begin_62 sw.1 ?_
      rw [sw.2.1, xw]
      refine ⟨fun y => absurd y (nI_ge hv (by omega)), fun _ => ⟨fun y => skip ?_, fun y => ?_⟩⟩
      · have t := (tst_1 x (show v < 32 by omega)).mp y
        unfold mvb; rw [t]; rfl
      · have t := (tst_0 x (show v < 32 by omega)).mp y
        rw [nI_clamp (show v < 2 ^ 31 by omega), s6.1]
        refine ⟨vp_in_nI (show v < 12 by omega) (by decide), fun u => skip ?_, fun u => ?_⟩
        · have : ¬ 2 ≤ sz v := fun k => absurd u (Int32.not_lt.mpr (nI_le k (by omega)))
          unfold mvb; rw [decide_eq_false this, Bool.and_false]
        · have k2 : 2 ≤ sz v := Nat.le_of_not_lt (fun k => u (Int32.not_le.mp (nI_ge k (by decide))))
          have q : mvb x sz v = true := by unfold mvb; rw [t, decide_eq_true k2]; rfl
          intro V2 e2 
          rw [w5, nI_1] at e2
          rw [w5, nI_clamp (show cnt (mvb x sz) v < 2 ^ 31 by omega)]
          refine ⟨vp_in_nI (show cnt (mvb x sz) v < 12 by omega) (by decide), fun V4 e4 => ?_⟩
          have f4 : Fc W V4 seS := by rw [e4, e2]; exact (Fc_wrI ⟨rfl, Or.inl rfl⟩).trans (Fc_wrI ⟨rfl, by omega⟩)
          refine w_X6_begin_114 (by rw [f4.l]; exact sw.1) ?_
          rw [nI_1]
          have c' : cnt (mvb x sz) (v + 1) = cnt (mvb x sz) v + 1 := by rw [cs, if_pos q]
          refine ih (v + 1) V4 (by omega) (w.trans f4) (fun i hi => ?_) ?_ ?_ ?_ (fun j hj => ?_)
          · rw [e4, wrI_ne (fun z => by omega), e2, wrI_ne (fun z => by omega)]; exact w16 i hi
          · rw [← w18]; exact funext fun i => by rw [e4, wrI_ne (fun z => by omega), e2, wrI_ne (fun z => by omega)]
          · rw [← w19]; exact funext fun i => by rw [e4, wrI_ne (fun z => by omega), e2, wrI_ne (fun z => by omega)]
          · rw [e4, wrI_ne (fun z => by omega), e2, wrI_at, c']
          · rw [c'] at hj
            have ef : frP (mvb x sz) (v + 1) j = (if mvb x sz v = true ∧ j = cnt (mvb x sz) v then v else frP (mvb x sz) v j) := rfl
            rw [ef, e4]
            by_cases c : j = cnt (mvb x sz) v
            · rw [if_pos ⟨q, c⟩, c, wrI_at]
            · rw [if_neg (fun y => c y.2), wrI_ne (fun z => by omega), e2, wrI_ne (fun z => by omega)]
              exact w17 j (by omega)
  exact go nv 0 V15 (by omega) F15 (fun _ _ => rfl) rfl rfl c5 (fun j hj => absurd hj (Nat.not_lt_zero j))
end
