/-! special tests of the reference: rows -/
/-- the place alone -/
def s54 : Nat → Nat → Nat → Prop := fun a f k => a = 6 ∧ f = 0 ∧ k = 54
theorem s54_w {V V2 : VH} {x : Int32} (e : V2 = wrI V 6 0 54 x) : Fc V V2 s54 := by rw [e]; exact Fc_wrI ⟨rfl, rfl, rfl⟩
theorem s54_e {V V2 : VH} (h : Fc V V2 s54) : Fc V V2 evS := h.mono (fun a f i z => ⟨z.1, by have := z.2; omega⟩)
theorem RW.fc {V V2 : VH} {n : Nat} {y : Nat → Int32} (h : RW V n y) (f : Fc V V2 s54) : RW V2 n y := ⟨(f.i (fun z => by have := z.2; omega)).trans h.1, fun j hj => (f.j (fun z => by have := z.2; omega)).trans (h.2 j hj)⟩
section
variable {E : EE} {d : Nat} {V : VH} {p : Nat} {T : Nat → TK} {M : MN} {a b nf nv : Nat} {fa se : Nat → Int32}
/-- a number with a sign, as it was read -/
theorem ev_int4 {i i1 lo hi : Nat} {sg : Bool} {x : Int32} {K : Int64 → VH → Prop} (hg : EG T M nf nv fa se) (h : EM V p T M a b fa se) (ha : EA V p i) (h1 : a ≤ i) (h2 : i1 ≤ b) (hs : sg = true) (hr : nmr T sg lo hi i = .inr (i1, x)) (hk : ∀ V', Fc V V' s54 → EA V' p i1 → Bn 9999 x → K (Int32.toInt64 x) V') : vMJ E d M_X12_intValue [sl 6 0] V K := by
  subst hs
  unfold nmr at hr
  by_cases c2 : (T (nmj T true i)).1 = 2
  · rw [if_pos c2] at hr
    by_cases c3 : (T (nmj T true i)).2.2.1 < lo ∨ hi < (T (nmj T true i)).2.2.1
    · rw [if_pos c3] at hr; exact absurd hr (by simp)
    · rw [if_neg c3] at hr
      have hr' := Sum.inr.inj hr
      have e1 : nmj T true i + 1 = i1 := congrArg Prod.fst hr'
      have ex : (if nmj T true i = i then nI (T (nmj T true i)).2.2.1 else - nI (T (nmj T true i)).2.2.1) = x := congrArg Prod.snd hr'
      have b9 := (hg.1 (nmj T true i)).2 c2
      have bI9 : (nI (T (nmj T true i)).2.2.1).toInt = ((T (nmj T true i)).2.2.1 : Int) := Int32.toInt_ofNat_of_lt (by omega)
      by_cases c : (T i).1 = 45
      · have ej : nmj T true i = i + 1 := by unfold nmj; rw [if_pos ⟨rfl, c⟩]
        rw [ej] at e1 ex c2 bI9 b9
        rw [if_neg (by omega)] at ex
        obtain ⟨k1, k2, k3⟩ := h.kd ha h1 (by omega)
        have q45 : vI V 6 5 (Int32.toNatClampNeg (vI V 6 0 54)) = 45 := by rw [k2, c]; rfl
        refine w_X12_intValue_0 ⟨k1, fun z => absurd q45 z, fun _ => w_X12_intValue_19 ⟨fun z => absurd z (by decide), fun _ => w_X12_intValue_34 (fun V1 v1 => ?_)⟩⟩
        obtain ⟨a1, f1⟩ := ha.st 1 v1 rfl
        obtain ⟨m1, m2, m3⟩ := (h.fc f1).kd a1 (by omega) (by omega)
        refine ⟨m1, fun V3 v3 => ?_⟩
        obtain ⟨a3, f3⟩ := a1.st 1 v3 rfl
        have eu : nuv T M (i + 1) = nI (T (i + 1)).2.2.1 := by unfold nuv; rw [if_neg (by omega), if_pos c2]
        rw [m3, eu]
        refine ⟨fun z => absurd z (by decide), fun _ => ?_⟩
        rw [ex]
        refine hk V3 ((s54_w v1).trans (s54_w v3)) (by rw [← e1]; exact a3) ?_
        rw [← ex]
        have en : (- nI (T (i + 1)).2.2.1).toInt = -((T (i + 1)).2.2.1 : Int) := by rw [Int32.toInt_neg, bI9]; exact Int.bmod_eq_of_le (by omega) (by omega)
        exact ⟨by rw [en]; omega, by rw [en]; omega⟩
      · have ej : nmj T true i = i := by unfold nmj; rw [if_neg (fun z => c z.2)]
        rw [ej] at e1 ex c2 bI9 b9
        rw [if_pos rfl] at ex
        obtain ⟨k1, k2, k3⟩ := h.kd ha h1 (by omega)
        have q45 : ¬ vI V 6 5 (Int32.toNatClampNeg (vI V 6 0 54)) = 45 := by rw [k2, c2]; decide
        refine w_X12_intValue_0 ⟨k1, fun _ => w_X12_intValue_19 ⟨fun _ => w_X12_intValue_34 (fun V1 v1 => ?_), fun z => absurd rfl z⟩, fun z => absurd z q45⟩
        obtain ⟨a1, f1⟩ := ha.st 0 v1 rfl
        obtain ⟨m1, m2, m3⟩ := (h.fc f1).kd a1 (by omega) (by omega)
        refine ⟨m1, fun V3 v3 => ?_⟩
        obtain ⟨a3, f3⟩ := a1.st 1 v3 rfl
        have eu : nuv T M (i + 0) = nI (T i).2.2.1 := by unfold nuv; rw [Nat.add_zero, if_neg (by omega), if_pos c2]
        rw [m3, eu]
        refine ⟨fun _ => ?_, fun z => absurd rfl z⟩
        rw [ex]
        refine hk V3 ((s54_w v1).trans (s54_w v3)) (by rw [← e1]; exact a3) ?_
        rw [← ex]
        exact ⟨by rw [bI9]; omega, by rw [bI9]; omega⟩
  · rw [if_neg c2] at hr; exact absurd hr (by simp)
end
theorem jn_1 {c : Nat} (h : c < 2 ^ 30) : Int32.toInt64 (nI c) + 1 = Int32.toInt64 (nI (c + 1)) := by
  rw [i2l_nI (by omega), i2l_nI (by omega)]
  exact (Int64.ofNat_add c 1).symm
def rmw (nt y : Nat → Int32) (n : Nat) : Nat → Nat → Nat → Nat
  | 0, _, a => a
  | c + 1, w, a => rmw nt y n c (w + n) (min a (mis y (fun j => nt (w + j)) n))
theorem rmw_end {nt y : Nat → Int32} {n : Nat} : ∀ (c w a : Nat), rmw nt y n (c + 1) w a = min (rmw nt y n c w a) (mis y (fun j => nt (w + c * n + j)) n) := by
  intro c
  induction c with
  | zero => intro w a; rw [rmw, rmw, rmw, Nat.zero_mul, Nat.add_zero]
  | succ c ih =>
    intro w a
    rw [rmw, ih (w + n), rmw, show w + n + c * n = w + (c + 1) * n by rw [Nat.succ_mul]; omega]
theorem rmw_rmn {nt y : Nat → Int32} {n w : Nat} : ∀ c, rmw nt y n c w n = rmn y (fun r j => nt (w + r * n + j)) n c := by
  intro c
  induction c with
  | zero => rfl
  | succ c ih => rw [rmw_end, ih, rmn]
section
variable {E : EE} {d : Nat} {p : Nat} {T : Nat → TK} {M : MN} {L nf nv : Nat} {fa se nt : Nat → Int32}
theorem ev_rowG {K : Int64 → VH → Prop} {y : Nat → Int32} {n w a : Nat} (h0 : 1 < d) (hT : TL T L) (hg : EG T M nf nv fa se) (hn : n ≤ 12) (ha0 : a ≤ 12) : ∀ (m j i i1 : Nat) (xs : List Int32) (V : VH), grp T M shR m j i = .inr (i1, xs) → j + m = n → 1 ≤ n → i ≤ L → i1 < L → Ntd nt (w + j) xs → EM V p T M 0 L fa se → EA V p (if j = 0 then i + 1 else i) → (j = 0 → m ≠ 0) → RW V n y → (∀ V', Fc V V' s54 → EA V' p (i1 + 1) → vwp E d M_X12_rowValue 10 [some (sl 6 0), some (wj (Int32.toInt64 (nI (min a (mis y (fun j => nt (w + j)) n))))), none, none, none, none] [] V' (zj K)) → vwp E d M_X12_rowValue 39 [some (sl 6 0), some (wj (Int32.toInt64 (nI a))), none, some (wj (Int32.toInt64 (nI (mis y (fun j => nt (w + j)) j)))), none, some (wi (nI j))] [] V (zj K) := by
  intro m
  induction m with
  | zero =>
    intro j i i1 xs V e ej n1 hi iL hN hm ha nj hr hk
    obtain ⟨e1, _⟩ := grp_nil e
    subst e1
    have : j = n := by omega
    subst this
    rw [if_neg (fun z => nj z rfl)] at ha
    have ml := mis_le y (fun k => nt (w + k)) j
    refine w_X12_rowValue_39 ⟨fun _ V1 v1 => ?_, fun q => absurd (by rw [hr.1]; exact nI_le (Nat.le_refl _) (by omega)) q⟩
    obtain ⟨a1, _⟩ := ha.st 1 v1 rfl
    have kk := hk V1 (s54_w v1) a1
    refine ⟨fun q => w_X12_rowValue_117 ?_, fun q => w_X12_rowValue_117 ?_⟩
    · have := (nI_leI (by omega) (by omega)).mp (j_le.mp q)
      rw [show min a (mis y (fun k => nt (w + k)) j) = a by omega] at kk
      exact kk
    · have : ¬ a ≤ mis y (fun k => nt (w + k)) j := fun z => q (j_le.mpr (nI_le z (by omega)))
      rw [show min a (mis y (fun k => nt (w + k)) j) = mis y (fun k => nt (w + k)) j by omega] at kk
      exact kk
  | succ m ih =>
    intro j i i1 xs V e ej n1 hi iL hN hm ha nj hr hk
    obtain ⟨c, k, x, ys, p1, p2, ex⟩ := grp_st e
    subst ex
    have p1' : nmr T true 0 9999 (i + 1) = .inr (k, x) := p1
    have iL0 : i < L := hT.lt hi (by rw [c]; split <;> decide) (by rw [c]; split <;> decide)
    have ft := nmr_fit (sg := true) (lo := 0) (hi := 9999) hT (show i + 1 ≤ L by omega)
    rw [p1'] at ft
    have kL : k ≤ L := ft.2.1
    obtain ⟨t0, h1⟩ := hN.tl
    have ml := mis_le y (fun k => nt (w + k)) j
    have pj : vp_in (nI j) 12 := vp_in_nI (by omega) (by decide)
    have rest : ∀ t : Int32, vI V 6 0 54 + t = nI (20000 * p + (i + 1)) → vwp E d M_X12_rowValue 63 [some (sl 6 0), some (wj (Int32.toInt64 (nI a))), none, some (wj (Int32.toInt64 (nI (mis y (fun j => nt (w + j)) j)))), none, some (wi (nI j))] [wi t, wi (vI V 6 0 54), sl 6 0] V (zj K) := by
      intro t et
      refine w_X12_rowValue_63 (by omega) (fun V1 v1 => ?_)
      have g1 := s54_w v1
      have a1 : EA V1 p (i + 1) := by show vI V1 6 0 54 = _; rw [v1, wrI_at]; exact et
      refine ev_int4 hg (hm.fc (s54_e g1)) a1 (Nat.zero_le _) kL rfl p1' (fun V2 g2 a2 _ => ?_)
      have r2 := (hr.fc g1).fc g2
      rw [nI_clamp (show j < 2 ^ 31 by omega), r2.2 j (by omega)]
      refine ⟨pj, ?_⟩
      have nx : ∀ c' : Nat, c' = mis y (fun k => nt (w + k)) (j + 1) → vwp E d M_X12_rowValue 39 [some (sl 6 0), some (wj (Int32.toInt64 (nI a))), none, some (wj (Int32.toInt64 (nI c'))), none, some (wi (nI (j + 1)))] [] V2 (zj K) := by
        intro c' ec
        subst ec
        refine ih (j + 1) k i1 ys V2 p2 (by omega) n1 kL iL (by rw [← Nat.add_assoc]; exact h1) ((hm.fc (s54_e g1)).fc (s54_e g2)) (by rw [if_neg (by omega)]; exact a2) (fun z => absurd z (by omega)) r2 (fun V' f' a' => hk V' ((g1.trans g2).trans f') a')
      refine ⟨fun z => w_X12_rowValue_88 ?_, fun z => w_X12_rowValue_88 ?_⟩
      · rw [jn_1 (by omega), nI_1]
        exact nx _ (by rw [mis, t0, if_neg (fun w => z (by rw [w]))])
      · rw [Int64.add_zero, nI_1]
        exact nx _ (by rw [mis, t0, if_pos (j_inj.mp z).symm]; rfl)
    refine w_X12_rowValue_39 ⟨fun q => absurd q (by rw [hr.1]; exact nI_ge (by omega) (by omega)), fun _ => ⟨fun q => ?_, fun q => ?_⟩⟩
    · have j0 : j = 0 := by
        have := (nI_leI (b := 0) (by omega) (by decide)).mp q
        omega
      rw [if_pos j0] at ha
      refine rest 0 ?_
      rw [Int32.add_zero]; exact ha
    · have j0 : ¬ j = 0 := fun z => q (by rw [z]; decide)
      rw [if_neg j0] at ha
      refine rest 1 ?_
      rw [show vI V 6 0 54 = nI (20000 * p + i) from ha, nI_1]
      exact congrArg nI (by omega)
end
