/-! special tests of the reference: rounds -/
theorem php : ∀ (n : Nat) (g : Nat → Nat), (∀ i, i ≤ n → g i < n) → ∃ a b, a < b ∧ b ≤ n ∧ g a = g b := by
  intro n
  induction n with
  | zero => intro g h; exact absurd (h 0 (Nat.le_refl 0)) (Nat.not_lt_zero _)
  | succ n ih =>
    intro g h
    by_cases c : ∃ i, i ≤ n ∧ g i = g (n + 1)
    · obtain ⟨i, h1, h2⟩ := c
      exact ⟨i, n + 1, by omega, Nat.le_refl _, h2⟩
    · have ne : ∀ i, i ≤ n → g i ≠ g (n + 1) := fun i hi z => c ⟨i, hi, z⟩
      have ht := h (n + 1) (Nat.le_refl _)
      obtain ⟨a, b, h1, h2, h3⟩ := ih (fun i => if g i < g (n + 1) then g i else g i - 1) (fun i hi => by
        show (if g i < g (n + 1) then g i else g i - 1) < n
        have := h i (by omega)
        have := ne i hi
        split <;> omega)
      refine ⟨a, b, h1, by omega, ?_⟩
      have na := ne a (by omega)
      have nb := ne b (by omega)
      have h3' : (if g a < g (n + 1) then g a else g a - 1) = (if g b < g (n + 1) then g b else g b - 1) := h3
      by_cases ca : g a < g (n + 1)
      · by_cases cb : g b < g (n + 1)
        · rw [if_pos ca, if_pos cb] at h3'; exact h3'
        · rw [if_pos ca, if_neg cb] at h3'; omega
      · by_cases cb : g b < g (n + 1)
        · rw [if_neg ca, if_pos cb] at h3'; omega
        · rw [if_neg ca, if_neg cb] at h3'; omega
def itz (z : Nat → Nat) : Nat → Nat → Nat
  | 0, a => a
  | l + 1, a => z (itz z l a)
theorem itz_lt {z : Nat → Nat} {n a : Nat} (hz : ∀ i, i < n → z i < n) (ha : a < n) (l : Nat) : itz z l a < n := by
  induction l with
  | zero => exact ha
  | succ l ih => exact hz _ ih
theorem itz_back {z : Nat → Nat} {n a : Nat} (hz : ∀ i, i < n → z i < n) (hi : ∀ i j, i < n → j < n → z i = z j → i = j) (ha : a < n) (k : Nat) : ∀ l, itz z l a = itz z (l + k) a → itz z k a = a := by
  intro l
  induction l with
  | zero => intro h; rw [Nat.zero_add] at h; exact h.symm
  | succ l ih =>
    intro h
    rw [show l + 1 + k = l + k + 1 by omega] at h
    exact ih (hi _ _ (itz_lt hz ha l) (itz_lt hz ha (l + k)) h)
theorem itz_ret {z : Nat → Nat} {n a : Nat} (hz : ∀ i, i < n → z i < n) (hi : ∀ i j, i < n → j < n → z i = z j → i = j) (ha : a < n) : ∃ k, 1 ≤ k ∧ k ≤ n ∧ itz z k a = a := by
  obtain ⟨l, m, h1, h2, h3⟩ := php n (fun l => itz z l a) (fun l _ => itz_lt hz ha l)
  refine ⟨m - l, by omega, by omega, itz_back hz hi ha (m - l) l ?_⟩
  rw [show l + (m - l) = m by omega]
  exact h3
section
variable {E : EE} {d : Nat} {p : Nat} {T : Nat → TK} {M : MN} {L nf nv : Nat} {fa se nt : Nat → Int32}
theorem rgv_b (y : Nat → Int32) (n : Nat) : Tv (rgv y n) := by
  have a0 : Tv 0 := ⟨by rw [t_0]; omega, by rw [t_0]; omega⟩
  have a1 : Tv 1 := ⟨by rw [t_1]; omega, by rw [t_1]; omega⟩
  unfold rgv
  split
  · exact a1
  · split
    · exact a0
    · split
      · exact a0
      · exact a1
theorem ev_ring {V : VH} {K : Int64 → VH → Prop} {y : Nat → Int32} {n : Nat} (h0 : 0 < d) (hn : n ≤ 12) (hr : RW V n y) (hk : K (Int32.toInt64 (rgv y n)) V) : vwp E d M_X12_ringValue 10 [some (sl 6 0), some (wi 0), some (wi (-1)), some (wi 0), none] [] V (zj K) := by
  have bad : (¬ ∀ j, j < n → 0 ≤ y j ∧ y j < nI n) → K 1 V := by
    intro q
    have : rok y n n = false := by
      cases hb : rok y n n with
      | false => rfl
      | true => exact absurd ((rok_iff n).mp hb) q
    unfold rgv at hk
    rw [if_pos (Or.inl this), j_1] at hk
    exact hk
  have en : Int32.toInt64 (nI n) = Int32.toInt64 (nI n) := rfl
  have go : ∀ (m i : Nat), i + m = n → (∀ j, j < i → 0 ≤ y j ∧ y j < nI n) → vwp E d M_X12_ringValue 10 [some (sl 6 0), some (wi (nI (rmv (rgz y) i))), some (wi (rgl (rgz y) i)), some (wi (nI i)), none] [] V (zj K) := by
    intro m
    induction m with
    | zero =>
      intro i ei r1
      have : i = n := by omega
      subst this
      have mvl := rmv_le (rgz y) i
      have dl := dup_le y i
      refine w_X12_ringValue_10 h0 ⟨fun _ => ev_different hn hr ?_, fun q => absurd (by rw [hr.1]; exact nI_le (Nat.le_refl _) (by omega)) q⟩
      rw [hr.1]
      by_cases du : dup y i = 0
      · rw [du, Nat.sub_zero]
        refine ⟨fun _ => ?_, fun q => absurd (nI_le (Nat.le_refl _) (by omega)) q⟩
        have k2 : K (Int32.toInt64 (if rmv (rgz y) i = 0 then 0 else if wlk (rgz y) (rla (rgz y) i) i (rgz y (rla (rgz y) i)) 1 = rmv (rgz y) i then 0 else 1)) V := by
          have k := hk
          unfold rgv at k
          rw [if_neg (by
            rintro (z | z)
            · rw [(rok_iff i).mpr r1] at z; exact absurd z (by decide)
            · exact z du)] at k
          exact k
        by_cases m0 : rmv (rgz y) i = 0
        · have el : rgl (rgz y) i = -1 := by unfold rgl; rw [if_pos m0]
          rw [if_pos m0, j_0] at k2
          rw [el, m0]
          exact w_X12_ringValue_87 ⟨fun _ => w_X12_ringValue_117 ⟨fun z => absurd rfl z, fun _ => k2⟩, fun q => absurd (by decide) q⟩
        · have el : rgl (rgz y) i = nI (rla (rgz y) i) := by unfold rgl; rw [if_neg m0]
          rw [if_neg m0] at k2
          rw [el]
          have la := rla_lt m0
          have yz : ∀ a, a < i → y a = nI (rgz y a) ∧ rgz y a < i := by
            intro a ha
            obtain ⟨b, eb, lb⟩ := nI_of_lt (r1 a ha).1 (r1 a ha).2 (by omega)
            unfold rgz
            rw [eb, nI_clamp (show b < 2 ^ 31 by omega)]
            exact ⟨rfl, lb⟩
          have inj : ∀ a b, a < i → b < i → rgz y a = rgz y b → a = b := by
            intro a b ha hb e
            have ey : y a = y b := by rw [(yz a ha).1, (yz b hb).1, e]
            by_cases c : a < b
            · exact absurd ey ((dup_0 i).mp du b hb a c)
            · by_cases c2 : b < a
              · exact absurd ey.symm ((dup_0 i).mp du a ha b c2)
              · omega
          obtain ⟨k, hk1, hk2, hk3⟩ := itz_ret (fun a ha => (yz a ha).2) inj la
          have npos : ¬ nI (rla (rgz y) i) < 0 := nI_pos (by omega)
          have step : ∀ (a l : Nat), a < i → vwp E d M_X12_ringValue 87 [some (sl 6 0), some (wi (nI (rmv (rgz y) i))), some (wi (nI (rla (rgz y) i))), some (wi (nI (l + 1))), some (wi (nI (rgz y a)))] [] V (zj K) → vwp E d M_X12_ringValue 101 [some (sl 6 0), some (wi (nI (rmv (rgz y) i))), some (wi (nI (rla (rgz y) i))), some (wi (nI l)), some (wi (nI a))] [] V (zj K) := by
            intro a l ha w
            refine w_X12_ringValue_101 ⟨vp_in_nI (by omega) (by decide), ?_⟩
            rw [nI_clamp (show a < 2 ^ 31 by omega), hr.2 a ha, l2i_i2l, (yz a ha).1, nI_1]
            exact w
          have go2 : ∀ (f a l : Nat), a = itz (rgz y) l (rla (rgz y) i) → l + f = i + 1 → 1 ≤ l → l ≤ k → K (Int32.toInt64 (if wlk (rgz y) (rla (rgz y) i) f a l = rmv (rgz y) i then 0 else 1)) V → vwp E d M_X12_ringValue 87 [some (sl 6 0), some (wi (nI (rmv (rgz y) i))), some (wi (nI (rla (rgz y) i))), some (wi (nI l)), some (wi (nI a))] [] V (zj K) := by
            intro f
            induction f with
            | zero => intro a l ea el1 l1 lk kk; omega
            | succ f ihf =>
              intro a l ea el1 l1 lk kk
              have ha : a < i := by rw [ea]; exact itz_lt (fun a ha => (yz a ha).2) la l
              rw [wlk] at kk
              refine w_X12_ringValue_87 ⟨fun q => absurd q npos, fun _ => ⟨fun q => absurd ((nI_eq (b := 0) (by omega) (by decide)).mp q) (by omega), fun _ => ⟨fun q => ?_, fun q => ?_⟩⟩⟩
              · rw [if_pos ((nI_eq (by omega) (by omega)).mp q)] at kk
                refine w_X12_ringValue_117 ⟨fun z => ?_, fun z => ?_⟩
                · rw [if_neg (fun w => z (by rw [w])), j_1] at kk; exact kk
                · rw [if_pos ((nI_eq (by omega) (by omega)).mp z), j_0] at kk; exact kk
              · have na : ¬ a = rla (rgz y) i := fun z => q (by rw [z])
                rw [if_neg na] at kk
                have lk' : l ≠ k := fun z => na (by rw [ea, z, hk3])
                exact step a l ha (ihf (rgz y a) (l + 1) (by rw [ea]; rfl) (by omega) (by omega) (by omega) kk)
          refine w_X12_ringValue_87 ⟨fun q => absurd q npos, fun _ => ⟨fun _ => ?_, fun q => absurd rfl q⟩⟩
          exact step (rla (rgz y) i) 0 la (go2 i (rgz y (rla (rgz y) i)) 1 rfl (by omega) (by omega) hk1 k2)
      · refine ⟨fun q => absurd q (nI_ge (by omega) (by omega)), fun _ => ?_⟩
        have k := hk
        unfold rgv at k
        rw [if_pos (Or.inr du), j_1] at k
        exact k
    | succ m ih =>
      intro i ei r1
      have pin : vp_in (nI i) 12 := vp_in_nI (by omega) (by decide)
      refine w_X12_ringValue_10 h0 ⟨fun q => absurd q (by rw [hr.1]; exact nI_ge (by omega) (by omega)), fun _ => ⟨pin, ?_⟩⟩
      rw [nI_clamp (show i < 2 ^ 31 by omega), hr.2 i (by omega), hr.1]
      refine ⟨fun q => bad (fun z => Int32.not_lt.mpr (z i (by omega)).1 (j_lt.mp (by rw [j_0]; exact q))), fun q => ⟨pin, fun q1 => ⟨pin, ?_⟩, fun q1 => bad (fun z => q1 (j_lt.mpr (z i (by omega)).2))⟩⟩
      have p0 : 0 ≤ y i := Int32.not_lt.mp (fun z => q (by rw [← j_0]; exact j_lt.mpr z))
      have p1 : y i < nI n := j_lt.mp q1
      obtain ⟨v, ev, lv⟩ := nI_of_lt p0 p1 (by omega)
      have ez : rgz y i = v := by unfold rgz; rw [ev, nI_clamp (show v < 2 ^ 31 by omega)]
      have nx := ih (i + 1) (by omega) (fun j hj => by
        by_cases c : j = i
        · subst c; exact ⟨p0, p1⟩
        · exact r1 j (by omega))
      refine ⟨fun q3 => ?_, fun q3 => ?_⟩
      · have z3 : rgz y i = i := by
          have := j_inj.mp q3
          rw [ev] at this
          rw [ez]; exact (nI_eq (by omega) (by omega)).mp this
        rw [(rgl_st z3).1, (rgl_st z3).2] at nx
        refine w_X12_ringValue_63 ?_
        rw [nI_1]
        exact nx
      · have z3 : ¬ rgz y i = i := fun z => q3 (by rw [ev, ← ez, z])
        rw [(rgl_mv z3).1, (rgl_mv z3).2] at nx
        refine w_X12_ringValue_63 ?_
        rw [nI_1, nI_1]
        exact nx
  exact go n 0 (by omega) (fun j hj => absurd hj (Nat.not_lt_zero j))
theorem sp_ring {i nb j1 : Nat} {N : List Int32} (h0 : 1 < d) (hT : TL T L) (hg : EG T M nf nv fa se) (e : lst T M 309 i = .inr (j1, N)) (c41 : (T j1).1 = 41) (hi : i ≤ j1) (hj : j1 < L) (hN : Ntd nt nb N) : Tv (spx nt (cut nv se) 25 nb) ∧ ∀ (V : VH) (K : Int64 → VH → Prop), EM V p T M 0 L fa se → EA V p i → (∀ V', Fc V V' evS → EA V' p j1 → K (Int32.toInt64 (spx nt (cut nv se) 25 nb)) V') → vMJ E d M_X12_ringValue [sl 6 0] V K := by
  obtain ⟨vs, p1, eN⟩ := lst_n (Or.inr rfl) e
  subst eN
  obtain ⟨l1, _, l3⟩ := nms_b (nv := nv) hg.2.1 _ _ _ _ _ p1
  obtain ⟨t0, t1, t2⟩ := nvs_ok (se := se) hN l1 l3 hg.2.2.2.1
  rw [spx_25, t1]
  refine ⟨rgv_b _ _, fun V K hm ha hk => ?_⟩
  refine w_X12_ringValue_0 (by omega) (ev_row (y := fun j => ntv nt (cut nv se) (nb + 1 + j)) (m := 11) (by omega) hT hg p1 (by decide) (by rw [c41]; decide) hj (by omega) (fun j hj => (t2 j hj).2) hm ha (fun V1 f1 a1 r1 _ => ?_))
  exact ev_ring (by omega) l1 r1 (hk V1 f1 a1)
end
