/-! the class's ranges and plans -/
/-- group g has nv vars, var v with sz v values vl v k -/
def Sp (V : VH) (g nv : Nat) (sz : Nat → Nat) (vl : Nat → Nat → Int32) : Prop := PG (vL V) g ∧ vI V g 5 0 = nI nv ∧ nv ≤ 12 ∧ vI V g 5 1 = nI (Tp sz nv 0) ∧ Tp sz nv 0 ≤ 20000 ∧ ∀ v, v < nv → vI V g 6 v = nI (sz v) ∧ 1 ≤ sz v ∧ sz v ≤ 20 ∧ vI V g 8 v = nI (Tp sz nv (v + 1)) ∧ ∀ k, k < sz v → vI V g 7 (20 * v + k) = vl v k
section
variable {E : EE} {d : Nat} {V : VH} {g nv : Nat} {sz : Nat → Nat} {vl : Nat → Nat → Int32}
theorem Sp.pos (h : Sp V g nv sz vl) : ∀ v, v < nv → 0 < sz v := fun v hv => (h.2.2.2.2.2 v hv).2.1
theorem Sp.t (h : Sp V g nv sz vl) (v : Nat) : Tp sz nv v ≤ 20000 := Nat.le_trans (Nat.le_of_dvd (Tpos h.pos 0) (Tp_dvd' (Nat.zero_le v))) h.2.2.2.2.1
/-- rows 5 .. 8 are what it rests on -/
theorem Sp.of {V' : VH} (h : Sp V g nv sz vl) (hl : vL V' = vL V) (h5 : ∀ k, vI V' g 5 k = vI V g 5 k) (h6 : ∀ k, vI V' g 6 k = vI V g 6 k) (h7 : ∀ k, vI V' g 7 k = vI V g 7 k) (h8 : ∀ k, vI V' g 8 k = vI V g 8 k) : Sp V' g nv sz vl := by
  unfold Sp
  rw [hl]
  simp only [h5, h6, h7, h8]
  exact h
theorem Sp.fr {V' : VH} {S : Nat → Nat → Prop} (h : Sp V g nv sz vl) (k : Fr V V' S) (q5 : ¬ S g 5) (q6 : ¬ S g 6) (q7 : ¬ S g 7) (q8 : ¬ S g 8) : Sp V' g nv sz vl := h.of k.1 (fun j => by rw [k.i q5]) (fun j => by rw [k.i q6]) (fun j => by rw [k.i q7]) (fun j => by rw [k.i q8])
theorem Sp.fc {V' : VH} {S : Nat → Nat → Nat → Prop} (h : Sp V g nv sz vl) (k : Fc V V' S) (q : ∀ f i, f = 5 ∨ f = 6 ∨ f = 7 ∨ f = 8 → ¬ S g f i) : Sp V' g nv sz vl := h.of k.l (fun j => k.i (q 5 j (by omega))) (fun j => k.i (q 6 j (by omega))) (fun j => k.i (q 7 j (by omega))) (fun j => k.i (q 8 j (by omega)))
theorem c_isVar {v : Int32} {K : Int32 → VH → Prop} (h : Sp V g nv sz vl) (hn : (∀ u, u < nv → v ≠ nI u) → K 0 V) (hy : ∀ u, u < nv → v = nI u → K 1 V) : vMI E d M_X7_isVar [sl g 5, wi v] V K := by
  obtain ⟨hg, e, h12, _⟩ := h
  refine w_X7_isVar_0 hg ⟨fun q => hn (fun u hu z => ?_), fun q => ⟨fun q2 => hn (fun u hu z => ?_), fun q2 => ?_⟩⟩
  · rw [z] at q; exact nI_pos (by omega) q
  · rw [z, e] at q2; exact nI_ge hu (by omega) q2
  · obtain ⟨u, hu, rfl⟩ := nI_of q
    rw [e] at q2
    have : ¬ nv ≤ u := mt (nI_leI (by omega) hu).mpr q2
    exact hy u (by omega) rfl
theorem one_lt {x : Int32} {n : Nat} (e : x = nI n) (h : 1 ≤ n) (hn : n < 2 ^ 31) : ¬ x < 1 := by
  rw [e]; exact nI_nlt (b := 1) h hn
theorem c_placeOf {p v : Nat} {K : Int32 → VH → Prop} (h : Sp V g nv sz vl) (hv : v < nv) (hp : p < 2 ^ 31) (hk : K (nI (Dg sz nv v p)) V) : vMI E d M_X7_placeOf [sl g 5, wi (nI p), wi (nI v)] V K := by
  have t := h.t (v + 1)
  have tp := Tpos h.pos (v + 1)
  obtain ⟨hg, e, h12, _, _, hh⟩ := h
  obtain ⟨e6, s1, s2, e8, _⟩ := hh v hv
  have ev : Int32.toNatClampNeg (nI v) = v := nI_clamp (by omega)
  have vp : vp_in (nI v) 12 := vp_in_nI (by omega) (by decide)
  refine w_X7_placeOf_0 hg ?_
  rw [ev, e, e6, e8]
  refine ⟨fun q => absurd q (nI_pos (by omega)), fun _ => ⟨fun q => absurd q (nI_ge hv (by omega)), fun _ => ⟨vp, fun q => absurd q (one_lt rfl (by omega) (by omega)), fun _ => ⟨vp, fun _ => ⟨vp, nI_ne0 (by omega) (by omega), vp, nI_ne0 (by omega) (by omega), ?_⟩, fun q => absurd (nI_le (a := 1) (by omega) (by omega)) q⟩⟩⟩⟩
  rw [nI_div hp (by omega), nI_rem (Nat.lt_of_le_of_lt (Nat.div_le_self _ _) hp) (by omega)]
  exact hk
theorem c_valueOf {p v : Nat} {K : Int32 → VH → Prop} (h : Sp V g nv sz vl) (hv : v < nv) (hp : p < 2 ^ 31) (hk : K (vl v (Dg sz nv v p)) V) : vMI E d M_X7_valueOf [sl g 5, wi (nI p), wi (nI v)] V K := by
  have t := h.t (v + 1)
  have tp := Tpos h.pos (v + 1)
  have dl := Dg_lt h.pos (p := p) hv
  obtain ⟨hg, e, h12, _, _, hh⟩ := h
  obtain ⟨e6, s1, s2, e8, e7⟩ := hh v hv
  have ev : Int32.toNatClampNeg (nI v) = v := nI_clamp (by omega)
  have vp : vp_in (nI v) 12 := vp_in_nI (by omega) (by decide)
  refine w_X7_valueOf_0 hg ?_
  rw [ev, e, e6, e8, nI_div hp (by omega), nI_rem (Nat.lt_of_le_of_lt (Nat.div_le_self _ _) hp) (by omega)]
  have ei : nI v * 20 + nI (p / Tp sz nv (v + 1) % sz v) = nI (20 * v + Dg sz nv v p) := by
    rw [show (20 : Int32) = nI 20 from rfl, nI_mul, nI_add, Nat.mul_comm]; rfl
  rw [ei, nI_clamp (show 20 * v + Dg sz nv v p < 2 ^ 31 by omega), e7 _ dl]
  exact ⟨fun q => absurd q (nI_pos (by omega)), fun _ => ⟨fun q => absurd q (nI_ge hv (by omega)), fun _ => ⟨vp, fun q => absurd q (one_lt rfl (by omega) (by omega)), fun _ => ⟨vp, fun _ => ⟨vp, nI_ne0 (by omega) (by omega), vp, nI_ne0 (by omega) (by omega), vp_in_nI (by omega) (by decide), hk⟩, fun q => absurd (nI_le (a := 1) (by omega) (by omega)) q⟩⟩⟩⟩
theorem c_placeOfValue {v : Int32} {x : Int32} {K : Int32 → VH → Prop} (h : Sp V g nv sz vl) (hn : (∀ u, u < nv → v = nI u → ∀ k, k < sz u → vl u k ≠ x) → K (-1) V) (hy : ∀ u k, u < nv → v = nI u → k < sz u → vl u k = x → (∀ j, j < k → vl u j ≠ x) → K (nI k) V) : vMI E d M_X7_placeOfValue [sl g 5, wi v, wi x] V K := by
  obtain ⟨hg, e, h12, _, _, hh⟩ := h
  refine w_X7_placeOfValue_0 hg ⟨fun q => hn (fun u hu z => ?_), fun q => ⟨fun q2 => ?_, fun q2 => hn (fun u hu z => ?_)⟩⟩
  · rw [z] at q; exact absurd q (nI_pos (by omega))
  · obtain ⟨u, hu, rfl⟩ := nI_of q
    rw [e] at q2
    have hun : u < nv := (nI_ltI hu (by omega)).mp q2
    obtain ⟨e6, s1, s2, e8, e7⟩ := hh u hun
    have ev : Int32.toNatClampNeg (nI u) = u := nI_clamp (by omega)
    have go : ∀ (m i : Nat), i + m = sz u → (∀ j, j < i → vl u j ≠ x) → vwp E d M_X7_placeOfValue 16 [some (sl g 5), some (wi (nI u)), some (wi x), some (wi (nI i))] [] V (zi K) := by
      intro m
      induction m with
      | zero =>
        intro i ei hi
        refine w_X7_placeOfValue_16 hg ?_
        rw [ev, e6]
        exact ⟨vp_in_nI (by omega) (by decide), fun _ => hn (fun u' hu' z k hk => by rw [← (nI_eq (by omega) (by omega)).mp z] at hk ⊢; exact hi k (by omega)), fun q => absurd (nI_le (by omega) (by omega)) q⟩
      | succ m ih =>
        intro i ei hi
        have em : nI u * 20 + nI i = nI (20 * u + i) := by rw [show (20 : Int32) = nI 20 from rfl, nI_mul, nI_add, Nat.mul_comm]
        refine w_X7_placeOfValue_16 hg ?_
        rw [ev, e6, em, nI_clamp (show 20 * u + i < 2 ^ 31 by omega), e7 i (by omega), nI_1]
        refine ⟨vp_in_nI (by omega) (by decide), fun q => absurd q (nI_ge (by omega) (by omega)), fun _ => ⟨vp_in_nI (by omega) (by decide), fun q => ih (i + 1) (by omega) (fun j hj => ?_), fun q => hy u i hun rfl (by omega) q hi⟩⟩
        by_cases c : j = i
        · rw [c]; exact q
        · exact hi j (by omega)
    exact go (sz u) 0 (by omega) (fun j hj => absurd hj (Nat.not_lt_zero j))
  · rw [z, e] at q2; exact absurd (nI_lt hu (by omega)) q2
theorem c_moved {p v k : Nat} {K : Int32 → VH → Prop} (h0 : 0 < d) (h : Sp V g nv sz vl) (hv : v < nv) (hp : p < 2 ^ 31) (hk : K (nI (mvd sz nv v k p)) V) : vMI E d M_X7_moved [sl g 5, wi (nI p), wi (nI v), wi (nI k)] V K := by
  have h' := id h
  obtain ⟨hg, e, h12, _, _, hh⟩ := h
  obtain ⟨e6, s1, s2, e8, e7⟩ := hh v hv
  have ev : Int32.toNatClampNeg (nI v) = v := nI_clamp (by omega)
  refine w_X7_moved_0 hg h0 ⟨fun q => absurd q (nI_pos (by omega)), fun _ => ⟨fun _ => c_placeOf h' hv hp ⟨vp_in_nI (by omega) (by decide), ?_⟩, fun q => absurd (by rw [e]; exact nI_lt hv (by omega)) q⟩⟩
  have l1 := Dg_le (sz := sz) (p := p) hv
  have l2 := Nat.mod_le p (Tp sz nv v)
  rw [ev, e8, i32_mv, nI_mul, nI_mul, nI_sub (by omega), nI_add]
  exact hk
theorem c_lowest {p : Nat} {x : Int32} {K : Int32 → VH → Prop} (h0 : 0 < d) (h : Sp V g nv sz vl) (hp : p < Tp sz nv 0) (hk : K (nI (low sz nv (tst x) nv p)) V) : vMI E d M_X7_lowest [sl g 5, wi (nI p), wi x] V K := by
  have h' := id h
  obtain ⟨hg, e, h12, _, ht, hh⟩ := h
  have go : ∀ (m v : Nat), v + m = nv → vwp E d M_X7_lowest 5 [some (sl g 5), some (wi (nI p)), some (wi x), some (wi (nI (low sz nv (tst x) v p))), some (wi (nI v))] [] V (zi K) := by
    intro m
    induction m with
    | zero =>
      intro v ev
      have : v = nv := by omega
      subst this
      exact w_X7_lowest_5 hg h0 ⟨fun _ => hk, fun q => absurd (by rw [e]; exact nI_le (Nat.le_refl _) (by omega)) q⟩
    | succ m ih =>
      intro v ev
      have hv : v < nv := by omega
      obtain ⟨l1, l2⟩ := low_spec h'.pos (tst x) p hp v (by omega)
      have step := ih (v + 1) (by omega)
      refine w_X7_lowest_5 hg h0 ⟨fun q => absurd q (by rw [e]; exact nI_ge hv (by omega)), fun _ => ⟨fun q => ?_, fun q => ?_⟩⟩
      · have q := (tst_1 x (by omega)).mp q
        rw [low, if_pos q] at step
        exact w_X7_lowest_41 hg (by rw [nI_1]; exact step)
      · have q := (tst_0 x (by omega)).mp q
        rw [low, if_neg (by rw [q]; decide)] at step
        refine c_placeOf h' hv (by omega) ⟨vp_in_nI (by omega) (by decide), w_X7_lowest_41 hg ?_⟩
        have d1 := Dg_le (sz := sz) (p := low sz nv (tst x) v p) hv
        have d2 := Nat.mod_le (low sz nv (tst x) v p) (Tp sz nv v)
        rw [nI_clamp (show v < 2 ^ 31 by omega), (hh v hv).2.2.2.1, nI_mul, nI_sub (by omega), nI_1]
        exact step
  exact w_X7_lowest_0 hg (go nv 0 (by omega))
theorem c_following {p : Nat} {x : Int32} {K : Int32 → VH → Prop} (h0 : 0 < d) (h : Sp V g nv sz vl) (hp : p < Tp sz nv 0) (hn : fol sz nv (tst x) nv p = none → K (-1) V) (hy : ∀ q, fol sz nv (tst x) nv p = some q → K (nI q) V) : vMI E d M_X7_following [sl g 5, wi (nI p), wi x] V K := by
  have h' := id h
  obtain ⟨hg, e, h12, _, ht, hh⟩ := h
  have go : ∀ (v y : Nat), v ≤ nv → y < Tp sz nv 0 → (fol sz nv (tst x) v y = none → K (-1) V) → (∀ q, fol sz nv (tst x) v y = some q → K (nI q) V) → vwp E d M_X7_following 10 [some (sl g 5), some (wi (nI p)), some (wi x), some (wi (nI y)), some (wi (nI v - 1)), none] [] V (zi K) := by
    intro v
    induction v with
    | zero =>
      intro y _ _ k1 _
      exact w_X7_following_10 hg h0 ⟨fun _ => k1 (by rw [fol]), fun q => absurd (by decide) q⟩
    | succ v ih =>
      intro y hv hy k1 k2
      have hvn : v < nv := by omega
      rw [show nI (v + 1) - 1 = nI v from nI_pred v]
      obtain ⟨e6, s1, s2, e8, e7⟩ := hh v hvn
      have ev : Int32.toNatClampNeg (nI v) = v := nI_clamp (by omega)
      have vp : vp_in (nI v) 12 := vp_in_nI (by omega) (by decide)
      have em : nI v + (-1) = nI v - 1 := (Int32.sub_eq_add_neg _ _).symm
      have dl := Dg_lt h'.pos (p := y) hvn
      refine w_X7_following_10 hg h0 ⟨fun q => absurd q (nI_pos (by omega)), fun _ => ⟨fun q => ?_, fun q => ?_⟩⟩
      · have q := (tst_0 x (by omega)).mp q
        have nq : ¬ tst x v = true := by rw [q]; decide
        refine c_placeOf h' hvn (by omega) ?_
        rw [ev, e6, e8, nI_1]
        have d1 := Dg_le (sz := sz) (p := y) hvn
        have d2 := Nat.mod_le y (Tp sz nv v)
        refine ⟨vp, fun q2 => ⟨vp, w_X7_following_73 hg ?_⟩, fun q2 => ⟨vp, ?_⟩⟩
        · have l : sz v ≤ Dg sz nv v y + 1 := (nI_leI (by omega) (by omega)).mp q2
          have c2 : ¬ Dg sz nv v y + 1 < sz v := by omega
          rw [fol, if_neg nq, if_neg c2] at k1 k2
          rw [nI_mul, nI_sub (by omega), em]
          exact ih _ (by omega) (by omega) k1 k2
        · have c2 : Dg sz nv v y + 1 < sz v := by
            have := mt (nI_leI (a := sz v) (b := Dg sz nv v y + 1) (by omega) (by omega)).mpr q2
            omega
          rw [nI_add]
          exact k2 _ (by rw [fol, if_neg nq, if_pos c2])
      · have q := (tst_1 x (by omega)).mp q
        rw [fol, if_pos q] at k1 k2
        exact w_X7_following_73 hg (by rw [em]; exact ih y (by omega) hy k1 k2)
  refine w_X7_following_0 hg ?_
  rw [e]
  exact go nv p (Nat.le_refl _) hp hn hy
end
