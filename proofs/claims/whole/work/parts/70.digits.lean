/-! plans as numbers: the digits of a plan -/
/-- how many plans the vars from v on have -/
def Tp (sz : Nat → Nat) (nv v : Nat) : Nat := (List.range' v (nv - v)).foldr (fun u a => sz u * a) 1
/-- the place of var v in plan p -/
def Dg (sz : Nat → Nat) (nv v p : Nat) : Nat := p / Tp sz nv (v + 1) % sz v
section
variable {sz : Nat → Nat} {nv : Nat}
theorem Tp_nv {v : Nat} (h : nv ≤ v) : Tp sz nv v = 1 := by
  unfold Tp
  rw [show nv - v = 0 from by omega, List.range'_zero, List.foldr_nil]
theorem Tp_lt {v : Nat} (h : v < nv) : Tp sz nv v = sz v * Tp sz nv (v + 1) := by
  unfold Tp
  rw [show nv - v = (nv - (v + 1)) + 1 from by omega, List.range'_succ, List.foldr_cons]
theorem Tp_pos (hs : ∀ v, v < nv → 0 < sz v) : ∀ (k v : Nat), nv - v ≤ k → 0 < Tp sz nv v := by
  intro k
  induction k with
  | zero => intro v h; rw [Tp_nv (by omega)]; exact Nat.one_pos
  | succ k ih =>
    intro v h
    by_cases c : v < nv
    · rw [Tp_lt c]; exact Nat.mul_pos (hs v c) (ih (v + 1) (by omega))
    · rw [Tp_nv (by omega)]; exact Nat.one_pos
theorem Tpos (hs : ∀ v, v < nv → 0 < sz v) (v : Nat) : 0 < Tp sz nv v := Tp_pos hs (nv - v) v (Nat.le_refl _)
theorem Dg_lt (hs : ∀ v, v < nv → 0 < sz v) {v p : Nat} (h : v < nv) : Dg sz nv v p < sz v := Nat.mod_lt _ (hs v h)
/-- the lower part of a plan, digit by digit -/
theorem mod_Tp {v p : Nat} (h : v < nv) : p % Tp sz nv v = p % Tp sz nv (v + 1) + Tp sz nv (v + 1) * Dg sz nv v p := by
  rw [Tp_lt h, Nat.mul_comm, Nat.mod_mul]
  rfl
theorem Dg_mod {v p : Nat} (h : v < nv) : Dg sz nv v p = p % Tp sz nv v / Tp sz nv (v + 1) := by
  rw [Tp_lt h, Nat.mul_comm, Nat.mod_mul_right_div_self]
  rfl
theorem Tp_dvd : ∀ (k v : Nat), Tp sz nv (v + k) ∣ Tp sz nv v := by
  intro k
  induction k with
  | zero => intro v; exact Nat.dvd_refl _
  | succ k ih =>
    intro v
    by_cases c : v < nv
    · rw [Tp_lt c]
      have := ih (v + 1)
      rw [show v + 1 + k = v + (k + 1) from by omega] at this
      exact Nat.dvd_trans this (Nat.dvd_mul_left _ _)
    · rw [Tp_nv (show nv ≤ v + (k + 1) by omega)]; exact Nat.one_dvd _
theorem Tp_dvd' {u v : Nat} (h : v ≤ u) : Tp sz nv u ∣ Tp sz nv v := by
  have := Tp_dvd (sz := sz) (nv := nv) (u - v) v
  rw [show v + (u - v) = u from by omega] at this
  exact this
/-- digits from v on are those of the lower part -/
theorem Dg_low {u v p q : Nat} (hu : u < nv) (h : v ≤ u) (e : p % Tp sz nv v = q % Tp sz nv v) : Dg sz nv u p = Dg sz nv u q := by
  rw [Dg_mod hu, Dg_mod hu]
  have d := Tp_dvd' (sz := sz) (nv := nv) h
  rw [← Nat.mod_mod_of_dvd p d, ← Nat.mod_mod_of_dvd q d, e]
/-- digits before v are those of the upper part -/
theorem Dg_high {u v p q : Nat} (h : u < v) (e : p / Tp sz nv v = q / Tp sz nv v) : Dg sz nv u p = Dg sz nv u q := by
  unfold Dg
  obtain ⟨c, hc⟩ := Tp_dvd' (sz := sz) (nv := nv) (u := v) (v := u + 1) h
  rw [hc, ← Nat.div_div_eq_div_mul, ← Nat.div_div_eq_div_mul, e]
theorem Dg_ext : ∀ (k v p q : Nat), nv - v ≤ k → (∀ u, v ≤ u → u < nv → Dg sz nv u p = Dg sz nv u q) → p % Tp sz nv v = q % Tp sz nv v := by
  intro k
  induction k with
  | zero => intro v p q h _; rw [Tp_nv (by omega), Nat.mod_one, Nat.mod_one]
  | succ k ih =>
    intro v p q h hd
    by_cases c : v < nv
    · rw [mod_Tp c, mod_Tp c, ih (v + 1) p q (by omega) (fun u h1 h2 => hd u (by omega) h2), hd v (Nat.le_refl _) c]
    · rw [Tp_nv (by omega), Nat.mod_one, Nat.mod_one]
theorem Dg_inj {p q : Nat} (hp : p < Tp sz nv 0) (hq : q < Tp sz nv 0) (h : ∀ u, u < nv → Dg sz nv u p = Dg sz nv u q) : p = q := by
  have := Dg_ext (sz := sz) nv 0 p q (by omega) (fun u _ h2 => h u h2)
  rw [Nat.mod_eq_of_lt hp, Nat.mod_eq_of_lt hq] at this
  exact this
/-- the first digit that differs decides -/
theorem Dg_lex (hs : ∀ v, v < nv → 0 < sz v) : ∀ (k v p q : Nat), nv - v ≤ k → p % Tp sz nv v < q % Tp sz nv v → ∃ w, v ≤ w ∧ w < nv ∧ (∀ u, v ≤ u → u < w → Dg sz nv u p = Dg sz nv u q) ∧ Dg sz nv w p < Dg sz nv w q := by
  intro k
  induction k with
  | zero => intro v p q h hl; rw [Tp_nv (by omega), Nat.mod_one, Nat.mod_one] at hl; omega
  | succ k ih =>
    intro v p q h hl
    by_cases c : v < nv
    · rw [mod_Tp c, mod_Tp c] at hl
      have t := Tpos hs (v + 1)
      have m1 := Nat.mod_lt p t
      have m2 := Nat.mod_lt q t
      rcases Nat.lt_trichotomy (Dg sz nv v p) (Dg sz nv v q) with l | l | l
      · exact ⟨v, Nat.le_refl _, c, fun u h1 h2 => by omega, l⟩
      · rw [l] at hl
        obtain ⟨w, w1, w2, w3, w4⟩ := ih (v + 1) p q (by omega) (by omega)
        refine ⟨w, by omega, w2, fun u h1 h2 => ?_, w4⟩
        by_cases e : u = v
        · rw [e]; exact l
        · exact w3 u (by omega) h2
      · have : Tp sz nv (v + 1) * (Dg sz nv v q + 1) ≤ Tp sz nv (v + 1) * Dg sz nv v p := Nat.mul_le_mul_left _ l
        rw [Nat.mul_add] at this
        omega
    · rw [Tp_nv (by omega), Nat.mod_one, Nat.mod_one] at hl; omega
theorem lex_lt (hs : ∀ v, v < nv → 0 < sz v) {p q w : Nat} (hp : p < Tp sz nv 0) (hq : q < Tp sz nv 0) (hw : w < nv) (h1 : ∀ u, u < w → Dg sz nv u p = Dg sz nv u q) (h2 : Dg sz nv w p < Dg sz nv w q) : p < q := by
  rcases Nat.lt_trichotomy p q with l | l | l
  · exact l
  · rw [l] at h2; omega
  · have l : q % Tp sz nv 0 < p % Tp sz nv 0 := by rw [Nat.mod_eq_of_lt hp, Nat.mod_eq_of_lt hq]; exact l
    obtain ⟨w', w1, w2, w3, w4⟩ := Dg_lex hs nv 0 q p (by omega) l
    rcases Nat.lt_trichotomy w w' with y | y | y
    · have := w3 w (by omega) y; omega
    · subst y; omega
    · have := h1 w' y; omega
theorem lt_lex (hs : ∀ v, v < nv → 0 < sz v) {p q : Nat} (hp : p < Tp sz nv 0) (hq : q < Tp sz nv 0) (h : p < q) : ∃ w, w < nv ∧ (∀ u, u < w → Dg sz nv u p = Dg sz nv u q) ∧ Dg sz nv w p < Dg sz nv w q := by
  have l : p % Tp sz nv 0 < q % Tp sz nv 0 := by rw [Nat.mod_eq_of_lt hp, Nat.mod_eq_of_lt hq]; exact h
  obtain ⟨w, w1, w2, w3, w4⟩ := Dg_lex hs nv 0 p q (by omega) l
  exact ⟨w, w2, fun u hu => w3 u (Nat.zero_le _) hu, w4⟩
/-- plan p with place k for var v -/
def mvd (sz : Nat → Nat) (nv v k p : Nat) : Nat := p - Dg sz nv v p * Tp sz nv (v + 1) + k * Tp sz nv (v + 1)
theorem Dg_le {v p : Nat} (h : v < nv) : Dg sz nv v p * Tp sz nv (v + 1) ≤ p % Tp sz nv v := by
  rw [mod_Tp h, Nat.mul_comm]; exact Nat.le_add_left _ _
theorem mvd_eq (hs : ∀ v, v < nv → 0 < sz v) {v k p : Nat} (h : v < nv) : mvd sz nv v k p = Tp sz nv v * (p / Tp sz nv v) + (p % Tp sz nv (v + 1) + Tp sz nv (v + 1) * k) := by
  have e1 := Nat.div_add_mod p (Tp sz nv v)
  have e2 := mod_Tp (sz := sz) (p := p) h
  have e3 := Nat.mul_comm (Dg sz nv v p) (Tp sz nv (v + 1))
  have e4 := Nat.mul_comm k (Tp sz nv (v + 1))
  unfold mvd
  omega
theorem mvd_div (hs : ∀ v, v < nv → 0 < sz v) {v k p : Nat} (h : v < nv) (hk : k < sz v) : mvd sz nv v k p / Tp sz nv v = p / Tp sz nv v ∧ mvd sz nv v k p % Tp sz nv v = p % Tp sz nv (v + 1) + Tp sz nv (v + 1) * k := by
  have t := Tpos hs (v + 1)
  have m1 := Nat.mod_lt p t
  have lt : p % Tp sz nv (v + 1) + Tp sz nv (v + 1) * k < Tp sz nv v := by
    rw [Tp_lt h]
    have : Tp sz nv (v + 1) * (k + 1) ≤ Tp sz nv (v + 1) * sz v := Nat.mul_le_mul_left _ hk
    rw [Nat.mul_add] at this
    rw [Nat.mul_comm (sz v)]
    omega
  rw [mvd_eq hs h]
  constructor
  · rw [Nat.mul_add_div (Tpos hs v), Nat.div_eq_of_lt lt, Nat.add_zero]
  · rw [Nat.mul_add_mod, Nat.mod_eq_of_lt lt]
theorem mvd_lt (hs : ∀ v, v < nv → 0 < sz v) {v k p : Nat} (h : v < nv) (hk : k < sz v) (hp : p < Tp sz nv 0) : mvd sz nv v k p < Tp sz nv 0 := by
  obtain ⟨c, hc⟩ := Tp_dvd' (sz := sz) (nv := nv) (u := v) (v := 0) (Nat.zero_le _)
  have a := (mvd_div hs (p := p) h hk).1
  have t := Tpos hs v
  have b : p / Tp sz nv v < c := Nat.div_lt_of_lt_mul (by rw [← hc]; exact hp)
  rw [hc]
  refine (Nat.div_lt_iff_lt_mul t).mp ?_ |> fun q => by rw [Nat.mul_comm] at q; exact q
  rw [a]; exact b
theorem mvd_at (hs : ∀ v, v < nv → 0 < sz v) {v k p : Nat} (h : v < nv) (hk : k < sz v) : Dg sz nv v (mvd sz nv v k p) = k := by
  have t := Tpos hs (v + 1)
  rw [Dg_mod h, (mvd_div hs h hk).2, Nat.add_mul_div_left _ _ t, Nat.div_eq_of_lt (Nat.mod_lt p t), Nat.zero_add]
theorem mvd_ne (hs : ∀ v, v < nv → 0 < sz v) {v k p u : Nat} (h : v < nv) (hk : k < sz v) (hu : u < nv) (hne : u ≠ v) : Dg sz nv u (mvd sz nv v k p) = Dg sz nv u p := by
  by_cases c : u < v
  · exact Dg_high c (mvd_div hs h hk).1
  · refine Dg_low hu (v := v + 1) (by omega) ?_
    have d := Tp_dvd' (sz := sz) (nv := nv) (u := v + 1) (v := v) (by omega)
    rw [← Nat.mod_mod_of_dvd (mvd sz nv v k p) d, (mvd_div hs h hk).2, Nat.add_mul_mod_self_left, Nat.mod_mod]
/-- the next plan that agrees in the vars of fx, of those before v; the digits from v on are dealt with -/
def fol (sz : Nat → Nat) (nv : Nat) (fx : Nat → Bool) : Nat → Nat → Option Nat
  | 0, _ => none
  | v + 1, p => if fx v = true then fol sz nv fx v p else if Dg sz nv v p + 1 < sz v then some (p + Tp sz nv (v + 1)) else fol sz nv fx v (p - Dg sz nv v p * Tp sz nv (v + 1))
theorem mvd_0 {v p : Nat} : mvd sz nv v 0 p = p - Dg sz nv v p * Tp sz nv (v + 1) := by unfold mvd; rw [Nat.zero_mul, Nat.add_zero]
theorem mvd_1 {v p : Nat} (h : v < nv) : mvd sz nv v (Dg sz nv v p + 1) p = p + Tp sz nv (v + 1) := by
  have := Dg_le (sz := sz) (p := p) h
  have := Nat.mod_le p (Tp sz nv v)
  unfold mvd
  rw [Nat.add_mul, Nat.one_mul]
  omega
theorem fol_spec (hs : ∀ v, v < nv → 0 < sz v) (fx : Nat → Bool) (x : Nat) (hx : x < Tp sz nv 0) : ∀ (v y : Nat), v ≤ nv → y < Tp sz nv 0 → (∀ u, u < v → Dg sz nv u y = Dg sz nv u x) → (∀ u, v ≤ u → u < nv → if fx u = true then Dg sz nv u y = Dg sz nv u x else Dg sz nv u y = 0 ∧ Dg sz nv u x + 1 = sz u) →
    (∀ q, fol sz nv fx v y = some q → q < Tp sz nv 0 ∧ x < q ∧ (∀ u, u < nv → fx u = true → Dg sz nv u q = Dg sz nv u x) ∧ ∀ r, r < Tp sz nv 0 → x < r → (∀ u, u < nv → fx u = true → Dg sz nv u r = Dg sz nv u x) → q ≤ r) ∧
    (fol sz nv fx v y = none → ∀ r, r < Tp sz nv 0 → x < r → ¬ ∀ u, u < nv → fx u = true → Dg sz nv u r = Dg sz nv u x) := by
  intro v
  induction v with
  | zero =>
    intro y _ hy _ h2
    refine ⟨fun q e => ?_, fun _ r hr hxr ha => ?_⟩
    · rw [fol] at e; exact absurd e (by simp)
    · obtain ⟨w, w1, w2, w3⟩ := lt_lex hs hx hr hxr
      have z := h2 w (Nat.zero_le _) w1
      by_cases c : fx w = true
      · have := ha w w1 c; omega
      · rw [if_neg c] at z
        have := Dg_lt hs (p := r) w1
        omega
  | succ v ih =>
    intro y hv hy h1 h2
    have hvn : v < nv := by omega
    by_cases c : fx v = true
    · have e : fol sz nv fx (v + 1) y = fol sz nv fx v y := by rw [fol, if_pos c]
      rw [e]
      refine ih y (by omega) hy (fun u hu => h1 u (by omega)) (fun u a b => ?_)
      by_cases c' : u = v
      · subst c'; rw [if_pos c]; exact h1 u (by omega)
      · exact h2 u (by omega) b
    · by_cases c2 : Dg sz nv v y + 1 < sz v
      · have e : fol sz nv fx (v + 1) y = some (y + Tp sz nv (v + 1)) := by rw [fol, if_neg c, if_pos c2]
        rw [e]
        refine ⟨fun q eq => ?_, fun n => absurd n (by simp)⟩
        have eq : y + Tp sz nv (v + 1) = q := Option.some.inj eq
        rw [← mvd_1 hvn] at eq
        have q0 := mvd_lt hs (p := y) hvn c2 hy
        have qv := mvd_at hs (p := y) hvn c2
        have qu : ∀ u, u < nv → u ≠ v → Dg sz nv u (mvd sz nv v (Dg sz nv v y + 1) y) = Dg sz nv u y := fun u a b => mvd_ne hs hvn c2 a b
        rw [eq] at q0 qv qu
        have yv := h1 v (by omega)
        have xq : x < q := lex_lt hs hx q0 hvn (fun u hu => by rw [qu u (by omega) (by omega), h1 u (by omega)]) (by rw [qv, yv]; omega)
        refine ⟨q0, xq, fun u a b => ?_, fun r hr hxr ha => ?_⟩
        · have : u ≠ v := fun z => c (by rw [← z]; exact b)
          rw [qu u a this]
          by_cases l : u < v
          · exact h1 u (by omega)
          · have := h2 u (by omega) a; rw [if_pos b] at this; exact this
        · obtain ⟨w, w1, w2, w3⟩ := lt_lex hs hx hr hxr
          have wfx : ¬ fx w = true := fun z => by have := ha w w1 z; omega
          have wv : w ≤ v := by
            rcases Nat.lt_or_ge v w with l | l
            · have := h2 w (by omega) w1
              rw [if_neg wfx] at this
              have := Dg_lt hs (p := r) w1
              omega
            · exact l
          rcases Nat.lt_or_ge r q with l | l
          · exfalso
            obtain ⟨z, z1, z2, z3⟩ := lt_lex hs hr q0 l
            rcases Nat.lt_trichotomy w v with y1 | y1 | y1
            · rcases Nat.lt_trichotomy z w with x1 | x1 | x1
              · have a1 := w2 z x1
                have a2 := qu z z1 (by omega)
                have a3 := h1 z (by omega)
                omega
              · subst x1
                have a2 := qu z z1 (by omega)
                have a3 := h1 z (by omega)
                omega
              · have a1 := z2 w x1
                have a2 := qu w w1 (by omega)
                have a3 := h1 w (by omega)
                omega
            · subst y1
              rcases Nat.lt_trichotomy z w with x1 | x1 | x1
              · have a1 := w2 z x1
                have a2 := qu z z1 (by omega)
                have a3 := h1 z (by omega)
                omega
              · subst x1; omega
              · have a2 := qu z z1 (by omega)
                have a3 := h2 z (by omega) z1
                by_cases fz : fx z = true
                · rw [if_pos fz] at a3
                  have := ha z z1 fz
                  omega
                · rw [if_neg fz] at a3
                  omega
            · omega
          · exact l
      · have e : fol sz nv fx (v + 1) y = fol sz nv fx v (y - Dg sz nv v y * Tp sz nv (v + 1)) := by rw [fol, if_neg c, if_neg c2]
        rw [e, ← mvd_0]
        have hs0 := hs v hvn
        have dv := Dg_lt hs (p := y) hvn
        have yv := h1 v (by omega)
        refine ih (mvd sz nv v 0 y) (by omega) (mvd_lt hs hvn hs0 hy) (fun u hu => ?_) (fun u a b => ?_)
        · rw [mvd_ne hs hvn hs0 (by omega) (by omega)]; exact h1 u (by omega)
        · by_cases c' : u = v
          · subst c'; rw [if_neg c]
            exact ⟨mvd_at hs hvn hs0, by omega⟩
          · rw [mvd_ne hs hvn hs0 b c']
            exact h2 u (by omega) b
/-- the first plan that agrees with p in the vars of fx: vars up to v are dealt with -/
def low (sz : Nat → Nat) (nv : Nat) (fx : Nat → Bool) : Nat → Nat → Nat
  | 0, p => p
  | v + 1, p => if fx v = true then low sz nv fx v p else low sz nv fx v p - Dg sz nv v (low sz nv fx v p) * Tp sz nv (v + 1)
theorem low_spec (hs : ∀ v, v < nv → 0 < sz v) (fx : Nat → Bool) (x : Nat) (hx : x < Tp sz nv 0) : ∀ v, v ≤ nv → low sz nv fx v x < Tp sz nv 0 ∧ ∀ u, u < nv → Dg sz nv u (low sz nv fx v x) = if u < v ∧ ¬ fx u = true then 0 else Dg sz nv u x := by
  intro v
  induction v with
  | zero => intro _; exact ⟨hx, fun u _ => by rw [if_neg (fun z => by omega)]; rfl⟩
  | succ v ih =>
    intro hv
    obtain ⟨h1, h2⟩ := ih (by omega)
    have hvn : v < nv := by omega
    by_cases c : fx v = true
    · have e : low sz nv fx (v + 1) x = low sz nv fx v x := by rw [low, if_pos c]
      rw [e]
      refine ⟨h1, fun u hu => ?_⟩
      rw [h2 u hu]
      by_cases c' : u = v
      · subst c'; rw [if_neg (fun z => by omega), if_neg (fun z => z.2 c)]
      · by_cases c3 : u < v ∧ ¬ fx u = true
        · rw [if_pos c3, if_pos ⟨by omega, c3.2⟩]
        · rw [if_neg c3, if_neg (fun z => c3 ⟨by omega, z.2⟩)]
    · have e : low sz nv fx (v + 1) x = mvd sz nv v 0 (low sz nv fx v x) := by rw [low, if_neg c, mvd_0]
      rw [e]
      refine ⟨mvd_lt hs hvn (hs v hvn) h1, fun u hu => ?_⟩
      by_cases c' : u = v
      · subst c'; rw [mvd_at hs hvn (hs u hvn), if_pos ⟨by omega, c⟩]
      · rw [mvd_ne hs hvn (hs v hvn) hu c', h2 u hu]
        by_cases c3 : u < v ∧ ¬ fx u = true
        · rw [if_pos c3, if_pos ⟨by omega, c3.2⟩]
        · rw [if_neg c3, if_neg (fun z => c3 ⟨by omega, z.2⟩)]
end
