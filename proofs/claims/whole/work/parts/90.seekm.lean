/-! the reference's search: what its steps call -/
section
variable {E : EE} {d : Nat} {V : VH} {p nv : Nat} {sz : Nat → Nat} {vl : Nat → Nat → Int32} {sc : Nat → Nat → Int64}
theorem c_drawM {n : Nat} {s : Int32} {K : Int32 → VH → Prop} (h1 : 1 ≤ n) (hn : n < 2 ^ 31) (h : vI V 6 0 76 = s) (hk : K (nI (dw s n)) (wrI V 6 0 76 (nxs s))) : vMI E d M_X12_draw [sl 6 0, wi (nI n)] V K := by
  refine w_X12_draw_0 (fun V1 e1 => ?_)
  have e : vI V1 6 0 76 = nxs s := by rw [e1, wrI_at, h]; rfl
  refine ⟨nI_ne0 (by omega) hn, ?_⟩
  rw [e, dw_eq _ hn]
  rw [h] at e1
  have e1' : V1 = wrI V 6 0 76 (nxs s) := e1
  rw [e1']; exact hk
theorem c_valueIn {q v : Nat} {K : Int32 → VH → Prop} (h0 : 0 < d) (s : Sq V p nv sz vl) (hv : v < nv) (hq : q < 2 ^ 31) (hk : K (vl v (Dg sz nv v q)) V) : vMI E d M_X12_valueIn [sl 6 0, wi (nI p), wi (nI q), wi (nI v)] V K := by
  have hp := s.1
  have n12 := s.2.2.1
  have sv := s.2.2.2.2.2 v hv
  have dl : Dg sz nv v q < sz v := Nat.mod_lt _ (by omega)
  have ek : (20 : Int32) * ((12 : Int32) * nI p + nI v) + nI (Dg sz nv v q) = nI (20 * (12 * p + v) + Dg sz nv v q) := by
    rw [show (20 : Int32) = nI 20 from rfl, show (12 : Int32) = nI 12 from rfl, nI_mul, nI_add, nI_mul, nI_add]
  refine w_X12_valueIn_0 h0 (c_place s hv hq ?_)
  rw [ek, nI_clamp (show 20 * (12 * p + v) + Dg sz nv v q < 2 ^ 31 by omega), sv.2.2.2.2 _ dl]
  exact ⟨vp_in_nI (by omega) (by decide), hk⟩
theorem c_placeOfM {v : Nat} {x : Int32} {K : Int32 → VH → Prop} (s : Sq V p nv sz vl) (hv : v < nv) (hk : K (cuI (fsb (fun k => decide (vl v k = x)) (sz v))) V) : vMI E d M_X12_placeOf [sl 6 0, wi (nI p), wi (nI v), wi x] V K := by
  have hp := s.1
  have n12 := s.2.2.1
  have sv := s.2.2.2.2.2 v hv
  have e12 : (12 : Int32) * nI p + nI v = nI (12 * p + v) := by rw [show (12 : Int32) = nI 12 from rfl, nI_mul, nI_add]
  have e20 : ∀ k, (20 : Int32) * nI (12 * p + v) + nI k = nI (20 * (12 * p + v) + k) := fun k => by rw [show (20 : Int32) = nI 20 from rfl, nI_mul, nI_add]
  have go : ∀ (m k : Nat), k + m = sz v → (∀ j, j < k → vl v j ≠ x) → vwp E d M_X12_placeOf 3 [some (sl 6 0), some (wi (nI p)), some (wi (nI v)), some (wi x), some (wi (nI k))] [] V (zi K) := by
    intro m
    induction m with
    | zero =>
      intro k em hl
      have ek : k = sz v := by omega
      refine w_X12_placeOf_3 ?_
      rw [e12, nI_clamp (show 12 * p + v < 2 ^ 31 by omega), sv.1]
      refine ⟨vp_in_nI (by omega) (by decide), fun _ => ?_, fun z => absurd (nI_le (show sz v ≤ k by omega) (by omega)) z⟩
      have : fsb (fun k => decide (vl v k = x)) (sz v) = none := fsb_none (fun j hj => decide_eq_false (hl j (by omega)))
      rw [this] at hk; exact hk
    | succ m ih =>
      intro k em hl
      have hk' : k < sz v := by omega
      refine w_X12_placeOf_3 ?_
      rw [e12, nI_clamp (show 12 * p + v < 2 ^ 31 by omega), sv.1, e20, nI_clamp (show 20 * (12 * p + v) + k < 2 ^ 31 by omega), sv.2.2.2.2 _ hk']
      refine ⟨vp_in_nI (by omega) (by decide), fun z => absurd z (nI_ge hk' (by omega)), fun _ => ⟨vp_in_nI (by omega) (by decide), fun z => ?_, fun z => ?_⟩⟩
      · rw [nI_1]
        refine ih (k + 1) (by omega) (fun j hj => ?_)
        by_cases c : j = k
        · rw [c]; exact z
        · exact hl j (by omega)
      · have : fsb (fun k => decide (vl v k = x)) (sz v) = some k := fsb_some (decide_eq_true z) (fun j hj => decide_eq_false (hl j hj)) hk'
        rw [this] at hk; exact hk
  exact w_X12_placeOf_0 (go (sz v) 0 (by omega) (fun j hj => absurd hj (Nat.not_lt_zero j)))
theorem c_withPlace {q v k : Nat} {K : Int32 → VH → Prop} (h0 : 0 < d) (s : Sq V p nv sz vl) (hv : v < nv) (hq : q < 2 ^ 31) (hk : K (nI (mvd sz nv v k q)) V) : vMI E d M_X12_withPlace [sl 6 0, wi (nI p), wi (nI q), wi (nI v), wi (nI k)] V K := by
  have hp := s.1
  have n12 := s.2.2.1
  have sv := s.2.2.2.2.2 v hv
  have e12 : (12 : Int32) * nI p + nI v = nI (12 * p + v) := by rw [show (12 : Int32) = nI 12 from rfl, nI_mul, nI_add]
  refine w_X12_withPlace_0 h0 (c_place s hv hq ?_)
  rw [e12, nI_clamp (show 12 * p + v < 2 ^ 31 by omega), sv.2.2.2.1]
  refine ⟨vp_in_nI (by omega) (by decide), ?_⟩
  have le : Dg sz nv v q * Tp sz nv (v + 1) ≤ q := Nat.le_trans (Nat.mul_le_mul_right _ (Nat.mod_le _ _)) (Nat.div_mul_le_self q _)
  have e : nI q + (nI k - nI (Dg sz nv v q)) * nI (Tp sz nv (v + 1)) = nI (mvd sz nv v k q) := by
    unfold mvd
    rw [← nI_add, ← nI_sub le, ← nI_mul, ← nI_mul, Int32.sub_mul, Int32.sub_eq_add_neg, Int32.sub_eq_add_neg, Int32.add_assoc]
    congr 1
    rw [Int32.add_comm]
  rw [e]; exact hk
theorem c_worthM {n q : Nat} {K : Int64 → VH → Prop} (t : Tq V n sc) (hq : q < n) (hk : K (wrt sc q) V) : vMJ E d M_X12_worth [sl 6 0, wi (nI q)] V K := by
  have hn := t.1
  have e2 : (20000 : Int32) + nI q = nI (20000 + q) := by rw [show (20000 : Int32) = nI 20000 from rfl, nI_add]
  have e4 : (40000 : Int32) + nI q = nI (40000 + q) := by rw [show (40000 : Int32) = nI 40000 from rfl, nI_add]
  refine w_X12_worth_0 ?_
  rw [e2, e4, nI_clamp (show q < 2 ^ 31 by omega), nI_clamp (show 20000 + q < 2 ^ 31 by omega), nI_clamp (show 40000 + q < 2 ^ 31 by omega)]
  have a0 := t.2 q hq 0 (by decide)
  have a1 := t.2 q hq 1 (by decide)
  have a2 := t.2 q hq 2 (by decide)
  rw [show 20000 * 0 + q = q from by omega] at a0
  rw [show 20000 * 1 + q = 20000 + q from by omega] at a1
  rw [show 20000 * 2 + q = 40000 + q from by omega] at a2
  rw [a0, a1, a2]
  exact ⟨vp_in_nI (by omega) (by decide), vp_in_nI (by omega) (by decide), vp_in_nI (by omega) (by decide), hk⟩
end
