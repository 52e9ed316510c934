/-! rows of the store: the bytes -/
def bofL (w : Int64) (k : Nat) : List Int32 := (List.range k).map (fun j => bof w (k - 1 - j))
theorem bofL_len {w : Int64} {k : Nat} : (bofL w k).length = k := by unfold bofL; rw [List.length_map, List.length_range]
theorem map_at {α : Type} {d0 : α} {n j : Nat} {f : Nat → α} (h : j < n) : ((List.range n).map f).getD j d0 = f j := by
  rw [List.getD_eq_getElem?_getD, List.getElem?_map, List.getElem?_range h]
  rfl
theorem bofL_at {w : Int64} {k j : Nat} (h : j < k) : (bofL w k).getD j 0 = bof w (k - 1 - j) := map_at h
theorem gD_l {L M : List Int32} {j : Nat} (h : j < L.length) : (L ++ M).getD j 0 = L.getD j 0 := by
  rw [List.getD_eq_getElem?_getD, List.getD_eq_getElem?_getD, List.getElem?_append_left h]
theorem gD_r {L M : List Int32} {j : Nat} : (L ++ M).getD (L.length + j) 0 = M.getD j 0 := by
  rw [List.getD_eq_getElem?_getD, List.getD_eq_getElem?_getD, List.getElem?_append_right (Nat.le_add_right _ _), Nat.add_sub_cancel_left]
theorem ap_at {f : Nat → Int32} {s : Nat} {L M : List Int32} (h1 : ∀ j, j < L.length → f (s + j) = L.getD j 0) (h2 : ∀ i, i < M.length → f (s + L.length + i) = M.getD i 0) : ∀ j, j < (L ++ M).length → f (s + j) = (L ++ M).getD j 0 := by
  intro j hj
  rw [List.length_append] at hj
  by_cases c : j < L.length
  · rw [gD_l c]; exact h1 j c
  · have e : j = L.length + (j - L.length) := by omega
    have := h2 (j - L.length) (by omega)
    rw [e, gD_r, ← this]
    congr 1; omega
/-- bytes of facts below f -/
def faL (fa : Nat → Int32) : Nat → List Int32
  | 0 => []
  | f + 1 => faL fa f ++ bofL (Int32.toInt64 (fa f)) 4
theorem faL_s {fa : Nat → Int32} {f : Nat} : faL fa (f + 1) = faL fa f ++ bofL (Int32.toInt64 (fa f)) 4 := by rw [faL]
theorem faL_len {fa : Nat → Int32} : ∀ f, (faL fa f).length = 4 * f := by
  intro f
  induction f with
  | zero => rfl
  | succ f ih => rw [faL_s, List.length_append, ih, bofL_len]; omega
theorem faL_at {fa : Nat → Int32} {k j : Nat} (hj : j < 4) : ∀ f, k < f → (faL fa f).getD (4 * k + j) 0 = bof (Int32.toInt64 (fa k)) (3 - j) := by
  intro f
  induction f with
  | zero => intro h; exact absurd h (Nat.not_lt_zero k)
  | succ f ih =>
    intro h
    rw [faL_s]
    by_cases c : k = f
    · subst c
      have := gD_r (L := faL fa k) (M := bofL (Int32.toInt64 (fa k)) 4) (j := j)
      rw [faL_len] at this
      rw [this, bofL_at hj]
    · rw [gD_l (by rw [faL_len]; omega)]
      exact ih (by omega)
/-- bytes of vars below v: value, costs -/
def vaL (vv cs : Nat → Int32) : Nat → List Int32
  | 0 => []
  | v + 1 => vaL vv cs v ++ (i2b (i2b (vv v)) :: bofL (Int32.toInt64 (cs v)) 2)
theorem vaL_s {vv cs : Nat → Int32} {v : Nat} : vaL vv cs (v + 1) = vaL vv cs v ++ (i2b (i2b (vv v)) :: bofL (Int32.toInt64 (cs v)) 2) := by rw [vaL]
theorem vaL_len {vv cs : Nat → Int32} : ∀ v, (vaL vv cs v).length = 3 * v := by
  intro v
  induction v with
  | zero => rfl
  | succ v ih => rw [vaL_s, List.length_append, ih, List.length_cons, bofL_len]; omega
theorem vaL_at {vv cs : Nat → Int32} {k : Nat} : ∀ v, k < v → (vaL vv cs v).getD (3 * k) 0 = i2b (i2b (vv k)) ∧ ∀ j, j < 2 → (vaL vv cs v).getD (3 * k + 1 + j) 0 = bof (Int32.toInt64 (cs k)) (1 - j) := by
  intro v
  induction v with
  | zero => intro h; exact absurd h (Nat.not_lt_zero k)
  | succ v ih =>
    intro h
    rw [vaL_s]
    by_cases c : k = v
    · subst c
      have r := fun j => gD_r (L := vaL vv cs k) (M := i2b (i2b (vv k)) :: bofL (Int32.toInt64 (cs k)) 2) (j := j)
      rw [vaL_len] at r
      refine ⟨r 0, fun j hj => ?_⟩
      rw [show 3 * k + 1 + j = 3 * k + (j + 1) by omega, r (j + 1)]
      show (bofL (Int32.toInt64 (cs k)) 2).getD j 0 = _
      rw [bofL_at hj]
    · obtain ⟨i1, i2⟩ := ih (by omega)
      refine ⟨?_, fun j hj => ?_⟩
      · rw [gD_l (by rw [vaL_len]; omega)]; exact i1
      · rw [gD_l (by rw [vaL_len]; omega)]; exact i2 j hj
/-- a byte of a long -/
theorem bof_bt {w : Int64} {k : Nat} (hk : k < 8) : (bof w k &&& 255).toBitVec.toNat = w.toBitVec.toNat / 256 ^ k % 256 := by
  have e1 : bof w k &&& 255 = i2b (Int64.toInt32 (lushr w (8 * nI k))) &&& 255 := by
    have := bt_i2b (fun _ => i2b (Int64.toInt32 (lushr w (8 * nI k)))) 0
    unfold bt at this
    exact Int32.toBitVec_inj.mp (BitVec.eq_of_toNat_eq this)
  have e2 : (i2b (Int64.toInt32 (lushr w (8 * nI k))) &&& 255).toBitVec.toNat = (Int64.toInt32 (lushr w (8 * nI k)) &&& 255).toBitVec.toNat := bt_i2b (fun _ => Int64.toInt32 (lushr w (8 * nI k))) 0
  rw [e1, e2]
  have ew : w = nL w.toBitVec.toNat := by
    refine Int64.toBitVec_inj.mp ?_
    show w.toBitVec = BitVec.ofNat 64 w.toBitVec.toNat
    simp
  have e3 : lushr w (8 * nI k) = nL (w.toBitVec.toNat / 256 ^ k) := by
    have := lushr_nL (a := w.toBitVec.toNat) (m := k) w.toBitVec.isLt hk
    rw [← ew] at this
    rw [show (8 : Int32) = nI 8 from rfl, nI_mul]
    exact this
  rw [e3]
  generalize w.toBitVec.toNat / 256 ^ k = y
  show (((BitVec.ofNat 64 y).signExtend 32) &&& 255#32).toNat = y % 256
  rw [BitVec.toNat_and, BitVec.signExtend_eq_setWidth_of_le _ (by decide), BitVec.toNat_setWidth, BitVec.toNat_ofNat, Nat.mod_mod_of_dvd _ (by decide : 2 ^ 32 ∣ 2 ^ 64)]
  have : (255#32).toNat = 2 ^ 8 - 1 := by decide
  rw [this, Nat.and_two_pow_sub_one_eq_mod]
  omega
theorem i2b_eq {a b : Int32} (h : (a &&& 255).toBitVec.toNat = (b &&& 255).toBitVec.toNat) : i2b a = i2b b := by
  have e : a &&& 255 = b &&& 255 := Int32.toBitVec_inj.mp (BitVec.eq_of_toNat_eq h)
  have k : ∀ c : Int32, i2b (c &&& 255) = i2b c := fun c => by
    have := i2b_low c 0
    rw [Int32.xor_zero, Int32.xor_zero] at this
    exact this
  rw [← k a, e, k b]
/-- bytes of a number, the highest first -/
theorem pkb_num {f : Nat → Nat} {W : Nat} : ∀ n m, (∀ j, j < n → f j = W / 256 ^ (m + (n - 1 - j)) % 256) → pkb f n = W / 256 ^ m % 256 ^ n := by
  intro n
  induction n with
  | zero => intro m _; rw [Nat.pow_zero, Nat.mod_one]; rfl
  | succ n ih =>
    intro m h
    have i := ih (m + 1) (fun j hj => by rw [h j (by omega), show m + (n + 1 - 1 - j) = m + 1 + (n - 1 - j) by omega])
    have l := h n (Nat.lt_succ_self n)
    rw [show m + (n + 1 - 1 - n) = m by omega] at l
    show pkb f n * 256 + f n = _
    rw [i, l, Nat.pow_succ 256 m, ← Nat.div_div_eq_div_mul, Nat.pow_succ 256 n]
    generalize W / 256 ^ m = Y
    rw [Nat.mul_comm (256 ^ n) 256, Nat.mod_mul]
    omega
/-- low bytes of an int -/
theorem ext_low (x : Int32) : (Int32.toInt64 x).toBitVec.toNat % 256 ^ 4 = x.toBitVec.toNat := by
  show (x.toBitVec.signExtend 64).toNat % 2 ^ 32 = x.toBitVec.toNat
  have : (x.toBitVec.signExtend 64).setWidth 32 = x.toBitVec := by
    apply BitVec.eq_of_getLsbD_eq
    intro k hk
    rw [BitVec.getLsbD_setWidth, BitVec.getLsbD_signExtend]
    simp [hk]
    omega
  have e := congrArg BitVec.toNat this
  rw [BitVec.toNat_setWidth] at e
  exact e
