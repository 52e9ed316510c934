/-! bits of an int; quotients -/
def tst (x : Int32) (v : Nat) : Bool := x.toBitVec.getLsbD v
theorem sh_bit (x : Int32) {v : Nat} (h : v < 32) : (x >>> (nI v &&& 31)).toBitVec = x.toBitVec.sshiftRight v := by
  have e : ∀ v, v < 32 → ((nI v &&& 31).toBitVec.smod 32).toNat = v := by decide +kernel
  show x.toBitVec.sshiftRight ((nI v &&& 31).toBitVec.smod 32).toNat = _
  rw [e v h]
theorem and1_iff (b : BitVec 32) : b &&& 1#32 = 0#32 ↔ b.getLsbD 0 = false := by
  rw [BitVec.and_one_eq_setWidth_ofBool_getLsbD]
  cases b.getLsbD 0
  · exact ⟨fun _ => rfl, fun _ => rfl⟩
  · exact ⟨fun h => absurd h (by decide), fun h => absurd h (by decide)⟩
theorem tst_0 (x : Int32) {v : Nat} (h : v < 32) : (x >>> (nI v &&& 31)) &&& 1 = 0 ↔ tst x v = false := by
  rw [← Int32.toBitVec_inj]
  show (x >>> (nI v &&& 31)).toBitVec &&& 1#32 = 0#32 ↔ _
  rw [sh_bit x h, and1_iff, BitVec.getLsbD_sshiftRight]
  rw [if_pos (show v + 0 < 32 by omega), Nat.add_zero]
  unfold tst
  simp
theorem tst_1 (x : Int32) {v : Nat} (h : v < 32) : ¬ (x >>> (nI v &&& 31)) &&& 1 = 0 ↔ tst x v = true := by
  rw [tst_0 x h]
  cases tst x v <;> decide
theorem tst_or (x y : Int32) (v : Nat) : tst (x ||| y) v = (tst x v || tst y v) := BitVec.getLsbD_or
theorem tst_and (x y : Int32) (v : Nat) : tst (x &&& y) v = (tst x v && tst y v) := BitVec.getLsbD_and
theorem tst_xor (x y : Int32) (v : Nat) : tst (x ^^^ y) v = (tst x v ^^ tst y v) := BitVec.getLsbD_xor
theorem tst_z (v : Nat) : tst 0 v = false := BitVec.getLsbD_zero
theorem tst_n1 {v : Nat} (h : v < 32) : tst (-1) v = true := by
  have : ∀ v, v < 32 → tst (-1) v = true := by decide +kernel
  exact this v h
theorem tst_one {v u : Nat} (hv : v < 32) (hu : u < 32) : tst ((1 : Int32) <<< (nI v &&& 31)) u = decide (u = v) := by
  have : ∀ v, v < 32 → ∀ u, u < 32 → tst ((1 : Int32) <<< (nI v &&& 31)) u = decide (u = v) := by decide +kernel
  exact this v hv u hu
theorem tst_big (x : Int32) {v : Nat} (h : 32 ≤ v) : tst x v = false := BitVec.getLsbD_of_ge _ _ h
theorem tst_ext {x y : Int32} (h : ∀ v, v < 32 → tst x v = tst y v) : x = y := Int32.toBitVec_inj.mp (BitVec.eq_of_getLsbD_eq h)
theorem tst_eq0 (x : Int32) : x = 0 ↔ ∀ v, v < 32 → tst x v = false := ⟨fun h v _ => by rw [h]; exact tst_z v, fun h => tst_ext (fun v hv => by rw [h v hv, tst_z])⟩
theorem and_eq0 (x y : Int32) : x &&& y = 0 ↔ ∀ v, v < 32 → tst x v = true → tst y v = false := by
  rw [tst_eq0]
  constructor
  · intro h v hv q
    have := h v hv
    rw [tst_and, q] at this
    simpa using this
  · intro h v hv
    rw [tst_and]
    cases q : tst x v
    · rfl
    · rw [h v hv q]; rfl
theorem nI_sub {a b : Nat} (h : b ≤ a) : nI a - nI b = nI (a - b) := by
  have : nI (a - b) + nI b = nI a := by rw [nI_add, Nat.sub_add_cancel h]
  rw [← this, Int32.add_sub_cancel]
theorem nI_div {a b : Nat} (ha : a < 2 ^ 31) (hb : b < 2 ^ 31) : nI a / nI b = nI (a / b) := by
  have hd : a / b < 2 ^ 31 := Nat.lt_of_le_of_lt (Nat.div_le_self a b) ha
  rw [← Int32.toInt_inj, Int32.toInt_div, nI_toInt ha, nI_toInt hb, nI_toInt hd, ← Int.ofNat_tdiv]
  generalize a / b = q at hd
  apply Int.bmod_eq_of_le <;> omega
theorem nI_rem {a b : Nat} (ha : a < 2 ^ 31) (hb : b < 2 ^ 31) : nI a - nI a / nI b * nI b = nI (a % b) := by
  rw [nI_div ha hb, nI_mul, nI_sub (Nat.div_mul_le_self a b)]
  congr 1
  have := Nat.div_add_mod a b
  rw [Nat.mul_comm] at this
  omega
theorem i32_mv (x a b c : Int32) : x + (a - b) * c = x - b * c + a * c := by
  rw [Int32.sub_mul, Int32.sub_eq_add_neg (a := a * c), Int32.sub_eq_add_neg (a := x), Int32.add_assoc, Int32.add_comm (a * c)]
