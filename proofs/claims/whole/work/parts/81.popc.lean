/-! how many bits of an int are set -/
def cnt (P : Nat → Bool) : Nat → Nat
  | 0 => 0
  | n + 1 => cnt P n + (if P n = true then 1 else 0)
theorem cnt_ext {P Q : Nat → Bool} : ∀ {n : Nat}, (∀ i, i < n → P i = Q i) → cnt P n = cnt Q n
  | 0, _ => rfl
  | n + 1, h => by unfold cnt; rw [cnt_ext (fun i hi => h i (by omega)), h n (by omega)]
theorem cnt_le (P : Nat → Bool) : ∀ n, cnt P n ≤ n
  | 0 => Nat.le_refl 0
  | n + 1 => by
    have := cnt_le P n
    unfold cnt
    split <;> omega
theorem cnt_front (P : Nat → Bool) : ∀ n, cnt P (n + 1) = (if P 0 = true then 1 else 0) + cnt (fun i => P (i + 1)) n
  | 0 => Nat.add_comm 0 _
  | n + 1 => by
    show cnt P (n + 1) + (if P (n + 1) = true then 1 else 0) = _ + (cnt (fun i => P (i + 1)) n + (if P (n + 1) = true then 1 else 0))
    rw [cnt_front P n, Nat.add_assoc]
theorem cnt_none {P : Nat → Bool} : ∀ {n : Nat}, (∀ i, i < n → P i = false) → cnt P n = 0
  | 0, _ => rfl
  | n + 1, h => by unfold cnt; rw [cnt_none (fun i hi => h i (by omega)), h n (by omega)]; rfl
/-- one more -/
theorem cnt_set {P Q : Nat → Bool} {k : Nat} (hp : P k = false) (hq : Q k = true) (h : ∀ i, i ≠ k → Q i = P i) : ∀ n, k < n → cnt Q n = cnt P n + 1
  | 0, z => absurd z (Nat.not_lt_zero k)
  | n + 1, z => by
    unfold cnt
    by_cases c : n = k
    · subst c
      rw [cnt_ext (P := Q) (Q := P) (fun i hi => h i (by omega)), hp, hq]; rfl
    · rw [cnt_set hp hq h n (by omega), h n c]; omega
theorem cnt_more {P : Nat → Bool} {n : Nat} : ∀ {m : Nat}, n ≤ m → (∀ i, n ≤ i → i < m → P i = false) → cnt P m = cnt P n
  | 0, h, _ => by rw [Nat.le_zero.mp h]
  | m + 1, h, k => by
    by_cases c : n = m + 1
    · rw [c]
    · show cnt P m + _ = _
      rw [cnt_more (m := m) (by omega) (fun i a b => k i a (by omega)), k m (by omega) (by omega)]; rfl
/-- sum of the lowest n digits -/
def dgs (b : Nat) : Nat → Nat → Nat
  | 0, _ => 0
  | n + 1, x => x % b + dgs b n (x / b)
theorem dgs2 : ∀ n x, dgs 2 n x = cnt (fun i => x.testBit i) n
  | 0, _ => rfl
  | n + 1, x => by
    rw [cnt_front]
    show x % 2 + dgs 2 n (x / 2) = _
    rw [dgs2 n (x / 2)]
    have e : cnt (fun i => (x / 2).testBit i) n = cnt (fun i => x.testBit (i + 1)) n := cnt_ext (fun i _ => by rw [Nat.testBit_succ])
    rw [e, Nat.testBit_zero]
    rcases Nat.mod_two_eq_zero_or_one x with z | z <;> rw [z] <;> rfl
theorem and_split (k x m : Nat) : x &&& m = (x % 2 ^ k &&& m % 2 ^ k) + 2 ^ k * ((x / 2 ^ k) &&& (m / 2 ^ k)) := by
  have := Nat.mod_add_div (x &&& m) (2 ^ k)
  rw [Nat.and_mod_two_pow, Nat.and_div_two_pow] at this
  exact this.symm
def mk1 : Nat → Nat
  | 0 => 0
  | n + 1 => 1 + 4 * mk1 n
def mk2 : Nat → Nat
  | 0 => 0
  | n + 1 => 3 + 16 * mk2 n
def mk3 : Nat → Nat
  | 0 => 0
  | n + 1 => 15 + 256 * mk3 n
def fp1 : Nat → Nat → Nat
  | 0, _ => 0
  | n + 1, x => (x % 4 - x % 4 / 2) + 4 * fp1 n (x / 4)
def fp2 : Nat → Nat → Nat
  | 0, _ => 0
  | n + 1, x => (x % 4 + x / 4 % 4) + 16 * fp2 n (x / 16)
def fp3 : Nat → Nat → Nat
  | 0, _ => 0
  | n + 1, x => (x % 16 + x / 16 % 16) + 256 * fp3 n (x / 256)
theorem fp1_eq : ∀ n x, x < 4 ^ n → (x / 2 &&& mk1 n) + fp1 n x = x
  | 0, x, h => by
    have : x = 0 := by simpa using h
    subst this; rfl
  | n + 1, x, h => by
    have hx : x / 4 < 4 ^ n := by rw [Nat.pow_succ] at h; omega
    have ih := fp1_eq n (x / 4) hx
    have e := and_split 2 (x / 2) (mk1 (n + 1))
    have m1 : mk1 (n + 1) % 2 ^ 2 = 1 := by show (1 + 4 * mk1 n) % 4 = 1; omega
    have m2 : mk1 (n + 1) / 2 ^ 2 = mk1 n := by show (1 + 4 * mk1 n) / 4 = _; omega
    rw [m1, m2, Nat.and_one_is_mod, show (2 : Nat) ^ 2 = 4 from rfl, show x / 2 / 4 = x / 4 / 2 from by omega] at e
    rw [e]
    show _ + ((x % 4 - x % 4 / 2) + 4 * fp1 n (x / 4)) = x
    omega
theorem fp1_dg : ∀ n x, dgs 4 n (fp1 n x) = dgs 2 (2 * n) x
  | 0, _ => rfl
  | n + 1, x => by
    have ih := fp1_dg n (x / 4)
    have e1 : fp1 (n + 1) x % 4 = x % 4 - x % 4 / 2 := by show ((x % 4 - x % 4 / 2) + 4 * fp1 n (x / 4)) % 4 = _; omega
    have e2 : fp1 (n + 1) x / 4 = fp1 n (x / 4) := by show ((x % 4 - x % 4 / 2) + 4 * fp1 n (x / 4)) / 4 = _; omega
    show fp1 (n + 1) x % 4 + dgs 4 n (fp1 (n + 1) x / 4) = x % 2 + (x / 2 % 2 + dgs 2 (2 * n) (x / 2 / 2))
    rw [e1, e2, ih, show x / 2 / 2 = x / 4 from by omega]
    omega
theorem fp2_eq : ∀ n x, x < 16 ^ n → (x &&& mk2 n) + (x / 4 &&& mk2 n) = fp2 n x
  | 0, x, h => by
    have : x = 0 := by simpa using h
    subst this; rfl
  | n + 1, x, h => by
    have hx : x / 16 < 16 ^ n := by rw [Nat.pow_succ] at h; omega
    have ih := fp2_eq n (x / 16) hx
    have m1 : mk2 (n + 1) % 2 ^ 4 = 3 := by show (3 + 16 * mk2 n) % 16 = 3; omega
    have m2 : mk2 (n + 1) / 2 ^ 4 = mk2 n := by show (3 + 16 * mk2 n) / 16 = _; omega
    have a3 : ∀ y : Nat, y &&& 3 = y % 4 := fun y => Nat.and_two_pow_sub_one_eq_mod y 2
    have e := and_split 4 x (mk2 (n + 1))
    have f := and_split 4 (x / 4) (mk2 (n + 1))
    rw [m1, m2, a3, show (2 : Nat) ^ 4 = 16 from rfl] at e f
    rw [show x / 4 / 16 = x / 16 / 4 from by omega] at f
    rw [e, f]
    show _ = (x % 4 + x / 4 % 4) + 16 * fp2 n (x / 16)
    omega
theorem fp2_dg : ∀ n x, dgs 16 n (fp2 n x) = dgs 4 (2 * n) x
  | 0, _ => rfl
  | n + 1, x => by
    have ih := fp2_dg n (x / 16)
    have e1 : fp2 (n + 1) x % 16 = x % 4 + x / 4 % 4 := by show ((x % 4 + x / 4 % 4) + 16 * fp2 n (x / 16)) % 16 = _; omega
    have e2 : fp2 (n + 1) x / 16 = fp2 n (x / 16) := by show ((x % 4 + x / 4 % 4) + 16 * fp2 n (x / 16)) / 16 = _; omega
    show fp2 (n + 1) x % 16 + dgs 16 n (fp2 (n + 1) x / 16) = x % 4 + (x / 4 % 4 + dgs 4 (2 * n) (x / 4 / 4))
    rw [e1, e2, ih, show x / 4 / 4 = x / 16 from by omega]
    omega
/-- all digits of base b are at most k -/
def dle (b k : Nat) : Nat → Nat → Prop
  | 0, _ => True
  | n + 1, x => x % b ≤ k ∧ dle b k n (x / b)
theorem fp1_le : ∀ n x, dle 4 2 n (fp1 n x)
  | 0, _ => trivial
  | n + 1, x => by
    refine ⟨?_, ?_⟩
    · show ((x % 4 - x % 4 / 2) + 4 * fp1 n (x / 4)) % 4 ≤ 2; omega
    · rw [show fp1 (n + 1) x / 4 = fp1 n (x / 4) from by show ((x % 4 - x % 4 / 2) + 4 * fp1 n (x / 4)) / 4 = _; omega]; exact fp1_le n (x / 4)
theorem fp2_le : ∀ n x, dle 4 2 (2 * n) x → dle 16 4 n (fp2 n x)
  | 0, _, _ => trivial
  | n + 1, x, h => by
    have h' : x % 4 ≤ 2 ∧ x / 4 % 4 ≤ 2 ∧ dle 4 2 (2 * n) (x / 4 / 4) := h
    refine ⟨?_, ?_⟩
    · show ((x % 4 + x / 4 % 4) + 16 * fp2 n (x / 16)) % 16 ≤ 4; omega
    · rw [show fp2 (n + 1) x / 16 = fp2 n (x / 16) from by show ((x % 4 + x / 4 % 4) + 16 * fp2 n (x / 16)) / 16 = _; omega]
      exact fp2_le n (x / 16) (by rw [show x / 16 = x / 4 / 4 from by omega]; exact h'.2.2)
theorem qu17 (x : Nat) (h1 : x % 16 ≤ 4) (h2 : x / 16 % 16 ≤ 4) (h3 : x / 256 % 16 ≤ 4) : (x + x / 16) / 256 = x / 256 + x / 256 / 16 := by
  obtain ⟨a, ha⟩ : ∃ a, a = x % 16 := ⟨_, rfl⟩
  obtain ⟨b, hb⟩ : ∃ b, b = x / 16 % 16 := ⟨_, rfl⟩
  obtain ⟨c, hc⟩ : ∃ c, c = x / 256 % 16 := ⟨_, rfl⟩
  obtain ⟨q, hq⟩ : ∃ q, q = x / 256 / 16 := ⟨_, rfl⟩
  rw [← ha] at h1; rw [← hb] at h2; rw [← hc] at h3
  have e0 : x / 256 = c + 16 * q := by omega
  have e1 : x / 16 = b + 16 * c + 256 * q := by omega
  have e2 : x = a + 16 * b + 256 * c + 4096 * q := by omega
  rw [← hq, e0, e1, e2]
  clear ha hb hc hq e0 e1 e2
  omega
theorem fp3_eq : ∀ n x, x < 256 ^ n → dle 16 4 (2 * n) x → ((x + x / 16) &&& mk3 n) = fp3 n x
  | 0, x, h, _ => by
    have : x = 0 := by simpa using h
    subst this; rfl
  | n + 1, x, h, q => by
    have hx : x / 256 < 256 ^ n := by rw [Nat.pow_succ] at h; omega
    have q' : x % 16 ≤ 4 ∧ x / 16 % 16 ≤ 4 ∧ dle 16 4 (2 * n) (x / 16 / 16) := q
    rw [show x / 16 / 16 = x / 256 from by omega] at q'
    have q3 : x / 256 % 16 ≤ 4 := by
      cases n with
      | zero => rw [show (256 : Nat) ^ 0 = 1 from rfl] at hx; omega
      | succ n => exact q'.2.2.1
    have ih := fp3_eq n (x / 256) hx q'.2.2
    have m1 : mk3 (n + 1) % 2 ^ 8 = 15 := by show (15 + 256 * mk3 n) % 256 = 15; omega
    have m2 : mk3 (n + 1) / 2 ^ 8 = mk3 n := by show (15 + 256 * mk3 n) / 256 = _; omega
    have a3 : ∀ y : Nat, y &&& 15 = y % 16 := fun y => Nat.and_two_pow_sub_one_eq_mod y 4
    have e := and_split 8 (x + x / 16) (mk3 (n + 1))
    rw [m1, m2, a3, show (2 : Nat) ^ 8 = 256 from rfl, show (x + x / 16) / 256 = x / 256 + x / 256 / 16 from qu17 x q'.1 q'.2.1 q3, ih] at e
    rw [e]
    show _ = (x % 16 + x / 16 % 16) + 256 * fp3 n (x / 256)
    omega
theorem fp3_dg : ∀ n x, dgs 256 n (fp3 n x) = dgs 16 (2 * n) x
  | 0, _ => rfl
  | n + 1, x => by
    have ih := fp3_dg n (x / 256)
    have e1 : fp3 (n + 1) x % 256 = x % 16 + x / 16 % 16 := by show ((x % 16 + x / 16 % 16) + 256 * fp3 n (x / 256)) % 256 = _; omega
    have e2 : fp3 (n + 1) x / 256 = fp3 n (x / 256) := by show ((x % 16 + x / 16 % 16) + 256 * fp3 n (x / 256)) / 256 = _; omega
    show fp3 (n + 1) x % 256 + dgs 256 n (fp3 (n + 1) x / 256) = x % 16 + (x / 16 % 16 + dgs 16 (2 * n) (x / 16 / 16))
    rw [e1, e2, ih, show x / 16 / 16 = x / 256 from by omega]
    omega
theorem fp2_lt : ∀ n x, dle 4 2 (2 * n) x → 3 * fp2 n x < 16 ^ n
  | 0, _, _ => Nat.one_pos
  | n + 1, x, h => by
    have h' : x % 4 ≤ 2 ∧ x / 4 % 4 ≤ 2 ∧ dle 4 2 (2 * n) (x / 4 / 4) := h
    rw [show x / 4 / 4 = x / 16 from by omega] at h'
    have := fp2_lt n (x / 16) h'.2.2
    show 3 * ((x % 4 + x / 4 % 4) + 16 * fp2 n (x / 16)) < 16 ^ (n + 1)
    rw [Nat.pow_succ]; omega
theorem fp3_le : ∀ n x, dle 16 4 (2 * n) x → dle 256 8 n (fp3 n x) ∧ fp3 n x < 256 ^ n
  | 0, _, _ => ⟨trivial, Nat.one_pos⟩
  | n + 1, x, h => by
    have h' : x % 16 ≤ 4 ∧ x / 16 % 16 ≤ 4 ∧ dle 16 4 (2 * n) (x / 16 / 16) := h
    rw [show x / 16 / 16 = x / 256 from by omega] at h'
    obtain ⟨i1, i2⟩ := fp3_le n (x / 256) h'.2.2
    refine ⟨⟨?_, ?_⟩, ?_⟩
    · show ((x % 16 + x / 16 % 16) + 256 * fp3 n (x / 256)) % 256 ≤ 8; omega
    · rw [show fp3 (n + 1) x / 256 = fp3 n (x / 256) from by show ((x % 16 + x / 16 % 16) + 256 * fp3 n (x / 256)) / 256 = _; omega]; exact i1
    · show (x % 16 + x / 16 % 16) + 256 * fp3 n (x / 256) < 256 ^ (n + 1)
      rw [Nat.pow_succ]; omega
theorem fp4_eq (w : Nat) (h : w < 256 ^ 4) (q : dle 256 8 4 w) : ((w + w / 256 + (w + w / 256) / 65536) &&& 63) = dgs 256 4 w ∧ w + w / 256 + (w + w / 256) / 65536 < 2 ^ 32 := by
  have q' : w % 256 ≤ 8 ∧ w / 256 % 256 ≤ 8 ∧ w / 256 / 256 % 256 ≤ 8 ∧ w / 256 / 256 / 256 % 256 ≤ 8 ∧ True := q
  have e : dgs 256 4 w = w % 256 + (w / 256 % 256 + (w / 256 / 256 % 256 + (w / 256 / 256 / 256 % 256 + 0))) := rfl
  rw [e, show (63 : Nat) = 2 ^ 6 - 1 from rfl, Nat.and_two_pow_sub_one_eq_mod, show (2 : Nat) ^ 6 = 64 from rfl]
  rw [show (256 : Nat) ^ 4 = 4294967296 from rfl] at h
  obtain ⟨a, ha⟩ : ∃ a, a = w % 256 := ⟨_, rfl⟩
  obtain ⟨b, hb⟩ : ∃ b, b = w / 256 % 256 := ⟨_, rfl⟩
  obtain ⟨c, hc⟩ : ∃ c, c = w / 256 / 256 % 256 := ⟨_, rfl⟩
  obtain ⟨d, hd⟩ : ∃ d, d = w / 256 / 256 / 256 % 256 := ⟨_, rfl⟩
  rw [← ha, ← hb, ← hc, ← hd] at q' ⊢
  have ew : w = a + 256 * b + 65536 * c + 16777216 * d := by omega
  have e1 : w / 256 = b + 256 * c + 65536 * d := by omega
  clear ha hb hc hd
  have e2 : (w + w / 256) / 65536 = c + d + 256 * d := by omega
  rw [e2, e1, ew]
  constructor <;> omega

theorem iushr_nat (x : Int32) {k : Nat} (h : k < 32) : (iushr x (nI k)).toBitVec.toNat = x.toBitVec.toNat / 2 ^ k := by
  have e : ∀ k, k < 32 → ((nI k).toUInt32 &&& Int32.toUInt32 31).toNat % 32 = k := by decide +kernel
  show (x.toUInt32 >>> ((nI k).toUInt32 &&& Int32.toUInt32 31)).toNat = _
  rw [UInt32.toNat_shiftRight, e k h, Nat.shiftRight_eq_div_pow]
  rfl
theorem i_and (x y : Int32) : (x &&& y).toBitVec.toNat = x.toBitVec.toNat &&& y.toBitVec.toNat := BitVec.toNat_and ..
theorem i_add (x y : Int32) (h : x.toBitVec.toNat + y.toBitVec.toNat < 2 ^ 32) : (x + y).toBitVec.toNat = x.toBitVec.toNat + y.toBitVec.toNat := by
  show (x.toBitVec + y.toBitVec).toNat = _
  rw [BitVec.toNat_add, Nat.mod_eq_of_lt h]
theorem i_sub (x y : Int32) (h : y.toBitVec.toNat ≤ x.toBitVec.toNat) : (x - y).toBitVec.toNat = x.toBitVec.toNat - y.toBitVec.toNat := by
  show (x.toBitVec - y.toBitVec).toNat = _
  have := x.toBitVec.isLt
  rw [BitVec.toNat_sub]
  omega
def pop (x : Int32) : Nat := cnt (tst x) 32
theorem pop_tb (x : Int32) : pop x = dgs 2 32 x.toBitVec.toNat := by
  rw [dgs2]; exact cnt_ext (fun i _ => rfl)
theorem bc1 (x : Int32) : (x - ((iushr x 1) &&& 1431655765)).toBitVec.toNat = fp1 16 x.toBitVec.toNat := by
  have h := fp1_eq 16 x.toBitVec.toNat x.toBitVec.isLt
  have e : ((iushr x 1) &&& 1431655765).toBitVec.toNat = (x.toBitVec.toNat / 2 &&& mk1 16) := by
    rw [i_and, show (1 : Int32) = nI 1 from rfl, iushr_nat x (by decide)]; rfl
  rw [i_sub _ _ (by rw [e]; omega), e]
  omega
theorem bc2 (x : Int32) (n : Nat) (q : dle 4 2 16 x.toBitVec.toNat) : ((x &&& 858993459) + ((iushr x 2) &&& 858993459)).toBitVec.toNat = fp2 8 x.toBitVec.toNat := by
  have h := fp2_eq 8 x.toBitVec.toNat x.toBitVec.isLt
  have l := fp2_lt 8 x.toBitVec.toNat q
  have e1 : (x &&& 858993459).toBitVec.toNat = x.toBitVec.toNat &&& mk2 8 := by rw [i_and]; rfl
  have e2 : ((iushr x 2) &&& 858993459).toBitVec.toNat = x.toBitVec.toNat / 4 &&& mk2 8 := by
    rw [i_and, show (2 : Int32) = nI 2 from rfl, iushr_nat x (by decide)]; rfl
  rw [show (16 : Nat) ^ 8 = 4294967296 from rfl] at l
  rw [i_add _ _ (by rw [e1, e2, h, show (2 : Nat) ^ 32 = 4294967296 from rfl]; omega), e1, e2, h]
theorem bc3 (x : Int32) (q : dle 16 4 8 x.toBitVec.toNat) (l : 3 * x.toBitVec.toNat < 2 ^ 32) : ((x + (iushr x 4)) &&& 252645135).toBitVec.toNat = fp3 4 x.toBitVec.toNat := by
  have h := fp3_eq 4 x.toBitVec.toNat x.toBitVec.isLt q
  have e1 : (iushr x 4).toBitVec.toNat = x.toBitVec.toNat / 16 := iushr_nat x (k := 4) (by decide)
  rw [i_and, i_add _ _ (by rw [e1]; omega), e1, ← h]
  rfl
theorem bc4 (x : Int32) (q : dle 256 8 4 x.toBitVec.toNat) : (((x + (iushr x 8)) + (iushr (x + (iushr x 8)) 16)) &&& 63).toBitVec.toNat = dgs 256 4 x.toBitVec.toNat := by
  have h := fp4_eq x.toBitVec.toNat x.toBitVec.isLt q
  have e1 : (iushr x 8).toBitVec.toNat = x.toBitVec.toNat / 256 := iushr_nat x (k := 8) (by decide)
  have e2 : (x + (iushr x 8)).toBitVec.toNat = x.toBitVec.toNat + x.toBitVec.toNat / 256 := by
    rw [i_add _ _ (by rw [e1]; omega), e1]
  have e3 : (iushr (x + (iushr x 8)) 16).toBitVec.toNat = (x.toBitVec.toNat + x.toBitVec.toNat / 256) / 65536 := by
    rw [← e2]; exact iushr_nat _ (k := 16) (by decide)
  rw [i_and, i_add _ _ (by rw [e2, e3]; exact h.2), e2, e3]
  exact h.1
theorem bc_all (x : Int32) : ((((((((x - ((iushr x 1) &&& 1431655765)) &&& 858993459) + ((iushr (x - ((iushr x 1) &&& 1431655765)) 2) &&& 858993459)) + (iushr (((x - ((iushr x 1) &&& 1431655765)) &&& 858993459) + ((iushr (x - ((iushr x 1) &&& 1431655765)) 2) &&& 858993459)) 4)) &&& 252645135) + (iushr (((((x - ((iushr x 1) &&& 1431655765)) &&& 858993459) + ((iushr (x - ((iushr x 1) &&& 1431655765)) 2) &&& 858993459)) + (iushr (((x - ((iushr x 1) &&& 1431655765)) &&& 858993459) + ((iushr (x - ((iushr x 1) &&& 1431655765)) 2) &&& 858993459)) 4)) &&& 252645135) 8)) + (iushr ((((((x - ((iushr x 1) &&& 1431655765)) &&& 858993459) + ((iushr (x - ((iushr x 1) &&& 1431655765)) 2) &&& 858993459)) + (iushr (((x - ((iushr x 1) &&& 1431655765)) &&& 858993459) + ((iushr (x - ((iushr x 1) &&& 1431655765)) 2) &&& 858993459)) 4)) &&& 252645135) + (iushr (((((x - ((iushr x 1) &&& 1431655765)) &&& 858993459) + ((iushr (x - ((iushr x 1) &&& 1431655765)) 2) &&& 858993459)) + (iushr (((x - ((iushr x 1) &&& 1431655765)) &&& 858993459) + ((iushr (x - ((iushr x 1) &&& 1431655765)) 2) &&& 858993459)) 4)) &&& 252645135) 8)) 16)) &&& 63) = nI (pop x) := by
  have h1 := bc1 x
  generalize x - ((iushr x 1) &&& 1431655765) = a at h1 ⊢
  have q1 : dle 4 2 16 a.toBitVec.toNat := by rw [h1]; exact fp1_le 16 _
  have h2 := bc2 a 0 q1
  generalize (a &&& 858993459) + ((iushr a 2) &&& 858993459) = b at h2 ⊢
  have q2 : dle 16 4 8 b.toBitVec.toNat := by rw [h2]; exact fp2_le 8 _ q1
  have l2 : 3 * b.toBitVec.toNat < 2 ^ 32 := by rw [h2]; exact fp2_lt 8 _ q1
  have h3 := bc3 b q2 l2
  generalize (b + (iushr b 4)) &&& 252645135 = c at h3 ⊢
  have q3 : dle 256 8 4 c.toBitVec.toNat := by rw [h3]; exact (fp3_le 4 _ q2).1
  have h4 := bc4 c q3
  have hp : pop x < 2 ^ 31 := Nat.lt_of_le_of_lt (cnt_le _ 32) (by decide)
  apply Int32.toBitVec_inj.mp
  apply BitVec.eq_of_toNat_eq
  rw [h4, h3, fp3_dg 4, h2, fp2_dg 8, h1, fp1_dg 16, ← pop_tb]
  show _ = (BitVec.ofNat 32 (pop x)).toNat
  rw [BitVec.toNat_ofNat, Nat.mod_eq_of_lt (by omega)]
theorem c_bitCount {E : EE} {d : Nat} {V : VH} {x : Int32} {K : Int32 → VH → Prop} (hk : K (nI (pop x)) V) : vMI E d M_J6_bitCount_0f7a4 [wi x] V K := by
  refine vMI.mono (vMI_pure (x := nI (pop x)) (fun G A => ?_)) (fun r V' z => by rw [z.1, z.2]; exact hk)
  refine wpM_of mk_J6_bitCount_0f7a4 (Nat.le_of_ble_eq_true rfl) ?_
  exact v_J6_bitCount_0f7a4_0 ⟨_, rfl, bc_all x, rfl⟩
theorem pop_or {x : Int32} {k : Nat} (hk : k < 32) (h : tst x k = false) : pop (x ||| (1 : Int32) <<< (nI k &&& 31)) = pop x + 1 := by
  refine cnt_set (k := k) h ?_ ?_ 32 hk
  · rw [tst_or, tst_one hk hk, decide_eq_true rfl, Bool.or_true]
  · intro i hi
    by_cases c : i < 32
    · rw [tst_or, tst_one hk c, decide_eq_false hi, Bool.or_false]
    · rw [tst_big _ (by omega), tst_big _ (by omega)]
theorem or_had {x : Int32} {k : Nat} (hk : k < 32) (h : tst x k = true) : x ||| (1 : Int32) <<< (nI k &&& 31) = x := by
  refine tst_ext (fun i hi => ?_)
  rw [tst_or, tst_one hk hi]
  by_cases c : i = k
  · rw [c, h]; rfl
  · rw [decide_eq_false c, Bool.or_false]
